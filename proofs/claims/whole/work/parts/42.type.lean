def byteW (w : Int32) (k : Nat) : Int32 := (w >>> ((8 * Int32.ofNat k) &&& 31)) &&& 255
def okB (v : Int32) : Prop := 32 ≤ v.toInt ∧ v.toInt ≤ 126
/-- the text with the bytes k-1 .. 0 of w behind it -/
def appsW (w : Int32) : Nat → Nat → (Nat → Int32) → Nat × (Nat → Int32)
  | 0, n, ch => (n, ch)
  | k + 1, n, ch => appsW w k (n + 1) (fun i => if i = n then byteW w k else ch i)
theorem low16 {v : Int32} (h : okB v) : ((Int32.toUInt32 v) % 65536).toInt32 = v := by
  have key : ∀ k : Nat, k < 127 → 32 ≤ k → ((Int32.toUInt32 (Int32.ofNat k)) % 65536).toInt32 = Int32.ofNat k := by decide +kernel
  have e : v = Int32.ofNat v.toInt.toNat := by
    apply Int32.toInt_inj.mp
    rw [of_small (by have := h.2; omega)]
    have := h.1
    omega
  have := key v.toInt.toNat (by have := h.2; omega) (by have := h.1; omega)
  rw [← e] at this
  exact this
theorem of_toInt {x : Int32} {k : Nat} (h : x.toInt = (k : Int)) (hk : k < 100000) : x = Int32.ofNat k := by
  apply Int32.toInt_inj.mp
  rw [of_small hk]
  exact h
theorem wt_put {g : Gm} {post : Int32 → StC → Prop} {mc ms : Nat} {w : Int32} : ∀ (k : Nat) (S : StC) (n : Nat) (ch : Nat → Int32) (x : Int32) (c0 z0 : Nat), k ≤ 4 → x.toInt = (k : Int) - 1 → TxC g S n ch → n + k ≤ 120 → (∀ j, j < k → okB (byteW w j)) → c0 + k ≤ mc → z0 + 142 * k ≤ ms → (∀ S1 : StC, ExB S S1 → TxC g S1 (appsW w k n ch).1 (appsW w k n ch).2 → post 1 S1) → wq_W_type_67 g post mc ms (k + 1) S w x c0 z0
  | 0, S, n, ch, x, c0, z0, hk, hx, hT, hn, hb, hc, hz, kk => by
    refine ⟨fun _ => kk S (ExB.refl S) hT, fun h => absurd ?_ h⟩
    rw [Int32.lt_iff_toInt_lt, hx]
    decide
  | k + 1, S, n, ch, x, c0, z0, hk, hx, hT, hn, hb, hc, hz, kk => by
    have ex : x = Int32.ofNat k := of_toInt (by omega) (by omega)
    refine ⟨fun h => ?_, fun _ => ?_⟩
    · rw [Int32.lt_iff_toInt_lt, hx] at h
      have k0 : (0 : Int32).toInt = 0 := rfl
      omega
    · unfold wp_W_byteOf
      refine ⟨1, 142, by omega, by omega, ?_⟩
      have eb : ((Int32.toUInt32 w >>> (Int32.toUInt32 (8 * x) &&& Int32.toUInt32 31)).toInt32 &&& 255) = byteW w k := by
        rw [ex]
        exact byte_same w k (by omega)
      rw [eb, low16 (hb k (by omega))]
      refine wa_append hT (by omega) (hb k (by omega)) (Nat.le_refl _) (Nat.le_refl _) (fun S1 hE hT1 => ?_)
      have k1 : (-1 : Int32).toInt = -1 := rfl
      exact wt_put k S1 (n + 1) _ (x + (-1)) (c0 + 1) (z0 + 142) (by omega) (by rw [i32_add (by omega) (by omega), k1, hx]; omega) hT1 (by omega) (fun j hj => hb j (by omega)) (by omega) (by omega) (fun S2 hE2 hT2 => kk S2 (hE.trans hE2) hT2)
