/-- the reference has typed n characters ch -/
def TxM (T : StM) (n : Nat) (ch : Nat → Int32) : Prop := T.1 1 = Int32.ofNat n ∧ n ≤ 120 ∧ ∀ i, i < n → T.2.1 0 i = ch i
def putM (w : Int32) : Nat → StM → StM
  | 0, T => T
  | k + 1, T => putM w k (upd T.1 1 (T.1 1 + 1), va_up T.2.1 0 (upd (T.2.1 0) (Int32.toNatClampNeg (T.1 1)) (byteW w k)), T.2.2)
theorem fw_69 {Q : Int32 → StM → Prop} {w : Int32} : ∀ (k : Nat) (T : StM) (n : Nat) (ch : Nat → Int32) (x : Int32), k ≤ 4 → x.toInt = (k : Int) - 1 → TxM T n ch → n + k ≤ 120 → Q 1 (putM w k T) → wq_M_type_69 Q (k + 1) T w 1 x
  | 0, T, n, ch, x, hk, hx, hT, hn, hq => by
    refine ⟨fun _ => ⟨rfl, hq⟩, fun h => absurd ?_ h⟩
    rw [Int32.lt_iff_toInt_lt, hx]
    decide
  | k + 1, T, n, ch, x, hk, hx, hT, hn, hq => by
    have ex : x = Int32.ofNat k := of_toInt (by omega) (by omega)
    refine ⟨fun h => ?_, fun _ => ⟨fun h => absurd h (by decide), fun _ => ⟨?_, ?_⟩⟩⟩
    · rw [Int32.lt_iff_toInt_lt, hx] at h
      have k0 : (0 : Int32).toInt = 0 := rfl
      omega
    · rw [hT.1]
      exact in_small (by rw [of_small (by omega)]; omega) (by rw [of_small (by omega)]; omega)
    · have k1 : (-1 : Int32).toInt = -1 := rfl
      have e1 : Int32.toNatClampNeg (T.1 1) = n := by
        rw [hT.1]
        exact Int32.toNatClampNeg_ofNat_of_lt (by omega)
      have hb : (w >>> ((8 * x) &&& 31)) &&& 255 = byteW w k := by
        rw [ex]
        rfl
      rw [hb]
      refine fw_69 k _ (n + 1) (fun i => if i = n then byteW w k else ch i) (x + (-1)) (by omega) (by rw [i32_add (by omega) (by omega), k1, hx]; omega) ⟨?_, by omega, fun i hi => ?_⟩ (by omega) hq
      · show T.1 1 + 1 = _
        rw [hT.1, of_succ]
      · show upd (T.2.1 0) (Int32.toNatClampNeg (T.1 1)) (byteW w k) i = _
        rw [e1]
        show (if i = n then byteW w k else T.2.1 0 i) = (if i = n then byteW w k else ch i)
        by_cases h : i = n
        · rw [if_pos h, if_pos h]
        · rw [if_neg h, if_neg h]
          exact hT.2.2 i (by omega)
theorem tx_put {w : Int32} : ∀ (k : Nat) (T : StM) (n : Nat) (ch : Nat → Int32), TxM T n ch → n + k ≤ 120 → TxM (putM w k T) (appsW w k n ch).1 (appsW w k n ch).2
  | 0, T, n, ch, hT, hn => hT
  | k + 1, T, n, ch, hT, hn => by
    refine tx_put k _ (n + 1) _ ⟨?_, by omega, fun i hi => ?_⟩ (by omega)
    · show T.1 1 + 1 = _
      rw [hT.1, of_succ]
    · have e1 : Int32.toNatClampNeg (T.1 1) = n := by
        rw [hT.1]
        exact Int32.toNatClampNeg_ofNat_of_lt (by omega)
      show upd (T.2.1 0) (Int32.toNatClampNeg (T.1 1)) (byteW w k) i = _
      rw [e1]
      show (if i = n then byteW w k else T.2.1 0 i) = (if i = n then byteW w k else ch i)
      by_cases h : i = n
      · rw [if_pos h, if_pos h]
      · rw [if_neg h, if_neg h]
        exact hT.2.2 i (by omega)
theorem fw_64z {Q : Int32 → StM → Prop} {w a : Int32} {T : StM} (hq : Q 0 T) : wq_M_type_64 Q T w a 0 := by
  refine ⟨1, fun _ => ⟨rfl, hq⟩, fun _ => ⟨fun _ => ⟨rfl, hq⟩, fun h => absurd rfl h⟩⟩
theorem fw_25z {Q : Int32 → StM → Prop} {w a : Int32} {T : StM} (hq : Q 0 T) : wq_M_type_25 Q T w a 0 := by
  refine ⟨1, fun _ => fw_64z hq, fun _ => ⟨fun _ => fw_64z hq, fun h => absurd rfl h⟩⟩
theorem okB_iff {v : Int32} : ¬ v < 32 → ¬ 126 < v → okB v := fun h1 h2 => by
  have k32 : (32 : Int32).toInt = 32 := rfl
  have k126 : (126 : Int32).toInt = 126 := rfl
  exact ⟨by have := i32_nlt h1; omega, by have := i32_nlt h2; omega⟩
theorem okB_no {v : Int32} : (v < 32 ∨ 126 < v) → ¬ okB v := fun h ⟨h1, h2⟩ => by
  have k32 : (32 : Int32).toInt = 32 := rfl
  have k126 : (126 : Int32).toInt = 126 := rfl
  rcases h with h | h <;> rw [Int32.lt_iff_toInt_lt] at h <;> omega
theorem fw_29 {Q : Int32 → StM → Prop} {w a : Int32} {T : StM} {k : Nat} (ha : a.toInt = (k : Int)) (hk : k ≤ 4) (hy : (∀ j, j < k → okB (byteW w j)) → wq_M_type_64 Q T w a 1) (hq : ¬ (∀ j, j < k → okB (byteW w j)) → Q 0 T) : ∀ (d i : Nat), i + d = k → (∀ j, j < i → okB (byteW w j)) → wq_M_type_29 Q (d + 2) T w a 1 (Int32.ofNat i)
  | 0, i, hi, hj => by
    refine ⟨fun _ => hy (fun j h => hj j (by omega)), fun h => absurd ?_ h⟩
    rw [Int32.le_iff_toInt_le, ha, of_small (by omega)]
    omega
  | d + 1, i, hi, hj => by
    refine ⟨fun h => ?_, fun _ => ⟨fun h => absurd h (by decide), fun _ => ?_⟩⟩
    · rw [Int32.le_iff_toInt_le, ha, of_small (by omega)] at h
      omega
    · have hb : (w >>> ((8 * Int32.ofNat i) &&& 31)) &&& 255 = byteW w i := rfl
      rw [hb]
      refine wt_in (fun h => ?_) (fun h1 h2 => ?_)
      · have hq0 := hq (fun hall => okB_no h (hall i (by omega)))
        exact ⟨fun _ => fw_64z hq0, fun _ => ⟨fun _ => fw_64z hq0, fun h => absurd rfl h⟩⟩
      · rw [of_succ]
        exact fw_29 ha hk hy hq d (i + 1) (by omega) (fun j h => by
          by_cases e : j = i
          · rw [e]
            exact okB_iff h1 h2
          · exact hj j (by omega))
