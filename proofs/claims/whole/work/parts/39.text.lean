/-- the builder holds n characters ch -/
def TxC (g : Gm) (S : StC) (n : Nat) (ch : Nat → Int32) : Prop := S.1 0 = 0 ∧ S.1 2 = Int32.ofNat n ∧ ∃ (cap : Nat) (f : Nat → Int32), S.2.2.1 0 ∈ S.2.2.2.2.2.1 ∧ S.2.2.2.2.2.2 (S.2.2.1 0) = .inl (g.2.1 3, cap, .inl f) ∧ n ≤ cap ∧ (cap = 16 ∨ cap = 34 ∨ cap = 70 ∨ cap = 142) ∧ (∀ i, fits .byte (.int (f i)) = true) ∧ ∀ i, i < n → f i = ch i
/-- S1 is S but for the builder's own: its count, its array (perhaps a new one) -/
def ExB (S S1 : StC) : Prop := (∀ k, k ≠ 2 → S1.1 k = S.1 k) ∧ S1.2.1 = S.2.1 ∧ (∀ k, k ≠ 0 → S1.2.2.1 k = S.2.2.1 k) ∧ S1.2.2.2.1 = S.2.2.2.1 ∧ S1.2.2.2.2.1 = S.2.2.2.2.1 ∧ (∀ a, a ∈ S.2.2.2.2.2.1 → a ∈ S1.2.2.2.2.2.1) ∧ (∀ a, a ∈ S.2.2.2.2.2.1 → a ≠ S.2.2.1 0 → S1.2.2.2.2.2.2 a = S.2.2.2.2.2.2 a) ∧ (S1.2.2.1 0 = S.2.2.1 0 ∨ S1.2.2.1 0 ∉ S.2.2.2.2.2.1)
theorem ExB.refl (S : StC) : ExB S S := ⟨fun _ _ => rfl, rfl, fun _ _ => rfl, rfl, rfl, fun _ h => h, fun _ _ _ => rfl, Or.inl rfl⟩
theorem ExB.trans {S S1 S2 : StC} (h : ExB S S1) (h' : ExB S1 S2) : ExB S S2 := by
  obtain ⟨a1, a2, a3, a4, a5, a6, a7, a8⟩ := h
  obtain ⟨b1, b2, b3, b4, b5, b6, b7, b8⟩ := h'
  refine ⟨fun k hk => (b1 k hk).trans (a1 k hk), b2.trans a2, fun k hk => (b3 k hk).trans (a3 k hk), b4.trans a4, b5.trans a5, fun a ha => b6 a (a6 a ha), fun a ha hn => (b7 a (a6 a ha) (fun e => ?_)).trans (a7 a ha hn), ?_⟩
  · rcases a8 with h8 | h8
    · exact hn (e.trans h8)
    · exact h8 (e ▸ ha)
  · rcases b8 with h9 | h9
    · rcases a8 with h8 | h8
      · exact Or.inl (h9.trans h8)
      · exact Or.inr (by rw [h9]; exact h8)
    · exact Or.inr (fun hm => h9 (a6 _ hm))
theorem of_small {n : Nat} (h : n < 100000) : (Int32.ofNat n).toInt = (n : Int) := Int32.toInt_ofNat_of_lt (by omega)
theorem of_succ (n : Nat) : Int32.ofNat n + 1 = Int32.ofNat (n + 1) := (Int32.ofNat_add n 1).symm
theorem nar_ok {v : Int32} (h : 32 ≤ v.toInt ∧ v.toInt ≤ 126) : vp_nar .byte ((Int32.toInt8 v).toInt32) = v ∧ fits .byte (.int v) = true := by
  have key : ∀ k : Nat, k < 127 → 32 ≤ k → (vp_nar .byte ((Int32.toInt8 (Int32.ofNat k)).toInt32) = Int32.ofNat k ∧ fits .byte (.int (Int32.ofNat k)) = true) := by decide +kernel
  have e : v = Int32.ofNat v.toInt.toNat := by
    apply Int32.toInt_inj.mp
    rw [of_small (by omega)]
    omega
  have := key v.toInt.toNat (by omega) (by omega)
  rw [← e] at this
  exact this
/-- what append does when there is room -/
theorem wa_put {g : Gm} {S : StC} {n : Nat} {ch : Nat → Int32} {v : Int32} {post : Option Nat → StC → Prop} {cap : Nat} {f : Nat → Int32} (h0 : S.1 0 = 0) (h2 : S.1 2 = Int32.ofNat n) (hm : S.2.2.1 0 ∈ S.2.2.2.2.2.1) (hf : S.2.2.2.2.2.2 (S.2.2.1 0) = .inl (g.2.1 3, cap, .inl f)) (hn : n < cap) (hc : cap = 16 ∨ cap = 34 ∨ cap = 70 ∨ cap = 142) (hb : ∀ i, fits .byte (.int (f i)) = true) (hch : ∀ i, i < n → f i = ch i) (hv : 32 ≤ v.toInt ∧ v.toInt ≤ 126)
    (kk : ∀ S1 : StC, ExB S S1 → TxC g S1 (n + 1) (fun i => if i = n then v else ch i) → post (some (g.2.2 1)) S1) :
    post (some (g.2.2 1)) ((upd S.1 2 (S.1 2 + 1)), S.2.1, S.2.2.1, S.2.2.2.1, S.2.2.2.2.1, S.2.2.2.2.2.1, (va_up S.2.2.2.2.2.2 (S.2.2.1 0) (.inl (g.2.1 3, cap, .inl (upd f (Int32.toNatClampNeg (S.1 2)) (vp_nar .byte ((Int32.toInt8 v).toInt32))))))) := by
  have e2 : Int32.toNatClampNeg (S.1 2) = n := by
    rw [h2]
    exact Int32.toNatClampNeg_ofNat_of_lt (by omega)
  rw [(nar_ok hv).1, e2]
  refine kk _ ⟨fun k hk => ?_, rfl, fun _ _ => rfl, rfl, rfl, fun _ h => h, fun a _ hne => va_up_ne _ _ hne, Or.inl rfl⟩ ⟨?_, ?_, cap, upd f n v, hm, ?_, by omega, hc, fun i => ?_, fun i hi => ?_⟩
  · show (if k = 2 then _ else S.1 k) = S.1 k
    rw [if_neg hk]
  · exact h0
  · show S.1 2 + 1 = _
    rw [h2, of_succ]
  · show va_up _ _ _ _ = _
    unfold va_up
    rw [if_pos rfl]
  · show fits .byte (.int (if i = n then v else f i)) = true
    by_cases hi : i = n
    · rw [if_pos hi]
      exact (nar_ok hv).2
    · rw [if_neg hi]
      exact hb i
  · show (if i = n then v else f i) = (if i = n then v else ch i)
    by_cases h : i = n
    · rw [if_pos h, if_pos h]
    · rw [if_neg h, if_neg h]
      exact hch i (by omega)
