theorem c_adv {g : Gm} {ρ : Nat → Nat × Nat} {A : Ab} {S : StC} {post : Int32 → StC → Prop} (h : RC g ρ A S) (hX : A.tx.length ≤ 120) (hpos : A.pos ≤ A.tx.length) (k : ∀ ρ' S', RC g ρ' (nextT A) S' → StrX g S'.2.2.2.2.2.1 S'.2.2.2.2.2.2 ρ' (S'.2.2.1 2) (tokL (nextT A)) → post (bE (decide (0 < tlO A))) S') : wp_Rd_advance g post 2 (4 + tlO A) S := by
  have hle := nextT_le hpos
  have htk := tkO_le hpos
  refine ⟨0, 0, by omega, by omega, (A.tx.drop A.pos).length + 1, c_skip (A := A) (A.tx.drop A.pos) S A.pos 0 0 h hX rfl (by omega) (Nat.zero_le _) (Nat.zero_le _) (fun S1 h1 => ⟨2, 4 + tlO A, by omega, by omega, ?_⟩)⟩
  have h1 : RC g ρ (Ab.set_pos A (tkO A)) S1 := h1
  have eP : S1.1 3 = Int32.ofNat (tkO A) := h1.kPos
  have h2 : RC g ρ (Ab.set_tk (Ab.set_pos A (tkO A)) (tkO A)) (upd S1.1 4 (S1.1 3), S1.2) := (RC.mk (h1.kHere) (h1.kHereB) (h1.kMem) (h1.kPr) (h1.kPrB) (h1.kPbB) (h1.kOut) (h1.kFu) (h1.kHas) (h1.kHasB) (h1.kUp) (h1.kUpB) (h1.kTold) (h1.kToldB) (h1.kToldH) (h1.kMade) (h1.kMadeB) (h1.kWs) (h1.kRows) (h1.kLay) (h1.kPos) (eP) (h1.kTx) (h1.kBt) (h1.kG) (h1.kDs) (h1.kDsB) (h1.kDsS) (h1.kRs) (h1.kRsB) (h1.kRsS) (h1.kCs) (h1.kCsB) (h1.kCsS) (h1.kDr0) (h1.kDr) (h1.kOp) (h1.kOpB) (h1.kOpK) (h1.kOpA))
  have eQ : (upd S1.1 4 (S1.1 3)) 3 = Int32.ofNat (tkO A) := eP
  refine ⟨(A.tx.drop (tkO A)).length + 1, ?_⟩
  show wq_Rd_cutToken_5 g _ _ _ _ (upd S1.1 4 (S1.1 3), S1.2) ((upd S1.1 4 (S1.1 3)) 3) 0 0
  rw [eQ]
  refine c_cut (A := (Ab.set_tk A (tkO A))) (p := tkO A) (A.tx.drop (tkO A)) _ (tkO A) 0 0 h2 hX rfl (Nat.le_refl _) htk (by omega) (by show 0 + (4 + (tkO A + tlO A - tkO A)) ≤ 4 + tlO A; omega) (fun y ρ' S2 h3 hy => ?_)
  have el : tkO A + nb (A.tx.drop (tkO A)) - tkO A = tlO A := by
    show tkO A + tlO A - tkO A = tlO A
    omega
  have hy : StrX g S2.2.2.2.2.2.1 S2.2.2.2.2.2.2 ρ' y ((A.tx.drop (tkO A)).take (tkO A + nb (A.tx.drop (tkO A)) - tkO A)) := hy
  rw [el] at hy
  have hy : StrX g S2.2.2.2.2.2.1 S2.2.2.2.2.2.2 ρ' y (tokL (nextT A)) := hy
  have h3 : RC g ρ' (nextT A) S2 := h3
  have h4 : RC g ρ' (nextT A) (S2.1, S2.2.1, va_up S2.2.2.1 2 y, S2.2.2.2) := (RC.mk (h3.kHere) (h3.kHereB) (h3.kMem) (h3.kPr) (h3.kPrB) (h3.kPbB) (h3.kOut) (h3.kFu) (h3.kHas) (h3.kHasB) (h3.kUp) (h3.kUpB) (h3.kTold) (h3.kToldB) (h3.kToldH) (h3.kMade) (h3.kMadeB) (h3.kWs) (h3.kRows) (h3.kLay) (h3.kPos) (h3.kTk) (h3.kTx) (h3.kBt) (h3.kG) (h3.kDs) (h3.kDsB) (h3.kDsS) (h3.kRs) (h3.kRsB) (h3.kRsS) (h3.kCs) (h3.kCsB) (h3.kCsS) (h3.kDr0) (h3.kDr) (h3.kOp) (h3.kOpB) (h3.kOpK) (h3.kOpA))
  have hy4 : StrX g (S2.1, S2.2.1, va_up S2.2.2.1 2 y, S2.2.2.2).2.2.2.2.2.1 (S2.1, S2.2.1, va_up S2.2.2.1 2 y, S2.2.2.2).2.2.2.2.2.2 ρ' y (tokL (nextT A)) := hy
  have hlen : (tokL (nextT A)).length = tlO A := tok_len hle
  have hk := k ρ' (S2.1, S2.2.1, va_up S2.2.2.1 2 y, S2.2.2.2) h4 (by
    show StrX g S2.2.2.2.2.2.1 S2.2.2.2.2.2.2 ρ' (va_up S2.2.2.1 2 y 2) (tokL (nextT A))
    rw [va_up_self]
    exact hy)
  refine ⟨y, rfl, hy4.str, 0, 0, by omega, by omega, s_empty hy4 ⟨fun z => ⟨rfl, ?_⟩, fun z => ⟨rfl, ?_⟩⟩⟩
  · rw [hlen] at z
    rcases Nat.eq_zero_or_pos (tlO A) with q | q
    · rw [decide_eq_true q] at z
      exact absurd z (by decide)
    · rw [decide_eq_true q] at hk
      exact hk
  · rw [hlen] at z
    rcases Nat.eq_zero_or_pos (tlO A) with q | q
    · rw [decide_eq_false (by omega)] at hk
      exact hk
    · rw [decide_eq_false (by omega)] at z
      exact absurd rfl z
/-- the builder's text as a string -/
theorem c_toStr {g : Gm} {ρ : Nat → Nat × Nat} {A : Ab} {S : StC} {post : Option Nat → StC → Prop} (h : RC g ρ A S) (k : ∀ (y : Nat) (ρ' : Nat → Nat × Nat) (L' : List Nat) (F' : Nat → va_E), Ext S.2.2.2.2.2.1 S.2.2.2.2.2.2 ρ L' F' ρ' → StrX g L' F' ρ' y A.bt → post (some y) (S.1, S.2.1, S.2.2.1, S.2.2.2.1, S.2.2.2.2.1, L', F')) : wp_SB_toString g post 2 (4 + A.bt.length) S := by
  obtain ⟨b0, b2, cap, f, p, c1, c2, c3, c4, c5⟩ := h.kBt
  refine ⟨by omega, by omega, fun q1 hq1 => ⟨1, A.bt.length, by omega, by omega, 1, A.bt.length, by omega, by omega, 0, 0, by omega, by omega, 0, 0, by omega, by omega, 0, 0, by omega, by omega, 0, 0, by omega, by omega, by decide, fun _ => ⟨rfl, by decide, ?_⟩, fun z => absurd b0 z⟩⟩
  have m1 : q1 ∈ S.2.2.2.2.2.1 ++ [q1] := List.mem_append_right _ (List.mem_singleton.mpr rfl)
  have hne : S.2.2.1 0 ≠ q1 := fun w => hq1 (w ▸ p.1)
  refine ⟨[.null, .int 0, .int 0, .int 0], m1, va_up_self _ _ _, (show 1 < 4 by decide), _, rfl, 1, A.bt.length, by omega, by omega, ?_⟩
  show wp_Ar_copyOfRange g _ _ _ _ (S.2.2.1 0) (Int32.ofNat 0) (S.1 2)
  rw [b2]
  refine r_copy (f := f) (n := cap) (p := 0) (q := A.bt.length) (List.mem_append_left _ p.1) ?_ c3 (Nat.zero_le _) c1 (by omega) (fun y F' f' hy e1 e2 e3 e4 => ?_)
  · show va_up (va_up S.2.2.2.2.2.2 q1 _) q1 _ (S.2.2.1 0) = _
    rw [va_up_ne _ _ hne, va_up_ne _ _ hne]
    exact p.2.2
  · have hyL : y ∉ S.2.2.2.2.2.1 := fun w => hy (List.mem_append_left _ w)
    have hyq : q1 ≠ y := fun w => hy (by rw [← w]; exact m1)
    have m2 : q1 ∈ (S.2.2.2.2.2.1 ++ [q1]) ++ [y] := List.mem_append_left _ m1
    have f1 : F' q1 = .inr (3, [.null, .int 0, .int 0, .int 0]) := by
      rw [e2 q1 hyq]
      exact va_up_self _ _ _
    refine ⟨y, rfl, [.null, .int 0, .int 0, .int 0], m2, f1, (show 0 < 4 by decide), ?_⟩
    refine k q1 (va_up (va_up ρ q1 (8, 0)) y (9, 0)) ((S.2.2.2.2.2.1 ++ [q1]) ++ [y]) _ (fun c hc => ?_) (Or.inr ⟨y, .int 0, .int 0, f', ?_, ?_, e4, c4, ?_⟩)
    · have n1 : c ≠ q1 := fun w => hq1 (w ▸ hc)
      have n2 : c ≠ y := fun w => hyL (w ▸ hc)
      refine ⟨List.mem_append_left _ (List.mem_append_left _ hc), ?_, ?_⟩
      · show va_up F' q1 _ c = _
        rw [va_up_ne _ _ n1, e2 c n2]
        show va_up (va_up S.2.2.2.2.2.2 q1 _) q1 _ c = _
        rw [va_up_ne _ _ n1, va_up_ne _ _ n1]
      · rw [va_up_ne _ _ n2, va_up_ne _ _ n1]
    · refine ⟨m2, ?_, va_up_self _ _ _⟩
      rw [va_up_ne _ _ hyq, va_up_self]
    · refine ⟨List.mem_append_right _ (List.mem_singleton.mpr rfl), va_up_self _ _ _, ?_⟩
      show va_up F' q1 _ y = _
      rw [va_up_ne _ _ (fun w => hyq w.symm)]
      exact e1
    · intro i c hc
      have hi := get_lt hc
      rw [e3 i (by omega), show 0 + i = i by omega]
      exact c5 i c hc
theorem c_setLen {g : Gm} {ρ : Nat → Nat × Nat} {A : Ab} {S : StC} {post : StC → Prop} (h : RC g ρ A S) (k : ∀ S', RC g ρ (Ab.set_bt A ([])) S' → post S') : wp_SB_setLength g post 0 0 S 0 := by
  obtain ⟨b0, b2, cap, f, p, c1, c2, c3, c4, c5⟩ := h.kBt
  have hcap : (0 : Int32) - ((Int32.ofNat cap) >>> ((S.1 0) &&& 31)) ≤ 0 := by
    rw [b0]
    rcases c2 with e | e | e | e <;> subst e <;> decide
  have nil : ∀ (n1 : Int32), RC g ρ (Ab.set_bt A ([])) (upd (upd S.1 1 n1) 2 0, S.2) := fun n1 => (RC.mk (h.kHere) (h.kHereB) (h.kMem) (h.kPr) (h.kPrB) (h.kPbB) (h.kOut) (h.kFu) (h.kHas) (h.kHasB) (h.kUp) (h.kUpB) (h.kTold) (h.kToldB) (h.kToldH) (h.kMade) (h.kMadeB) (h.kWs) (h.kRows) (h.kLay) (h.kPos) (h.kTk) (h.kTx) (⟨b0, rfl, cap, f, p, Nat.zero_le _, c2, c3, Nat.zero_le _, fun i c hc => absurd (get_lt hc) (Nat.not_lt_zero _)⟩) (h.kG) (h.kDs) (h.kDsB) (h.kDsS) (h.kRs) (h.kRsB) (h.kRsS) (h.kCs) (h.kCsB) (h.kCsS) (h.kDr0) (h.kDr) (h.kOp) (h.kOpB) (h.kOpK) (h.kOpA))
  have nil0 : RC g ρ (Ab.set_bt A ([])) (upd S.1 2 0, S.2) := (RC.mk (h.kHere) (h.kHereB) (h.kMem) (h.kPr) (h.kPrB) (h.kPbB) (h.kOut) (h.kFu) (h.kHas) (h.kHasB) (h.kUp) (h.kUpB) (h.kTold) (h.kToldB) (h.kToldH) (h.kMade) (h.kMadeB) (h.kWs) (h.kRows) (h.kLay) (h.kPos) (h.kTk) (h.kTx) (⟨b0, rfl, cap, f, p, Nat.zero_le _, c2, c3, Nat.zero_le _, fun i c hc => absurd (get_lt hc) (Nat.not_lt_zero _)⟩) (h.kG) (h.kDs) (h.kDsB) (h.kDsS) (h.kRs) (h.kRsB) (h.kRsS) (h.kCs) (h.kCsB) (h.kCsS) (h.kDr0) (h.kDr) (h.kOp) (h.kOpB) (h.kOpK) (h.kOpA))
  refine ⟨0, 0, by omega, by omega, by decide, 0, 0, by omega, by omega, cap, f, p.1, p.2.2, fun _ => ⟨?_, fun _ => k _ nil0, fun _ => k _ (nil 1)⟩, fun z => absurd hcap z⟩
  rw [b2, r_le (by decide) (by omega)]
  exact Nat.zero_le _
