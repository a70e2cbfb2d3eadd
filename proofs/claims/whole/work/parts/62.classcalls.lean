def Xc (c : Nat) (r : Nat × Nat) : Prop := (r.1 = 1 ∨ r.1 = 2 ∨ r.1 = 3) ∧ r.2 = c
theorem Xc_no {c k n : Nat} (h1 : ¬ n = 1) (h2 : ¬ n = 2) (h3 : ¬ n = 3) : ¬ Xc c (n, k) := by
  intro z
  rcases z.1 with q | q | q
  · exact h1 q
  · exact h2 q
  · exact h3 q
theorem Xc_ne {c c' n : Nat} (h : c' ≠ c) : ¬ Xc c (n, c') := fun z => h z.2
theorem RC.calls {g : Gm} {ρ : Nat → Nat × Nat} {A : Ab} {S : StC} {F' : Nat → va_E} {c : Nat} {l' : List Fr} (h : RC g ρ A S) (hc : Chg ρ (Xc c) S.2.2.2.2.2.2 F') (hl : ∃ w nx lo fl fc, CallAt g (S.2.2.2.2.1 1) S.2.2.2.2.2.1 F' ρ c w nx lo fl fc) (hv : S.1 5 = Int32.ofNat l'.length) (hB : l'.length ≤ 16) (hf : FrC g (S.2.2.2.2.1 0) (S.2.2.2.2.1 1) S.2.2.2.2.2.1 F' ρ l') : RC g ρ (Ab.set_cs A (l')) (S.1, S.2.1, S.2.2.1, S.2.2.2.1, S.2.2.2.2.1, S.2.2.2.2.2.1, F') := by
  have n4 : ∀ k, ¬ Xc c (4, k) := fun k => Xc_no (by decide) (by decide) (by decide)
  have n5 : ∀ k, ¬ Xc c (5, k) := fun k => Xc_no (by decide) (by decide) (by decide)
  have n6 : ∀ k, ¬ Xc c (6, k) := fun k => Xc_no (by decide) (by decide) (by decide)
  have n7 : ∀ k, ¬ Xc c (7, k) := fun k => Xc_no (by decide) (by decide) (by decide)
  have n8 : ∀ k, ¬ Xc c (8, k) := fun k => Xc_no (by decide) (by decide) (by decide)
  have n9 : ∀ k, ¬ Xc c (9, k) := fun k => Xc_no (by decide) (by decide) (by decide)
  have n10 : ∀ k, ¬ Xc c (10, k) := fun k => Xc_no (by decide) (by decide) (by decide)
  refine (RC.mk (h.kHere) (h.kHereB) (h.kMem) (h.kPr) (h.kPrB) (h.kPbB) (h.kOut) (h.kFu) (h.kHas) (h.kHasB) (h.kUp) (h.kUpB) (h.kTold) (h.kToldB) (h.kToldH) (h.kMade) (h.kMadeB) (fun k w hk => ?_) (fun b hb => (h.kRows b hb).chg hc (n7 b)) (fun c' hcc => ?_) (h.kPos) (h.kTk) (h.kTx.chg hc (n8 0) (n9 0)) (h.kBt.chg hc (n10 0)) (h.kG) (h.kDs) (h.kDsB) (h.kDsS) (h.kRs) (h.kRsB) (h.kRsS) (hv) (hB) (hf) (h.kDr0) (fun w hw => ?_) (h.kOp) (h.kOpB) (h.kOpK) (h.kOpA))
  · obtain ⟨a, e, hw⟩ := h.kWs k w hk
    exact ⟨a, e, hw.chg hc (n4 k) (n5 k) (n6 k) (n8 0) (n9 0)⟩
  · by_cases e : c' = c
    · subst e
      exact hl
    · obtain ⟨w, nx, lo, fl, fc, q⟩ := h.kLay c' hcc
      exact ⟨w, nx, lo, fl, fc, q.chg hc (Xc_ne e) (Xc_ne e) (Xc_ne e)⟩
  · obtain ⟨hm, a, e, q⟩ := h.kDr w hw
    exact ⟨hm, a, e, q.chg hc (n4 _) (n5 _) (n6 _) (n8 0) (n9 0)⟩
/-- the call that is being done -/
def TopC (g : Gm) (ρ : Nat → Nat × Nat) (A : Ab) (S : StC) (fr : Fr) (l : List Fr) (a b x y : Nat) (fl fc : Nat → Int32) : Prop := (S.2.2.2.2.1 0 fr.w = some a) ∧ (S.2.2.2.2.1 1 l.length = some b) ∧ (PA S.2.2.2.2.2.1 S.2.2.2.2.2.2 ρ b (1, l.length) (.inr (9, [va_rf (some a), .int (Int32.ofNat fr.nx), .ref x, .ref y, .int (Int32.ofNat fr.lp.length)]))) ∧ (PA S.2.2.2.2.2.1 S.2.2.2.2.2.2 ρ x (2, l.length) (.inl (g.2.1 0, 4, .inl fl))) ∧ (PA S.2.2.2.2.2.1 S.2.2.2.2.2.2 ρ y (3, l.length) (.inl (g.2.1 0, 4, .inl fc))) ∧ (Stk fc (fr.lp.map (fun p => p.1))) ∧ (Stk fl (fr.lp.map (fun p => p.2))) ∧ (fr.lp.length ≤ 4) ∧ (FrC g (S.2.2.2.2.1 0) (S.2.2.2.2.1 1) S.2.2.2.2.2.1 S.2.2.2.2.2.2 ρ l) ∧ (l.length < 16) ∧ (S.1 5 = Int32.ofNat (l.length + 1))
theorem TopC.q0 {g : Gm} {ρ : Nat → Nat × Nat} {A : Ab} {S : StC} {fr : Fr} {l : List Fr} {a b x y : Nat} {fl fc : Nat → Int32} (h : TopC g ρ A S fr l a b x y fl fc) : S.2.2.2.2.1 0 fr.w = some a := h.1
theorem TopC.q1 {g : Gm} {ρ : Nat → Nat × Nat} {A : Ab} {S : StC} {fr : Fr} {l : List Fr} {a b x y : Nat} {fl fc : Nat → Int32} (h : TopC g ρ A S fr l a b x y fl fc) : S.2.2.2.2.1 1 l.length = some b := h.2.1
theorem TopC.q2 {g : Gm} {ρ : Nat → Nat × Nat} {A : Ab} {S : StC} {fr : Fr} {l : List Fr} {a b x y : Nat} {fl fc : Nat → Int32} (h : TopC g ρ A S fr l a b x y fl fc) : PA S.2.2.2.2.2.1 S.2.2.2.2.2.2 ρ b (1, l.length) (.inr (9, [va_rf (some a), .int (Int32.ofNat fr.nx), .ref x, .ref y, .int (Int32.ofNat fr.lp.length)])) := h.2.2.1
theorem TopC.q3 {g : Gm} {ρ : Nat → Nat × Nat} {A : Ab} {S : StC} {fr : Fr} {l : List Fr} {a b x y : Nat} {fl fc : Nat → Int32} (h : TopC g ρ A S fr l a b x y fl fc) : PA S.2.2.2.2.2.1 S.2.2.2.2.2.2 ρ x (2, l.length) (.inl (g.2.1 0, 4, .inl fl)) := h.2.2.2.1
theorem TopC.q4 {g : Gm} {ρ : Nat → Nat × Nat} {A : Ab} {S : StC} {fr : Fr} {l : List Fr} {a b x y : Nat} {fl fc : Nat → Int32} (h : TopC g ρ A S fr l a b x y fl fc) : PA S.2.2.2.2.2.1 S.2.2.2.2.2.2 ρ y (3, l.length) (.inl (g.2.1 0, 4, .inl fc)) := h.2.2.2.2.1
theorem TopC.q5 {g : Gm} {ρ : Nat → Nat × Nat} {A : Ab} {S : StC} {fr : Fr} {l : List Fr} {a b x y : Nat} {fl fc : Nat → Int32} (h : TopC g ρ A S fr l a b x y fl fc) : Stk fc (fr.lp.map (fun p => p.1)) := h.2.2.2.2.2.1
theorem TopC.q6 {g : Gm} {ρ : Nat → Nat × Nat} {A : Ab} {S : StC} {fr : Fr} {l : List Fr} {a b x y : Nat} {fl fc : Nat → Int32} (h : TopC g ρ A S fr l a b x y fl fc) : Stk fl (fr.lp.map (fun p => p.2)) := h.2.2.2.2.2.2.1
theorem TopC.q7 {g : Gm} {ρ : Nat → Nat × Nat} {A : Ab} {S : StC} {fr : Fr} {l : List Fr} {a b x y : Nat} {fl fc : Nat → Int32} (h : TopC g ρ A S fr l a b x y fl fc) : fr.lp.length ≤ 4 := h.2.2.2.2.2.2.2.1
theorem TopC.q8 {g : Gm} {ρ : Nat → Nat × Nat} {A : Ab} {S : StC} {fr : Fr} {l : List Fr} {a b x y : Nat} {fl fc : Nat → Int32} (h : TopC g ρ A S fr l a b x y fl fc) : FrC g (S.2.2.2.2.1 0) (S.2.2.2.2.1 1) S.2.2.2.2.2.1 S.2.2.2.2.2.2 ρ l := h.2.2.2.2.2.2.2.2.1
theorem TopC.q9 {g : Gm} {ρ : Nat → Nat × Nat} {A : Ab} {S : StC} {fr : Fr} {l : List Fr} {a b x y : Nat} {fl fc : Nat → Int32} (h : TopC g ρ A S fr l a b x y fl fc) : l.length < 16 := h.2.2.2.2.2.2.2.2.2.1
theorem TopC.q10 {g : Gm} {ρ : Nat → Nat × Nat} {A : Ab} {S : StC} {fr : Fr} {l : List Fr} {a b x y : Nat} {fl fc : Nat → Int32} (h : TopC g ρ A S fr l a b x y fl fc) : S.1 5 = Int32.ofNat (l.length + 1) := h.2.2.2.2.2.2.2.2.2.2
theorem TopC.mk {g : Gm} {ρ : Nat → Nat × Nat} {A : Ab} {S : StC} {fr : Fr} {l : List Fr} {a b x y : Nat} {fl fc : Nat → Int32} (q00 : S.2.2.2.2.1 0 fr.w = some a) (q10 : S.2.2.2.2.1 1 l.length = some b) (q20 : PA S.2.2.2.2.2.1 S.2.2.2.2.2.2 ρ b (1, l.length) (.inr (9, [va_rf (some a), .int (Int32.ofNat fr.nx), .ref x, .ref y, .int (Int32.ofNat fr.lp.length)]))) (q30 : PA S.2.2.2.2.2.1 S.2.2.2.2.2.2 ρ x (2, l.length) (.inl (g.2.1 0, 4, .inl fl))) (q40 : PA S.2.2.2.2.2.1 S.2.2.2.2.2.2 ρ y (3, l.length) (.inl (g.2.1 0, 4, .inl fc))) (q50 : Stk fc (fr.lp.map (fun p => p.1))) (q60 : Stk fl (fr.lp.map (fun p => p.2))) (q70 : fr.lp.length ≤ 4) (q80 : FrC g (S.2.2.2.2.1 0) (S.2.2.2.2.1 1) S.2.2.2.2.2.1 S.2.2.2.2.2.2 ρ l) (q90 : l.length < 16) (q100 : S.1 5 = Int32.ofNat (l.length + 1)) : TopC g ρ A S fr l a b x y fl fc := ⟨q00, q10, q20, q30, q40, q50, q60, q70, q80, q90, q100⟩
theorem RC.top {g : Gm} {ρ : Nat → Nat × Nat} {A : Ab} {S : StC} {fr : Fr} {l : List Fr} (h : RC g ρ A S) (hc : A.cs = fr :: l) : ∃ a b x y fl fc, TopC g ρ A S fr l a b x y fl fc := by
  obtain ⟨d1, d2, d3, d4, d5⟩ := c_depth h hc
  have hs := h.kCsS
  have hE := h.kCs
  rw [hc] at hs hE
  obtain ⟨⟨a, fl, fc, e0, ⟨b, x, y, e1, p1, p2, p3⟩, s1, s2, hl⟩, s3⟩ := hs
  exact ⟨a, b, x, y, fl, fc, TopC.mk e0 e1 p1 p2 p3 s1 s2 hl s3 d4 hE⟩
/-- the call steps to another place -/
theorem TopC.next {g : Gm} {ρ : Nat → Nat × Nat} {A : Ab} {S : StC} {fr : Fr} {l : List Fr} {a b x y : Nat} {fl fc : Nat → Int32} {v : Int32} {n : Nat} (t : TopC g ρ A S fr l a b x y fl fc) (h : RC g ρ A S) (hv : v = Int32.ofNat n) : RC g ρ (Ab.set_cs A (⟨fr.w, n, fr.lp⟩ :: l)) (S.1, S.2.1, S.2.2.1, S.2.2.2.1, S.2.2.2.2.1, S.2.2.2.2.2.1, va_up S.2.2.2.2.2.2 b (.inr (9, [va_rf (some a), .int v, .ref x, .ref y, .int (Int32.ofNat fr.lp.length)]))) := by
  have hX : Xc l.length (ρ b) := by
    rw [t.q2.2.1]
    exact ⟨Or.inl rfl, rfl⟩
  have hc : Chg ρ (Xc l.length) S.2.2.2.2.2.2 (va_up S.2.2.2.2.2.2 b (.inr (9, [va_rf (some a), .int v, .ref x, .ref y, .int (Int32.ofNat fr.lp.length)]))) := Chg.put (Chg.refl _ _ _) hX
  have n12 : ((2, l.length) : Nat × Nat) ≠ (1, l.length) := fun z => absurd (congrArg Prod.fst z) (show ¬ (2 : Nat) = 1 by decide)
  have n13 : ((3, l.length) : Nat × Nat) ≠ (1, l.length) := fun z => absurd (congrArg Prod.fst z) (show ¬ (3 : Nat) = 1 by decide)
  have hC : CallAt g (S.2.2.2.2.1 1) S.2.2.2.2.2.1 (va_up S.2.2.2.2.2.2 b (.inr (9, [va_rf (some a), .int v, .ref x, .ref y, .int (Int32.ofNat fr.lp.length)]))) ρ l.length (some a) (Int32.ofNat n) (Int32.ofNat fr.lp.length) fl fc := by
    subst hv
    exact ⟨b, x, y, t.q1, t.q2.put, t.q3.ne t.q2 n12, t.q4.ne t.q2 n13⟩
  refine h.calls hc ⟨_, _, _, _, _, hC⟩ t.q10 (show l.length + 1 ≤ 16 by have := t.q9; omega) ⟨⟨a, fl, fc, t.q0, hC, t.q5, t.q6, t.q7⟩, t.q8.chg hc (fun c hc => ⟨Xc_ne (by omega), Xc_ne (by omega), Xc_ne (by omega)⟩)⟩
theorem c_popE {g : Gm} {ρ : Nat → Nat × Nat} {A : Ab} {S : StC} {post : Int32 → StC → Prop} {x : Int32} {l : List Int32} (h : RC g ρ A S) (hd : A.ds = x :: l) (k : RC g ρ (Ab.set_ds A (l)) (upd S.1 8 (S.1 8 - 1), S.2) → post x (upd S.1 8 (S.1 8 - 1), S.2)) : wp_Nd_pop g post S := by
  have hb := h.kDsB
  rw [hd] at hb
  simp at hb
  have e0 : S.1 8 = Int32.ofNat (l.length + 1) := by rw [h.kDs, hd]; rfl
  have e : S.1 8 - 1 = Int32.ofNat l.length := by
    rw [e0]
    exact n_sub (a := l.length + 1) (b := 1) (by omega)
  have hs := h.kDsS
  rw [hd] at hs
  refine ⟨fun z => ?_, fun _ => ⟨?_, ?_⟩⟩
  · rw [e0, l_eq (by omega) (by decide)] at z
    omega
  · rw [e]
    exact n_in (by omega) (by omega)
  · have hv : S.2.1 0 (S.1 8 - 1).toNatClampNeg = x := by rw [e, n_cl (by omega), hs.1]
    rw [hv]
    exact k (h.ds e (by omega) hs.2)
theorem c_burn {g : Gm} {ρ : Nat → Nat × Nat} {A : Ab} {S : StC} {post : Int32 → StC → Prop} (h : RC g ρ A S) (hb : A.fu ≤ 600) (k0 : A.fu = 0 → post 0 S) (k1 : 0 < A.fu → RC g ρ (Ab.set_fu A (A.fu - 1)) (upd S.1 7 (S.1 7 - 1), S.2) → post 1 (upd S.1 7 (S.1 7 - 1), S.2)) : wp_Ma_burn g post S := by
  have hp := h.kPrB
  unfold wp_Ma_burn
  rw [h.kFu, l_eq (by omega) (by decide)]
  refine ⟨k0, fun z => ?_⟩
  have := k1 (by omega) (RC.mk (h.kHere) (h.kHereB) (h.kMem) (h.kPr) (?_) (h.kPbB) (h.kOut) (?_) (h.kHas) (h.kHasB) (h.kUp) (h.kUpB) (h.kTold) (h.kToldB) (h.kToldH) (h.kMade) (h.kMadeB) (h.kWs) (h.kRows) (h.kLay) (h.kPos) (h.kTk) (h.kTx) (h.kBt) (h.kG) (h.kDs) (h.kDsB) (h.kDsS) (h.kRs) (h.kRsB) (h.kRsS) (h.kCs) (h.kCsB) (h.kCsS) (h.kDr0) (h.kDr) (h.kOp) (h.kOpB) (h.kOpK) (h.kOpA))
  · rw [h.kFu] at this
    exact this
  · show A.pr + (A.fu - 1) ≤ A.pb
    omega
  · show S.1 7 - 1 = _
    rw [h.kFu]
    exact n_sub (a := A.fu) (b := 1) (by omega)
theorem c_put {g : Gm} {ρ : Nat → Nat × Nat} {A : Ab} {S : StC} {post : Int32 → StC → Prop} {v : Int32} (h : RC g ρ A S) (k : ∀ S', RCr g ρ (pushR A v) S' → post (pushR A v).1 S') : wp_Ma_putNumber g post S v := by
  refine c_isFull h ?_
  unfold pushR at k
  by_cases hn : A.ds.length < 24
  · rw [if_pos hn] at k
    rw [decide_eq_false (by omega)]
    exact ⟨fun _ => c_push h hn (fun S2 h2 => k _ (RCr.ok h2)), fun z => absurd rfl z⟩
  · rw [if_neg hn] at k
    rw [decide_eq_true (by omega)]
    exact ⟨fun z => absurd z (by decide), fun _ => k _ (RCr.no (by decide) h.toRCw)⟩
/-! doing a word -/
theorem c_num {g : Gm} {S : StC} {post : Option Nat → StC → Prop} {t : Nat} (h0 : t < 52 → post (some (g.2.2 (100 + t))) S) (h1 : ¬ t < 52 → post none S) (ht : t < 100000) : wp_Bi_numbered g post S (Int32.ofNat t) := by
  unfold wp_Bi_numbered wq_Bi_numbered_20 wq_Bi_numbered_21
  rw [l_lt (by omega) (by decide), r_le (by decide) (by omega), n_cl (by omega)]
  exact ⟨fun z => by omega, fun _ => ⟨fun z => h1 (by omega), fun z => ⟨n_in (by omega) (by omega), h0 (by omega)⟩⟩⟩
theorem c_word {g : Gm} {ρ : Nat → Nat × Nat} {A : Ab} {S : StC} {post : Option Nat → StC → Prop} {t : Nat} (h : RCw g ρ A S) (h0 : 100 ≤ t → t < 100 + A.ws.length → post (S.2.2.2.2.1 0 (t - 100)) S) (h1 : ¬ (100 ≤ t ∧ t < 100 + A.ws.length) → post none S) (ht : t < 100000) : wp_Di_word g post S (Int32.ofNat t) := by
  have hB := h.kMadeB
  have e : 100 + S.1 12 = Int32.ofNat (100 + A.ws.length) := by
    rw [h.kMade]
    exact n_add 100 A.ws.length
  unfold wp_Di_word wq_Di_word_21 wq_Di_word_22 wq_Di_word_40
  rw [e, l_lt (by omega) (by decide), n_le (by omega) (by omega)]
  refine ⟨fun z => ⟨fun _ => h1 (by omega), fun z => absurd rfl z⟩, fun z => ⟨fun y => ⟨fun _ => h1 (by omega), fun z => absurd rfl z⟩, fun y => ⟨fun z => absurd z (by decide), fun _ => ?_⟩⟩⟩
  rw [show Int32.ofNat t - 100 = Int32.ofNat (t - 100) from n_sub (a := t) (b := 100) (by omega), n_cl (by omega)]
  exact ⟨n_in (by omega) (by omega), h0 (by omega) (by omega)⟩
theorem c_begin {g : Gm} {ρ : Nat → Nat × Nat} {A : Ab} {S : StC} {post : Int32 → StC → Prop} {w : Nat} (h : RC g ρ A S) (hw : w < A.ws.length) (k : ∀ S', RCr g ρ (doC w A) S' → post (doC w A).1 S') : wp_Ma_beginCall g post S (S.2.2.2.2.1 0 w) := by
  obtain ⟨a, ea, hWd⟩ := h.kWs w A.ws[w] (List.getElem?_eq_getElem hw)
  have hB := h.kCsB
  unfold wp_Ma_beginCall
  rw [ea, h.kCs, l_lt (by omega) (by decide), n_cl (by omega)]
  unfold doC at k
  refine ⟨fun z => (by cases z), fun y1 e => ?_⟩
  cases e
  refine ⟨fun z => ?_, fun z => ?_⟩
  · rw [if_pos z] at k
    obtain ⟨w0, nx, lo, fl, fc, b, x, y, e1, p1, p2, p3⟩ := h.kLay A.cs.length z
    refine ⟨n_in z (by omega), b, e1, _, p1.1, p1.2.2, ?_⟩
    refine ⟨_, p1.1, p1.2.2, (show 0 < 5 by decide), _, p1.1, va_up_self _ _ _, (show 1 < 5 by decide), _, p1.1, va_up_self _ _ _, (show 4 < 5 by decide), ?_⟩
    have hX : Xc A.cs.length (ρ b) := by
      rw [p1.2.1]
      exact ⟨Or.inl rfl, rfl⟩
    have n12 : ((2, A.cs.length) : Nat × Nat) ≠ (1, A.cs.length) := fun z => absurd (congrArg Prod.fst z) (show ¬ (2 : Nat) = 1 by decide)
    have n13 : ((3, A.cs.length) : Nat × Nat) ≠ (1, A.cs.length) := fun z => absurd (congrArg Prod.fst z) (show ¬ (3 : Nat) = 1 by decide)
    have hc := Chg.put (e := .inr (9, [va_rf (some a), .int 0, .ref x, .ref y, .int 0])) (Chg.put (e := .inr (9, [va_rf (some a), .int 0, .ref x, .ref y, .int lo])) (Chg.put (e := .inr (9, [va_rf (some a), .int nx, .ref x, .ref y, .int lo])) (Chg.refl ρ (Xc A.cs.length) S.2.2.2.2.2.2) hX) hX) hX
    have q1 := (p1.put (e' := .inr (9, [va_rf (some a), .int nx, .ref x, .ref y, .int lo])))
    have q2 := (q1.put (e' := .inr (9, [va_rf (some a), .int 0, .ref x, .ref y, .int lo])))
    have q3 := (q2.put (e' := .inr (9, [va_rf (some a), .int 0, .ref x, .ref y, .int 0])))
    have hC : CallAt g (S.2.2.2.2.1 1) S.2.2.2.2.2.1 (va_up (va_up (va_up S.2.2.2.2.2.2 b (.inr (9, [va_rf (some a), .int nx, .ref x, .ref y, .int lo]))) b (.inr (9, [va_rf (some a), .int 0, .ref x, .ref y, .int lo]))) b (.inr (9, [va_rf (some a), .int 0, .ref x, .ref y, .int 0]))) ρ A.cs.length (some a) 0 0 fl fc :=
      ⟨b, x, y, e1, q3, ((p2.ne p1 n12).ne q1 n12).ne q2 n12, ((p3.ne p1 n13).ne q1 n13).ne q2 n13⟩
    have h1 := h.calls hc ⟨_, _, _, _, _, hC⟩ h.kCs h.kCsB (h.kCsS.chg hc (fun c hc => ⟨Xc_ne (by omega), Xc_ne (by omega), Xc_ne (by omega)⟩))
    refine k _ (RCr.ok (RC.mk (h1.kHere) (h1.kHereB) (h1.kMem) (h1.kPr) (h1.kPrB) (h1.kPbB) (h1.kOut) (h1.kFu) (h1.kHas) (h1.kHasB) (h1.kUp) (h1.kUpB) (h1.kTold) (h1.kToldB) (h1.kToldH) (h1.kMade) (h1.kMadeB) (h1.kWs) (h1.kRows) (h1.kLay) (h1.kPos) (h1.kTk) (h1.kTx) (h1.kBt) (h1.kG) (h1.kDs) (h1.kDsB) (h1.kDsS) (h1.kRs) (h1.kRsB) (h1.kRsS) (?_) (?_) (⟨⟨a, fl, fc, ea, hC, trivial, trivial, Nat.zero_le _⟩, h1.kCsS⟩) (h1.kDr0) (h1.kDr) (h1.kOp) (h1.kOpB) (h1.kOpK) (h1.kOpA)))
    · show S.1 5 + 1 = _
      rw [h.kCs, of_succ]
      rfl
    · show (_ :: A.cs).length ≤ 16
      simp
      omega
  · rw [if_neg z] at k
    exact k _ (RCr.no (by decide) h.toRCw)
