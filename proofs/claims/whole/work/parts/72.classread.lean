/-! reading a token -/
theorem StrX.at {g : Gm} {L : List Nat} {F : Nat → va_E} {ρ : Nat → Nat × Nat} {a : Nat} {l : List Int32} (h : StrX g L F ρ a l) (hl : 0 < l.length) : StrAt g L F ρ a l := by
  rcases h with ⟨-, e⟩ | h
  · rw [e] at hl
    simp at hl
  · exact h
theorem c_comp {g : Gm} {ρ : Nat → Nat × Nat} {A : Ab} {S : StC} {post : Int32 → StC → Prop} (h : RC g ρ A S) (k0 : A.dr = none → post 0 S) (k1 : ∀ w, A.dr = some w → post 1 S) : wp_Co_isCompiling g post S := by
  match hd : A.dr with
  | none =>
    have e0 := h.kDr0 hd
    refine ⟨fun _ => ⟨rfl, k0 hd⟩, fun y e => ?_⟩
    rw [e0] at e
    cases e
  | some w =>
    obtain ⟨-, a, ea, -⟩ := h.kDr w hd
    refine ⟨fun e => ?_, fun _ _ => ⟨rfl, k1 w hd⟩⟩
    rw [ea] at e
    cases e
theorem c_imm {g : Gm} {ρ : Nat → Nat × Nat} {A : Ab} {S : StC} {post : Int32 → StC → Prop} {t : Nat} (h : RC g ρ A S) (ht : t < 100000) (k : post (bE (imOf A.ws t)) S) : wp_Di_isImmediate g post S (Int32.ofNat t) := by
  unfold wp_Di_isImmediate wq_Di_isImmediate_21 wq_Di_isImmediate_22
  refine c_word h.toRCw (fun z1 z2 => ?_) (fun z => ⟨fun _ => ⟨rfl, ?_⟩, fun y e => (by cases e)⟩) ht
  · have hlt : t - 100 < A.ws.length := by omega
    obtain ⟨a, ea, s, x, y, fk, fv, p1, -⟩ := h.kWs (t - 100) A.ws[t - 100] (List.getElem?_eq_getElem hlt)
    rw [ea]
    refine ⟨fun z => (by cases z), fun y3 e => ?_⟩
    cases e
    refine ⟨_, _, p1.1, p1.2.2, rfl, ?_⟩
    have ei : imOf A.ws t = A.ws[t - 100].im := by rw [imOf, if_neg (by omega), List.getElem?_eq_getElem hlt]
    rw [ei] at k
    cases e : A.ws[t - 100].im with
    | false =>
      rw [e] at k
      exact ⟨fun _ => ⟨rfl, k⟩, fun q => absurd rfl q⟩
    | true =>
      rw [e] at k
      exact ⟨fun q => absurd q (by decide), fun _ => ⟨rfl, k⟩⟩
  · have ei : imOf A.ws t = false := by
      rw [imOf]
      by_cases e : t < 100
      · rw [if_pos e]
      · rw [if_neg e, List.getElem?_eq_none (by omega)]
    rw [ei] at k
    exact k
theorem c_mkimm {g : Gm} {ρ : Nat → Nat × Nat} {A : Ab} {S : StC} {post : Int32 → StC → Prop} (h : RC g ρ A S) (hd : A.dr = none) (k0 : A.ws.length = 0 → post 6 S) (k1 : ¬ A.ws.length = 0 → ∀ S', RC g ρ (Ab.set_ws A (setIm A.ws)) S' → post 0 S') : wp_Rd_makeImmediate g post S := by
  have hB := h.kMadeB
  have e1 : 100 + S.1 12 - 1 = Int32.ofNat (99 + A.ws.length) := by
    rw [h.kMade, show (100 : Int32) = Int32.ofNat 100 from rfl, n_add, show (1 : Int32) = Int32.ofNat 1 from rfl, n_sub (by omega)]
    congr 1
    omega
  unfold wp_Rd_makeImmediate wp_Di_nextNumber
  show wp_Di_word g _ S (100 + S.1 12 - 1)
  rw [e1]
  refine c_word h.toRCw (fun z1 z2 => ?_) (fun z => ⟨fun _ => k0 (by omega), fun y e => (by cases e)⟩) (by omega)
  have hlast : A.ws.length - 1 < A.ws.length := by omega
  rw [show 99 + A.ws.length - 100 = A.ws.length - 1 by omega]
  obtain ⟨a, ea, s, x, y, fk, fv, p1, p2, p3, p4, p5, p6⟩ := h.kWs (A.ws.length - 1) A.ws[A.ws.length - 1] (List.getElem?_eq_getElem hlast)
  rw [ea]
  refine ⟨fun z => (by cases z), fun y5 e => ?_⟩
  cases e
  refine ⟨_, p1.1, p1.2.2, (show 4 < 5 by decide), k1 (by omega) _ ?_⟩
  have X1 : Xw (A.ws.length - 1) (ρ a) := by rw [p1.2.1]; exact ⟨Or.inl rfl, rfl⟩
  have hc := Chg.put (e := .inr (11, [.ref s, .ref x, .ref y, .int (Int32.ofNat A.ws[A.ws.length - 1].it.length), .int 1])) (Chg.refl ρ (Xw (A.ws.length - 1)) S.2.2.2.2.2.2) X1
  have n1 : ∀ k, ¬ Xw (A.ws.length - 1) (1, k) := fun k => Xw_no (by decide) (by decide) (by decide)
  have n2 : ∀ k, ¬ Xw (A.ws.length - 1) (2, k) := fun k => Xw_no (by decide) (by decide) (by decide)
  have n3 : ∀ k, ¬ Xw (A.ws.length - 1) (3, k) := fun k => Xw_no (by decide) (by decide) (by decide)
  have n7 : ∀ k, ¬ Xw (A.ws.length - 1) (7, k) := fun k => Xw_no (by decide) (by decide) (by decide)
  have n8 : ∀ k, ¬ Xw (A.ws.length - 1) (8, k) := fun k => Xw_no (by decide) (by decide) (by decide)
  have n9 : ∀ k, ¬ Xw (A.ws.length - 1) (9, k) := fun k => Xw_no (by decide) (by decide) (by decide)
  have n10 : ∀ k, ¬ Xw (A.ws.length - 1) (10, k) := fun k => Xw_no (by decide) (by decide) (by decide)
  have el : (setIm A.ws).length = A.ws.length := by simp [setIm]
  refine (RC.mk (h.kHere) (h.kHereB) (h.kMem) (h.kPr) (h.kPrB) (h.kPbB) (h.kOut) (h.kFu) (h.kHas) (h.kHasB) (h.kUp) (h.kUpB) (h.kTold) (h.kToldB) (h.kToldH) ((by show S.1 12 = Int32.ofNat (setIm A.ws).length; rw [el]; exact h.kMade)) ((by show (setIm A.ws).length ≤ 24; rw [el]; exact hB)) (fun j w hj => ?_) (fun b hb => (h.kRows b hb).chg hc (n7 b)) (fun c hcc => ?_) (h.kPos) (h.kTk) (h.kTx.chg hc (n8 0) (n9 0)) (h.kBt.chg hc (n10 0)) (h.kG) (h.kDs) (h.kDsB) (h.kDsS) (h.kRs) (h.kRsB) (h.kRsS) (h.kCs) (h.kCsB) (h.kCsS.chg hc (fun c _ => ⟨n1 c, n2 c, n3 c⟩)) (h.kDr0) (fun w hw => (by rw [show A.dr = some w from hw] at hd; cases hd)) (h.kOp) (h.kOpB) (h.kOpK) (h.kOpA))
  · have hj : (A.ws.set (A.ws.length - 1) (imW (A.ws.getD (A.ws.length - 1) (wd0 []))))[j]? = some w := hj
    rw [List.getElem?_set] at hj
    by_cases q : A.ws.length - 1 = j
    · rw [if_pos q, if_pos hlast] at hj
      have e9 : A.ws.getD (A.ws.length - 1) (wd0 []) = A.ws[A.ws.length - 1] := by rw [List.getD_eq_getElem?_getD, List.getElem?_eq_getElem hlast]; rfl
      rw [e9] at hj
      have hj := (Option.some.inj hj).symm
      subst hj
      subst q
      exact ⟨a, ea, s, x, y, fk, fv, p1.put, p2.ne p1 (n_pair (by decide)), p3.ne p1 (n_pair (by decide)), p4.chg hc (n8 0) (n9 0), p5, p6⟩
    · rw [if_neg q] at hj
      obtain ⟨b, e, hw⟩ := h.kWs j w hj
      exact ⟨b, e, hw.chg hc (Xw_ne (fun z => q z.symm)) (Xw_ne (fun z => q z.symm)) (Xw_ne (fun z => q z.symm)) (n8 0) (n9 0)⟩
  · obtain ⟨w, nx, lo, fl, fc, z⟩ := h.kLay c hcc
    exact ⟨w, nx, lo, fl, fc, z.chg hc (n1 c) (n2 c) (n3 c)⟩
theorem c_dfull {g : Gm} {ρ : Nat → Nat × Nat} {A : Ab} {S : StC} {post : Int32 → StC → Prop} (h : RC g ρ A S) (k : post (bE (decide (¬ A.ws.length < 24))) S) : wp_Di_isFull g post S := by
  have hB := h.kMadeB
  unfold wp_Di_isFull wq_Di_isFull_14
  rw [h.kMade, l_lt (by omega) (by decide)]
  refine ⟨fun z => ⟨rfl, ?_⟩, fun z => ⟨rfl, ?_⟩⟩
  · rw [decide_eq_false (fun q => q z)] at k
    exact k
  · rw [decide_eq_true z] at k
    exact k
theorem mkw_33 {g : Gm} {ρ : Nat → Nat × Nat} {A : Ab} {S : StC} {post : Int32 → StC → Prop} {a1 : Nat} {l : List Int32} (h : RC g ρ A S) (ha : StrAt g S.2.2.2.2.2.1 S.2.2.2.2.2.2 ρ a1 l) (hd : A.dr = none) (hcs : A.cs = []) (k : ∀ ρ' S', RCr g ρ' (parB 33 A l) S' → post (parB 33 A l).1 S') : wp_Rd_makeWord g post 3 125 S (g.2.2 (100 + 33)) a1 := by
  have hG := h.kG
  have hDB := h.kDsB
  simp (config := {decide := true}) only [en_iff hG, en_c hG, wp_En_ordinal, wp_Rd_makeWord, (show takE.getD 33 0 = (0 : Int32) from rfl), (show putE.getD 33 0 = (0 : Int32) from rfl), (show ordE.getD 33 0 = (33 : Int32) from rfl), (show numE.getD 33 0 = (33 : Int32) from rfl), (show Int32.toNatClampNeg 33 = 33 from rfl), (show swE.getD 33 0 = (45 : Int32) from rfl), (vpT 33 (by decide)), nar0, nar1, true_implies, false_implies, not_true_eq_false, not_false_eq_true, and_true, true_and]
  rw [parB] at k
  refine c_nd0 h ?_
  refine c_dfull h ?_
  by_cases hm : A.ws.length < 24
  · rw [if_pos hm] at k
    rw [decide_eq_false (fun q => q hm)]
    refine ⟨fun _ => ?_, fun q => absurd rfl q⟩
    have k1 : (1 : Int32).toInt = 1 := rfl
    refine c_canGrow h ?_
    by_cases hh : A.here < 64
    · rw [if_pos hh] at k
      rw [decide_eq_true (by omega)]
      refine ⟨fun q => absurd q (by decide), fun _ => ⟨3, 125, by omega, by omega, ?_⟩⟩
      rw [h.kHere]
      exact c_numword h ha hm hd hcs (fun ρ' S' h' => c_append h' hh (fun S2 h2 => k ρ' _ (RCr.ok h2)))
    · rw [if_neg hh] at k
      rw [decide_eq_false (by omega)]
      exact ⟨fun _ => k ρ _ (RCr.no (by decide) h.toRCw), fun q => absurd rfl q⟩
  · rw [if_neg hm] at k
    rw [decide_eq_true hm]
    exact ⟨fun q => absurd q (by decide), fun _ => k ρ _ (RCr.no (by decide) h.toRCw)⟩
theorem mkw_34 {g : Gm} {ρ : Nat → Nat × Nat} {A : Ab} {S : StC} {post : Int32 → StC → Prop} {a1 : Nat} {l : List Int32} (h : RC g ρ A S) (ha : StrAt g S.2.2.2.2.2.1 S.2.2.2.2.2.2 ρ a1 l) (hd : A.dr = none) (hcs : A.cs = []) (k : ∀ ρ' S', RCr g ρ' (parB 34 A l) S' → post (parB 34 A l).1 S') : wp_Rd_makeWord g post 3 125 S (g.2.2 (100 + 34)) a1 := by
  have hG := h.kG
  have hDB := h.kDsB
  simp (config := {decide := true}) only [en_iff hG, en_c hG, wp_En_ordinal, wp_Rd_makeWord, (show takE.getD 34 0 = (1 : Int32) from rfl), (show putE.getD 34 0 = (0 : Int32) from rfl), (show ordE.getD 34 0 = (34 : Int32) from rfl), (show numE.getD 34 0 = (34 : Int32) from rfl), (show Int32.toNatClampNeg 34 = 34 from rfl), (show swE.getD 34 0 = (46 : Int32) from rfl), (vpT 34 (by decide)), nar0, nar1, true_implies, false_implies, not_true_eq_false, not_false_eq_true, and_true, true_and]
  have k : ∀ ρ' S', RCr g ρ' (w1 A fun c r => if A.ws.length < 24 then (0, (Ab.set_ws (Ab.set_ds A (r)) (A.ws ++ [mkW l c]))) else (3, A)) S' → post (w1 A fun c r => if A.ws.length < 24 then (0, (Ab.set_ws (Ab.set_ds A (r)) (A.ws ++ [mkW l c]))) else (3, A)).1 S' := k
  refine ⟨fun z => ?_, fun z => ?_⟩
  · rw [h.kDs, r_le (by decide) (by omega)] at z
    match hs : A.ds with
    | [] => rw [hs] at z; simp at z
    | c :: r =>
      have k : ∀ ρ' S', RCr g ρ' (if A.ws.length < 24 then (0, (Ab.set_ws (Ab.set_ds A (r)) (A.ws ++ [mkW l c]))) else (3, A)) S' → post (if A.ws.length < 24 then (0, (Ab.set_ws (Ab.set_ds A (r)) (A.ws ++ [mkW l c]))) else (3, A)).1 S' := by
        intro ρ' S'
        have := k ρ' S'
        rw [w1, hs] at this
        exact this
      refine c_dfull h ?_
      by_cases hm : A.ws.length < 24
      · rw [if_pos hm] at k
        rw [decide_eq_false (fun q => q hm)]
        refine ⟨fun _ => ?_, fun q => absurd rfl q⟩
        refine c_popE h hs (fun h1 => ⟨3, 125, by omega, by omega, ?_⟩)
        exact c_numword h1 ha hm hd hcs (fun ρ' S' h' => k ρ' _ (RCr.ok h'))
      · rw [if_neg hm] at k
        rw [decide_eq_true hm]
        exact ⟨fun q => absurd q (by decide), fun _ => k ρ _ (RCr.no (by decide) h.toRCw)⟩
  · rw [h.kDs, r_le (by decide) (by omega)] at z
    have e : A.ds = [] := List.eq_nil_of_length_eq_zero (by omega)
    rw [w1, e] at k
    exact k ρ _ (RCr.no (by decide) h.toRCw)
theorem mkw_35 {g : Gm} {ρ : Nat → Nat × Nat} {A : Ab} {S : StC} {post : Int32 → StC → Prop} {a1 : Nat} {l : List Int32} (h : RC g ρ A S) (ha : StrAt g S.2.2.2.2.2.1 S.2.2.2.2.2.2 ρ a1 l) (hd : A.dr = none) (hcs : A.cs = []) (k : ∀ ρ' S', RCr g ρ' (parB 35 A l) S' → post (parB 35 A l).1 S') : wp_Rd_makeWord g post 3 125 S (g.2.2 (100 + 35)) a1 := by
  have hG := h.kG
  have hDB := h.kDsB
  simp (config := {decide := true}) only [en_iff hG, en_c hG, wp_En_ordinal, wp_Rd_makeWord, (show takE.getD 35 0 = (0 : Int32) from rfl), (show putE.getD 35 0 = (0 : Int32) from rfl), (show ordE.getD 35 0 = (35 : Int32) from rfl), (show numE.getD 35 0 = (35 : Int32) from rfl), (show Int32.toNatClampNeg 35 = 35 from rfl), (show swE.getD 35 0 = (0 : Int32) from rfl), (vpT 35 (by decide)), nar0, nar1, true_implies, false_implies, not_true_eq_false, not_false_eq_true, and_true, true_and]
  have k : ∀ ρ' S', RCr g ρ' (if A.ws.length < 24 then (0, (Ab.set_op (Ab.set_dr A (some (wd0 l))) ([]))) else (3, A)) S' → post (if A.ws.length < 24 then (0, (Ab.set_op (Ab.set_dr A (some (wd0 l))) ([]))) else (3, A)).1 S' := k
  refine c_nd0 h ?_
  refine c_dfull h ?_
  by_cases hm : A.ws.length < 24
  · rw [if_pos hm] at k
    rw [decide_eq_false (fun q => q hm)]
    refine ⟨fun _ => ?_, fun q => absurd rfl q⟩
    exact ⟨3, 125, by omega, by omega, c_cobegin h ha hm (fun ρ' S' h' => k ρ' _ (RCr.ok h'))⟩
  · rw [if_neg hm] at k
    rw [decide_eq_true hm]
    exact ⟨fun q => absurd q (by decide), fun _ => k ρ _ (RCr.no (by decide) h.toRCw)⟩
