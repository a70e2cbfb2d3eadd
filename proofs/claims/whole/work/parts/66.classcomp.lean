theorem en_d {g : Gm} (hG : ∀ i j, i < 52 → j < 52 → g.2.2 (100 + i) = g.2.2 (100 + j) → i = j) {t c : Nat} (ht : t < 52) (hc : 100 ≤ c ∧ c < 152) : (g.2.2 (100 + t) = g.2.2 c) ↔ t = c - 100 := by
  have := en_c hG ht hc
  rwa [Option.some.injEq] at this
theorem RC.dcell {g : Gm} {ρ : Nat → Nat × Nat} {A : Ab} {S : StC} {w : Wd} (h : RC g ρ A S) (hd : A.dr = some w) : ∃ a s x y, S.2.2.2.1 0 = some a ∧ a ∈ S.2.2.2.2.2.1 ∧ S.2.2.2.2.2.2 a = .inr (11, [.ref s, .ref x, .ref y, .int (Int32.ofNat w.it.length), .int (bE w.im)]) := by
  obtain ⟨hm, a, ea, -⟩ := h.kDr w hd
  obtain ⟨s, x, y, c1, c2⟩ := h.wcell hd ea
  exact ⟨a, s, x, y, ea, c1, c2⟩
theorem cmp_41 {g : Gm} {ρ : Nat → Nat × Nat} {A : Ab} {S : StC} {post : StC → Prop} {w : Wd} (h : RC g ρ A S) (hd : A.dr = some w) (hl : w.it.length < 60) (h8 : A.op.length < 8) (k : ∀ S', RC g ρ (Ab.set_op (Ab.set_dr A (some (addIt w 2 0))) ((41, w.it.length) :: A.op)) S' → post S') : wp_Co_compile g post S (g.2.2 (100 + 41)) := by
  have hG := h.kG
  have hne : A.dr ≠ none := by rw [hd]; exact fun z => by cases z
  obtain ⟨a, s, x0, y0, ea, c1, c2⟩ := h.dcell hd
  simp (config := {decide := true}) only [en_iff hG, en_c hG, wp_En_ordinal, wq_Co_compile_226, wp_Co_compile, (show takE.getD 41 0 = (0 : Int32) from rfl), (show putE.getD 41 0 = (0 : Int32) from rfl), (show ordE.getD 41 0 = (41 : Int32) from rfl), (show numE.getD 41 0 = (41 : Int32) from rfl), (show Int32.toNatClampNeg 41 = 41 from rfl), (show swE.getD 41 0 = (42 : Int32) from rfl), (vpT 41 (by decide)), nar0, nar1, true_implies, false_implies, not_true_eq_false, not_false_eq_true, and_true, true_and, ea, reduceCtorEq, Option.some.injEq, forall_eq', exists_eq_left', en_d hG]
  exact ⟨_, _, c1, c2, rfl, _, c1, c2, c_wadd (kd := 2) h hd ea hl (fun S1 h1 => c_cpush h1 (fun z => by cases z) (by decide) h8 (fun S2 h2 => k _ h2))⟩
theorem cmp_47 {g : Gm} {ρ : Nat → Nat × Nat} {A : Ab} {S : StC} {post : StC → Prop} {w : Wd} (h : RC g ρ A S) (hd : A.dr = some w) (hl : w.it.length < 60) (h8 : A.op.length < 8) (k : ∀ S', RC g ρ (Ab.set_op (Ab.set_dr A (some (addIt w 2 0))) ((47, w.it.length) :: A.op)) S' → post S') : wp_Co_compile g post S (g.2.2 (100 + 47)) := by
  have hG := h.kG
  have hne : A.dr ≠ none := by rw [hd]; exact fun z => by cases z
  obtain ⟨a, s, x0, y0, ea, c1, c2⟩ := h.dcell hd
  simp (config := {decide := true}) only [en_iff hG, en_c hG, wp_En_ordinal, wq_Co_compile_226, wp_Co_compile, (show takE.getD 47 0 = (0 : Int32) from rfl), (show putE.getD 47 0 = (0 : Int32) from rfl), (show ordE.getD 47 0 = (47 : Int32) from rfl), (show numE.getD 47 0 = (47 : Int32) from rfl), (show Int32.toNatClampNeg 47 = 47 from rfl), (show swE.getD 47 0 = (39 : Int32) from rfl), (vpT 47 (by decide)), nar0, nar1, true_implies, false_implies, not_true_eq_false, not_false_eq_true, and_true, true_and, ea, reduceCtorEq, Option.some.injEq, forall_eq', exists_eq_left', en_d hG]
  exact ⟨_, _, c1, c2, rfl, _, c1, c2, c_wadd (kd := 2) h hd ea hl (fun S1 h1 => c_cpush h1 (fun z => by cases z) (by decide) h8 (fun S2 h2 => k _ h2))⟩
theorem cmp_49 {g : Gm} {ρ : Nat → Nat × Nat} {A : Ab} {S : StC} {post : StC → Prop} {w : Wd} (h : RC g ρ A S) (hd : A.dr = some w) (hl : w.it.length < 60) (h8 : A.op.length < 8) (k : ∀ S', RC g ρ (Ab.set_op (Ab.set_dr A (some (addIt w 4 0))) ((49, w.it.length + 1) :: A.op)) S' → post S') : wp_Co_compile g post S (g.2.2 (100 + 49)) := by
  have hG := h.kG
  have hne : A.dr ≠ none := by rw [hd]; exact fun z => by cases z
  obtain ⟨a, s, x0, y0, ea, c1, c2⟩ := h.dcell hd
  simp (config := {decide := true}) only [en_iff hG, en_c hG, wp_En_ordinal, wq_Co_compile_226, wp_Co_compile, (show takE.getD 49 0 = (0 : Int32) from rfl), (show putE.getD 49 0 = (0 : Int32) from rfl), (show ordE.getD 49 0 = (49 : Int32) from rfl), (show numE.getD 49 0 = (49 : Int32) from rfl), (show Int32.toNatClampNeg 49 = 49 from rfl), (show swE.getD 49 0 = (44 : Int32) from rfl), (vpT 49 (by decide)), nar0, nar1, true_implies, false_implies, not_true_eq_false, not_false_eq_true, and_true, true_and, ea, reduceCtorEq, Option.some.injEq, forall_eq', exists_eq_left', en_d hG]
  refine ⟨_, _, c1, c2, rfl, _, c1, c2, c_wadd (kd := 4) h hd ea hl (fun S1 h1 => ?_)⟩
  obtain ⟨a1, s1, x1, y1, ea1, d1, d2⟩ := h1.dcell rfl
  rw [add_len] at d2
  exact ⟨a1, ea1, _, _, d1, d2, rfl, c_cpush h1 (fun z => by cases z) (by decide) h8 (fun S2 h2 => k _ h2)⟩
theorem cmp_44 {g : Gm} {ρ : Nat → Nat × Nat} {A : Ab} {S : StC} {post : StC → Prop} {w : Wd} (h : RC g ρ A S) (hd : A.dr = some w) (h8 : A.op.length < 8) (k : ∀ S', RC g ρ (Ab.set_op A ((44, w.it.length) :: A.op)) S' → post S') : wp_Co_compile g post S (g.2.2 (100 + 44)) := by
  have hG := h.kG
  have hne : A.dr ≠ none := by rw [hd]; exact fun z => by cases z
  obtain ⟨a, s, x0, y0, ea, c1, c2⟩ := h.dcell hd
  simp (config := {decide := true}) only [en_iff hG, en_c hG, wp_En_ordinal, wq_Co_compile_226, wp_Co_compile, (show takE.getD 44 0 = (0 : Int32) from rfl), (show putE.getD 44 0 = (0 : Int32) from rfl), (show ordE.getD 44 0 = (44 : Int32) from rfl), (show numE.getD 44 0 = (44 : Int32) from rfl), (show Int32.toNatClampNeg 44 = 44 from rfl), (show swE.getD 44 0 = (43 : Int32) from rfl), (vpT 44 (by decide)), nar0, nar1, true_implies, false_implies, not_true_eq_false, not_false_eq_true, and_true, true_and, ea, reduceCtorEq, Option.some.injEq, forall_eq', exists_eq_left', en_d hG]
  exact ⟨_, _, c1, c2, rfl, c_cpush h hne (by decide) h8 (fun S2 h2 => k _ h2)⟩
theorem cmp_42 {g : Gm} {ρ : Nat → Nat × Nat} {A : Ab} {S : StC} {post : StC → Prop} {w : Wd} (h : RC g ρ A S) (hd : A.dr = some w) {x : Nat × Nat} {r : List (Nat × Nat)} (ho : A.op = x :: r) (hq : x.2 < w.it.length) (k : ∀ S', RC g ρ (Ab.set_op (Ab.set_dr A (some (aimW w x.2))) (r)) S' → post S') : wp_Co_compile g post S (g.2.2 (100 + 42)) := by
  have hG := h.kG
  have hne : A.dr ≠ none := by rw [hd]; exact fun z => by cases z
  obtain ⟨a, s, x0, y0, ea, c1, c2⟩ := h.dcell hd
  simp (config := {decide := true}) only [en_iff hG, en_c hG, wp_En_ordinal, wq_Co_compile_226, wp_Co_compile, (show takE.getD 42 0 = (0 : Int32) from rfl), (show putE.getD 42 0 = (0 : Int32) from rfl), (show ordE.getD 42 0 = (42 : Int32) from rfl), (show numE.getD 42 0 = (42 : Int32) from rfl), (show Int32.toNatClampNeg 42 = 42 from rfl), (show swE.getD 42 0 = (35 : Int32) from rfl), (vpT 42 (by decide)), nar0, nar1, true_implies, false_implies, not_true_eq_false, not_false_eq_true, and_true, true_and, ea, reduceCtorEq, Option.some.injEq, forall_eq', exists_eq_left', en_d hG]
  exact ⟨_, _, c1, c2, rfl, c_cpopE h hne ho (fun h1 => ⟨_, c1, c2, c_waim h1 hd ea hq (fun S2 h2 => k _ h2)⟩)⟩
theorem cmp_43 {g : Gm} {ρ : Nat → Nat × Nat} {A : Ab} {S : StC} {post : StC → Prop} {w : Wd} (h : RC g ρ A S) (hd : A.dr = some w) {x : Nat × Nat} {r : List (Nat × Nat)} (ho : A.op = x :: r) (hr : r.length < 8) (hl : w.it.length < 60) (hq : x.2 < w.it.length) (k : ∀ S', RC g ρ (Ab.set_op (Ab.set_dr A (some (aimW (addIt w 3 0) x.2))) ((43, w.it.length) :: r)) S' → post S') : wp_Co_compile g post S (g.2.2 (100 + 43)) := by
  have hG := h.kG
  have hne : A.dr ≠ none := by rw [hd]; exact fun z => by cases z
  obtain ⟨a, s, x0, y0, ea, c1, c2⟩ := h.dcell hd
  simp (config := {decide := true}) only [en_iff hG, en_c hG, wp_En_ordinal, wq_Co_compile_226, wp_Co_compile, (show takE.getD 43 0 = (0 : Int32) from rfl), (show putE.getD 43 0 = (0 : Int32) from rfl), (show ordE.getD 43 0 = (43 : Int32) from rfl), (show numE.getD 43 0 = (43 : Int32) from rfl), (show Int32.toNatClampNeg 43 = 43 from rfl), (show swE.getD 43 0 = (36 : Int32) from rfl), (vpT 43 (by decide)), nar0, nar1, true_implies, false_implies, not_true_eq_false, not_false_eq_true, and_true, true_and, ea, reduceCtorEq, Option.some.injEq, forall_eq', exists_eq_left', en_d hG]
  refine ⟨_, _, c1, c2, rfl, _, c1, c2, c_wadd (kd := 3) h hd ea hl (fun S1 h1 => ?_)⟩
  obtain ⟨a1, s1, x1, y1, ea1, d1, d2⟩ := h1.dcell rfl
  exact ⟨a1, ea1, c_cpopE h1 (fun z => by cases z) ho (fun h2 => ⟨_, d1, d2, c_waim h2 rfl ea1 (by rw [add_len]; omega) (fun S3 h3 => c_cpush h3 (fun z => by cases z) (by decide) hr (fun S4 h4 => k _ h4))⟩)⟩
theorem cmp_45 {g : Gm} {ρ : Nat → Nat × Nat} {A : Ab} {S : StC} {post : StC → Prop} {w : Wd} (h : RC g ρ A S) (hd : A.dr = some w) {x : Nat × Nat} {r : List (Nat × Nat)} (ho : A.op = x :: r) (hl : w.it.length < 60) (k : ∀ S', RC g ρ (Ab.set_op (Ab.set_dr A (some (addIt w 2 (Int32.ofNat x.2)))) (r)) S' → post S') : wp_Co_compile g post S (g.2.2 (100 + 45)) := by
  have hG := h.kG
  have hne : A.dr ≠ none := by rw [hd]; exact fun z => by cases z
  obtain ⟨a, s, x0, y0, ea, c1, c2⟩ := h.dcell hd
  simp (config := {decide := true}) only [en_iff hG, en_c hG, wp_En_ordinal, wq_Co_compile_226, wp_Co_compile, (show takE.getD 45 0 = (0 : Int32) from rfl), (show putE.getD 45 0 = (0 : Int32) from rfl), (show ordE.getD 45 0 = (45 : Int32) from rfl), (show numE.getD 45 0 = (45 : Int32) from rfl), (show Int32.toNatClampNeg 45 = 45 from rfl), (show swE.getD 45 0 = (37 : Int32) from rfl), (vpT 45 (by decide)), nar0, nar1, true_implies, false_implies, not_true_eq_false, not_false_eq_true, and_true, true_and, ea, reduceCtorEq, Option.some.injEq, forall_eq', exists_eq_left', en_d hG]
  exact ⟨_, _, c1, c2, rfl, c_cpopE h hne ho (fun h1 => ⟨_, c1, c2, c_wadd (kd := 2) h1 hd ea hl (fun S2 h2 => k _ h2)⟩)⟩
theorem cmp_46 {g : Gm} {ρ : Nat → Nat × Nat} {A : Ab} {S : StC} {post : StC → Prop} {w : Wd} (h : RC g ρ A S) (hd : A.dr = some w) {x : Nat × Nat} {r : List (Nat × Nat)} (ho : A.op = x :: r) (hl : w.it.length < 60) (k : ∀ S', RC g ρ (Ab.set_op (Ab.set_dr A (some (addIt w 3 (Int32.ofNat x.2)))) (r)) S' → post S') : wp_Co_compile g post S (g.2.2 (100 + 46)) := by
  have hG := h.kG
  have hne : A.dr ≠ none := by rw [hd]; exact fun z => by cases z
  obtain ⟨a, s, x0, y0, ea, c1, c2⟩ := h.dcell hd
  simp (config := {decide := true}) only [en_iff hG, en_c hG, wp_En_ordinal, wq_Co_compile_226, wp_Co_compile, (show takE.getD 46 0 = (0 : Int32) from rfl), (show putE.getD 46 0 = (0 : Int32) from rfl), (show ordE.getD 46 0 = (46 : Int32) from rfl), (show numE.getD 46 0 = (46 : Int32) from rfl), (show Int32.toNatClampNeg 46 = 46 from rfl), (show swE.getD 46 0 = (38 : Int32) from rfl), (vpT 46 (by decide)), nar0, nar1, true_implies, false_implies, not_true_eq_false, not_false_eq_true, and_true, true_and, ea, reduceCtorEq, Option.some.injEq, forall_eq', exists_eq_left', en_d hG]
  exact ⟨_, _, c1, c2, rfl, c_cpopE h hne ho (fun h1 => ⟨_, c1, c2, c_wadd (kd := 3) h1 hd ea hl (fun S2 h2 => k _ h2)⟩)⟩
theorem cmp_50 {g : Gm} {ρ : Nat → Nat × Nat} {A : Ab} {S : StC} {post : StC → Prop} {w : Wd} (h : RC g ρ A S) (hd : A.dr = some w) {x : Nat × Nat} {r : List (Nat × Nat)} (ho : A.op = x :: r) (hl : w.it.length < 60) (k : ∀ S', RC g ρ (Ab.set_op (Ab.set_dr A (some (addIt w 5 (Int32.ofNat x.2)))) (r)) S' → post S') : wp_Co_compile g post S (g.2.2 (100 + 50)) := by
  have hG := h.kG
  have hne : A.dr ≠ none := by rw [hd]; exact fun z => by cases z
  obtain ⟨a, s, x0, y0, ea, c1, c2⟩ := h.dcell hd
  simp (config := {decide := true}) only [en_iff hG, en_c hG, wp_En_ordinal, wq_Co_compile_226, wp_Co_compile, (show takE.getD 50 0 = (0 : Int32) from rfl), (show putE.getD 50 0 = (0 : Int32) from rfl), (show ordE.getD 50 0 = (50 : Int32) from rfl), (show numE.getD 50 0 = (50 : Int32) from rfl), (show Int32.toNatClampNeg 50 = 50 from rfl), (show swE.getD 50 0 = (41 : Int32) from rfl), (vpT 50 (by decide)), nar0, nar1, true_implies, false_implies, not_true_eq_false, not_false_eq_true, and_true, true_and, ea, reduceCtorEq, Option.some.injEq, forall_eq', exists_eq_left', en_d hG]
  exact ⟨_, _, c1, c2, rfl, c_cpopE h hne ho (fun h1 => ⟨_, c1, c2, c_wadd (kd := 5) h1 hd ea hl (fun S2 h2 => k _ h2)⟩)⟩
theorem cmp_48 {g : Gm} {ρ : Nat → Nat × Nat} {A : Ab} {S : StC} {post : StC → Prop} {w : Wd} (h : RC g ρ A S) (hd : A.dr = some w) {x y : Nat × Nat} {r : List (Nat × Nat)} (ho : A.op = x :: y :: r) (hl : w.it.length < 60) (hq : x.2 < w.it.length) (k : ∀ S', RC g ρ (Ab.set_op (Ab.set_dr A (some (aimW (addIt w 3 (Int32.ofNat y.2)) x.2))) (r)) S' → post S') : wp_Co_compile g post S (g.2.2 (100 + 48)) := by
  have hG := h.kG
  have hne : A.dr ≠ none := by rw [hd]; exact fun z => by cases z
  obtain ⟨a, s, x0, y0, ea, c1, c2⟩ := h.dcell hd
  simp (config := {decide := true}) only [en_iff hG, en_c hG, wp_En_ordinal, wq_Co_compile_226, wp_Co_compile, (show takE.getD 48 0 = (0 : Int32) from rfl), (show putE.getD 48 0 = (0 : Int32) from rfl), (show ordE.getD 48 0 = (48 : Int32) from rfl), (show numE.getD 48 0 = (48 : Int32) from rfl), (show Int32.toNatClampNeg 48 = 48 from rfl), (show swE.getD 48 0 = (40 : Int32) from rfl), (vpT 48 (by decide)), nar0, nar1, true_implies, false_implies, not_true_eq_false, not_false_eq_true, and_true, true_and, ea, reduceCtorEq, Option.some.injEq, forall_eq', exists_eq_left', en_d hG]
  refine ⟨_, _, c1, c2, rfl, ?_⟩
  unfold wp_Co_closeWhile
  refine c_cpopE h hne ho (fun h1 => ⟨a, ea, c_cpopE h1 hne rfl (fun h2 => ⟨_, c1, c2, c_wadd (kd := 3) h2 hd ea hl (fun S3 h3 => ?_)⟩)⟩)
  obtain ⟨a1, s1, x1, y1, ea1, d1, d2⟩ := h3.dcell rfl
  exact ⟨a1, ea1, _, d1, d2, c_waim h3 rfl ea1 (by rw [add_len]; omega) (fun S4 h4 => k _ h4)⟩
theorem cc_41 {g : Gm} {ρ : Nat → Nat × Nat} {A : Ab} {S : StC} {post : Int32 → StC → Prop} {w : Wd} (h : RC g ρ A S) (hd : A.dr = some w) (hO : OpOK w A.op) (k : ∀ S', RCr g ρ (ctlW 41 A w) S' → post (ctlW 41 A w).1 S') : wp_Rd_compile g post S (g.2.2 (100 + 41)) := by
  have hG := h.kG
  have hne : A.dr ≠ none := by rw [hd]; exact fun z => by cases z
  have hB8 := h.kOpB
  have hm := (h.kDr w hd).1
  obtain ⟨a, s, x0, y0, ea, c1, c2⟩ := h.dcell hd
  match ho : A.op with
  | [] =>
    have e13 : S.1 13 = 0 := by rw [h.kOp hne, ho]; rfl
    simp (config := {decide := true}) only [en_iff hG, en_c hG, wp_En_ordinal, wp_Rd_compile, wq_Co_lack_58, wq_Co_lack_57, wq_Co_lack_36, wq_Co_lack_15, wp_Co_lack, wq_Co_fits_157, wq_Co_fits_144, wq_Co_fits_131, wq_Co_fits_118, wq_Co_fits_105, wq_Co_fits_100, wq_Co_fits_85, wq_Co_fits_22, wp_Co_fits, wq_Co_opensOne_33, wq_Co_opensOne_28, wp_Co_opensOne, wq_Co_isItem_26, wq_Co_isItem_25, wp_Co_isItem, (show takE.getD 41 0 = (0 : Int32) from rfl), (show putE.getD 41 0 = (0 : Int32) from rfl), (show ordE.getD 41 0 = (41 : Int32) from rfl), (show numE.getD 41 0 = (41 : Int32) from rfl), (show Int32.toNatClampNeg 41 = 41 from rfl), (show swE.getD 41 0 = (42 : Int32) from rfl), (vpT 41 (by decide)), nar0, nar1, true_implies, false_implies, not_true_eq_false, not_false_eq_true, and_true, true_and, ea, reduceCtorEq, Option.some.injEq, forall_eq', exists_eq_left', en_d hG, e13]
    rw [ctlW, if_pos (by rw [ho]; simp)] at k
    refine ⟨_, c1, c2, c_wfull h hd ea ?_⟩
    by_cases hl : w.it.length < 60
    · rw [compR, if_pos hl] at k
      rw [decide_eq_false (fun q => q hl)]
      exact ⟨fun _ => cmp_41 h hd hl (by rw [ho]; simp) (fun S' h' => k _ (RCr.ok h')), fun z => absurd rfl z⟩
    · rw [compR, if_neg hl] at k
      rw [decide_eq_true hl]
      exact ⟨fun z => absurd z (by decide), fun _ => k _ (RCr.no (by decide) h.toRCw)⟩
  | x :: r =>
    obtain ⟨l1, l2, l3, l4⟩ := h.last hne ho
    have hO1 := hO
    rw [ho] at hO1 hB8
    simp at hB8
    have e8 : (S.1 13 < 8) = (r.length + 1 < 8) := by
      rw [h.kOp hne, ho]
      exact propext (l_lt (by simp; omega) (by decide))
    simp (config := {decide := true}) only [en_iff hG, en_c hG, wp_En_ordinal, wp_Rd_compile, wq_Co_lack_58, wq_Co_lack_57, wq_Co_lack_36, wq_Co_lack_15, wp_Co_lack, wq_Co_fits_157, wq_Co_fits_144, wq_Co_fits_131, wq_Co_fits_118, wq_Co_fits_105, wq_Co_fits_100, wq_Co_fits_85, wq_Co_fits_22, wp_Co_fits, wq_Co_opensOne_33, wq_Co_opensOne_28, wp_Co_opensOne, wq_Co_isItem_26, wq_Co_isItem_25, wp_Co_isItem, (show takE.getD 41 0 = (0 : Int32) from rfl), (show putE.getD 41 0 = (0 : Int32) from rfl), (show ordE.getD 41 0 = (41 : Int32) from rfl), (show numE.getD 41 0 = (41 : Int32) from rfl), (show Int32.toNatClampNeg 41 = 41 from rfl), (show swE.getD 41 0 = (42 : Int32) from rfl), (vpT 41 (by decide)), nar0, nar1, true_implies, false_implies, not_true_eq_false, not_false_eq_true, and_true, true_and, ea, reduceCtorEq, Option.some.injEq, forall_eq', exists_eq_left', en_d hG, l2, l3, l4, e8, en_d hG l1]
    rw [ctlW] at k
    refine ⟨fun z => ?_, fun z => ?_⟩
    · rw [if_pos (by rw [ho]; simp; omega)] at k
      refine ⟨_, c1, c2, c_wfull h hd ea ?_⟩
      by_cases hl : w.it.length < 60
      · rw [compR, if_pos hl] at k
        rw [decide_eq_false (fun q => q hl)]
        exact ⟨fun _ => cmp_41 h hd hl (by rw [ho]; simp; omega) (fun S' h' => k _ (RCr.ok h')), fun z => absurd rfl z⟩
      · rw [compR, if_neg hl] at k
        rw [decide_eq_true hl]
        exact ⟨fun z => absurd z (by decide), fun _ => k _ (RCr.no (by decide) h.toRCw)⟩
    · rw [if_neg (by rw [ho]; simp; omega)] at k
      exact k _ (RCr.no (by decide) h.toRCw)
theorem cc_49 {g : Gm} {ρ : Nat → Nat × Nat} {A : Ab} {S : StC} {post : Int32 → StC → Prop} {w : Wd} (h : RC g ρ A S) (hd : A.dr = some w) (hO : OpOK w A.op) (k : ∀ S', RCr g ρ (ctlW 49 A w) S' → post (ctlW 49 A w).1 S') : wp_Rd_compile g post S (g.2.2 (100 + 49)) := by
  have hG := h.kG
  have hne : A.dr ≠ none := by rw [hd]; exact fun z => by cases z
  have hB8 := h.kOpB
  have hm := (h.kDr w hd).1
  obtain ⟨a, s, x0, y0, ea, c1, c2⟩ := h.dcell hd
  match ho : A.op with
  | [] =>
    have e13 : S.1 13 = 0 := by rw [h.kOp hne, ho]; rfl
    simp (config := {decide := true}) only [en_iff hG, en_c hG, wp_En_ordinal, wp_Rd_compile, wq_Co_lack_58, wq_Co_lack_57, wq_Co_lack_36, wq_Co_lack_15, wp_Co_lack, wq_Co_fits_157, wq_Co_fits_144, wq_Co_fits_131, wq_Co_fits_118, wq_Co_fits_105, wq_Co_fits_100, wq_Co_fits_85, wq_Co_fits_22, wp_Co_fits, wq_Co_opensOne_33, wq_Co_opensOne_28, wp_Co_opensOne, wq_Co_isItem_26, wq_Co_isItem_25, wp_Co_isItem, (show takE.getD 49 0 = (0 : Int32) from rfl), (show putE.getD 49 0 = (0 : Int32) from rfl), (show ordE.getD 49 0 = (49 : Int32) from rfl), (show numE.getD 49 0 = (49 : Int32) from rfl), (show Int32.toNatClampNeg 49 = 49 from rfl), (show swE.getD 49 0 = (44 : Int32) from rfl), (vpT 49 (by decide)), nar0, nar1, true_implies, false_implies, not_true_eq_false, not_false_eq_true, and_true, true_and, ea, reduceCtorEq, Option.some.injEq, forall_eq', exists_eq_left', en_d hG, e13]
    rw [ctlW, if_pos (by rw [ho]; simp)] at k
    refine ⟨_, c1, c2, c_wfull h hd ea ?_⟩
    by_cases hl : w.it.length < 60
    · rw [compR, if_pos hl] at k
      rw [decide_eq_false (fun q => q hl)]
      exact ⟨fun _ => cmp_49 h hd hl (by rw [ho]; simp) (fun S' h' => k _ (RCr.ok h')), fun z => absurd rfl z⟩
    · rw [compR, if_neg hl] at k
      rw [decide_eq_true hl]
      exact ⟨fun z => absurd z (by decide), fun _ => k _ (RCr.no (by decide) h.toRCw)⟩
  | x :: r =>
    obtain ⟨l1, l2, l3, l4⟩ := h.last hne ho
    have hO1 := hO
    rw [ho] at hO1 hB8
    simp at hB8
    have e8 : (S.1 13 < 8) = (r.length + 1 < 8) := by
      rw [h.kOp hne, ho]
      exact propext (l_lt (by simp; omega) (by decide))
    simp (config := {decide := true}) only [en_iff hG, en_c hG, wp_En_ordinal, wp_Rd_compile, wq_Co_lack_58, wq_Co_lack_57, wq_Co_lack_36, wq_Co_lack_15, wp_Co_lack, wq_Co_fits_157, wq_Co_fits_144, wq_Co_fits_131, wq_Co_fits_118, wq_Co_fits_105, wq_Co_fits_100, wq_Co_fits_85, wq_Co_fits_22, wp_Co_fits, wq_Co_opensOne_33, wq_Co_opensOne_28, wp_Co_opensOne, wq_Co_isItem_26, wq_Co_isItem_25, wp_Co_isItem, (show takE.getD 49 0 = (0 : Int32) from rfl), (show putE.getD 49 0 = (0 : Int32) from rfl), (show ordE.getD 49 0 = (49 : Int32) from rfl), (show numE.getD 49 0 = (49 : Int32) from rfl), (show Int32.toNatClampNeg 49 = 49 from rfl), (show swE.getD 49 0 = (44 : Int32) from rfl), (vpT 49 (by decide)), nar0, nar1, true_implies, false_implies, not_true_eq_false, not_false_eq_true, and_true, true_and, ea, reduceCtorEq, Option.some.injEq, forall_eq', exists_eq_left', en_d hG, l2, l3, l4, e8, en_d hG l1]
    rw [ctlW] at k
    refine ⟨fun z => ?_, fun z => ?_⟩
    · rw [if_pos (by rw [ho]; simp; omega)] at k
      refine ⟨_, c1, c2, c_wfull h hd ea ?_⟩
      by_cases hl : w.it.length < 60
      · rw [compR, if_pos hl] at k
        rw [decide_eq_false (fun q => q hl)]
        exact ⟨fun _ => cmp_49 h hd hl (by rw [ho]; simp; omega) (fun S' h' => k _ (RCr.ok h')), fun z => absurd rfl z⟩
      · rw [compR, if_neg hl] at k
        rw [decide_eq_true hl]
        exact ⟨fun z => absurd z (by decide), fun _ => k _ (RCr.no (by decide) h.toRCw)⟩
    · rw [if_neg (by rw [ho]; simp; omega)] at k
      exact k _ (RCr.no (by decide) h.toRCw)
theorem cc_44 {g : Gm} {ρ : Nat → Nat × Nat} {A : Ab} {S : StC} {post : Int32 → StC → Prop} {w : Wd} (h : RC g ρ A S) (hd : A.dr = some w) (hO : OpOK w A.op) (k : ∀ S', RCr g ρ (ctlW 44 A w) S' → post (ctlW 44 A w).1 S') : wp_Rd_compile g post S (g.2.2 (100 + 44)) := by
  have hG := h.kG
  have hne : A.dr ≠ none := by rw [hd]; exact fun z => by cases z
  have hB8 := h.kOpB
  have hm := (h.kDr w hd).1
  obtain ⟨a, s, x0, y0, ea, c1, c2⟩ := h.dcell hd
  match ho : A.op with
  | [] =>
    have e13 : S.1 13 = 0 := by rw [h.kOp hne, ho]; rfl
    simp (config := {decide := true}) only [en_iff hG, en_c hG, wp_En_ordinal, wp_Rd_compile, wq_Co_lack_58, wq_Co_lack_57, wq_Co_lack_36, wq_Co_lack_15, wp_Co_lack, wq_Co_fits_157, wq_Co_fits_144, wq_Co_fits_131, wq_Co_fits_118, wq_Co_fits_105, wq_Co_fits_100, wq_Co_fits_85, wq_Co_fits_22, wp_Co_fits, wq_Co_opensOne_33, wq_Co_opensOne_28, wp_Co_opensOne, wq_Co_isItem_26, wq_Co_isItem_25, wp_Co_isItem, (show takE.getD 44 0 = (0 : Int32) from rfl), (show putE.getD 44 0 = (0 : Int32) from rfl), (show ordE.getD 44 0 = (44 : Int32) from rfl), (show numE.getD 44 0 = (44 : Int32) from rfl), (show Int32.toNatClampNeg 44 = 44 from rfl), (show swE.getD 44 0 = (43 : Int32) from rfl), (vpT 44 (by decide)), nar0, nar1, true_implies, false_implies, not_true_eq_false, not_false_eq_true, and_true, true_and, ea, reduceCtorEq, Option.some.injEq, forall_eq', exists_eq_left', en_d hG, e13]
    rw [ctlW, if_pos (by rw [ho]; simp)] at k
    exact cmp_44 h hd (by rw [ho]; simp) (fun S' h' => k _ (RCr.ok h'))
  | x :: r =>
    obtain ⟨l1, l2, l3, l4⟩ := h.last hne ho
    have hO1 := hO
    rw [ho] at hO1 hB8
    simp at hB8
    have e8 : (S.1 13 < 8) = (r.length + 1 < 8) := by
      rw [h.kOp hne, ho]
      exact propext (l_lt (by simp; omega) (by decide))
    simp (config := {decide := true}) only [en_iff hG, en_c hG, wp_En_ordinal, wp_Rd_compile, wq_Co_lack_58, wq_Co_lack_57, wq_Co_lack_36, wq_Co_lack_15, wp_Co_lack, wq_Co_fits_157, wq_Co_fits_144, wq_Co_fits_131, wq_Co_fits_118, wq_Co_fits_105, wq_Co_fits_100, wq_Co_fits_85, wq_Co_fits_22, wp_Co_fits, wq_Co_opensOne_33, wq_Co_opensOne_28, wp_Co_opensOne, wq_Co_isItem_26, wq_Co_isItem_25, wp_Co_isItem, (show takE.getD 44 0 = (0 : Int32) from rfl), (show putE.getD 44 0 = (0 : Int32) from rfl), (show ordE.getD 44 0 = (44 : Int32) from rfl), (show numE.getD 44 0 = (44 : Int32) from rfl), (show Int32.toNatClampNeg 44 = 44 from rfl), (show swE.getD 44 0 = (43 : Int32) from rfl), (vpT 44 (by decide)), nar0, nar1, true_implies, false_implies, not_true_eq_false, not_false_eq_true, and_true, true_and, ea, reduceCtorEq, Option.some.injEq, forall_eq', exists_eq_left', en_d hG, l2, l3, l4, e8, en_d hG l1]
    rw [ctlW] at k
    refine ⟨fun z => ?_, fun z => ?_⟩
    · rw [if_pos (by rw [ho]; simp; omega)] at k
      exact cmp_44 h hd (by rw [ho]; simp; omega) (fun S' h' => k _ (RCr.ok h'))
    · rw [if_neg (by rw [ho]; simp; omega)] at k
      exact k _ (RCr.no (by decide) h.toRCw)
theorem cc_42 {g : Gm} {ρ : Nat → Nat × Nat} {A : Ab} {S : StC} {post : Int32 → StC → Prop} {w : Wd} (h : RC g ρ A S) (hd : A.dr = some w) (hO : OpOK w A.op) (k : ∀ S', RCr g ρ (ctlW 42 A w) S' → post (ctlW 42 A w).1 S') : wp_Rd_compile g post S (g.2.2 (100 + 42)) := by
  have hG := h.kG
  have hne : A.dr ≠ none := by rw [hd]; exact fun z => by cases z
  have hB8 := h.kOpB
  have hm := (h.kDr w hd).1
  obtain ⟨a, s, x0, y0, ea, c1, c2⟩ := h.dcell hd
  match ho : A.op with
  | [] =>
    have e13 : S.1 13 = 0 := by rw [h.kOp hne, ho]; rfl
    simp (config := {decide := true}) only [en_iff hG, en_c hG, wp_En_ordinal, wp_Rd_compile, wq_Co_lack_58, wq_Co_lack_57, wq_Co_lack_36, wq_Co_lack_15, wp_Co_lack, wq_Co_fits_157, wq_Co_fits_144, wq_Co_fits_131, wq_Co_fits_118, wq_Co_fits_105, wq_Co_fits_100, wq_Co_fits_85, wq_Co_fits_22, wp_Co_fits, wq_Co_opensOne_33, wq_Co_opensOne_28, wp_Co_opensOne, wq_Co_isItem_26, wq_Co_isItem_25, wp_Co_isItem, (show takE.getD 42 0 = (0 : Int32) from rfl), (show putE.getD 42 0 = (0 : Int32) from rfl), (show ordE.getD 42 0 = (42 : Int32) from rfl), (show numE.getD 42 0 = (42 : Int32) from rfl), (show Int32.toNatClampNeg 42 = 42 from rfl), (show swE.getD 42 0 = (35 : Int32) from rfl), (vpT 42 (by decide)), nar0, nar1, true_implies, false_implies, not_true_eq_false, not_false_eq_true, and_true, true_and, ea, reduceCtorEq, Option.some.injEq, forall_eq', exists_eq_left', en_d hG, e13]
    rw [ctlW, ho] at k
    exact k _ (RCr.no (by decide) h.toRCw)
  | x :: r =>
    obtain ⟨l1, l2, l3, l4⟩ := h.last hne ho
    have hO1 := hO
    rw [ho] at hO1 hB8
    simp at hB8
    have e8 : (S.1 13 < 8) = (r.length + 1 < 8) := by
      rw [h.kOp hne, ho]
      exact propext (l_lt (by simp; omega) (by decide))
    simp (config := {decide := true}) only [en_iff hG, en_c hG, wp_En_ordinal, wp_Rd_compile, wq_Co_lack_58, wq_Co_lack_57, wq_Co_lack_36, wq_Co_lack_15, wp_Co_lack, wq_Co_fits_157, wq_Co_fits_144, wq_Co_fits_131, wq_Co_fits_118, wq_Co_fits_105, wq_Co_fits_100, wq_Co_fits_85, wq_Co_fits_22, wp_Co_fits, wq_Co_opensOne_33, wq_Co_opensOne_28, wp_Co_opensOne, wq_Co_isItem_26, wq_Co_isItem_25, wp_Co_isItem, (show takE.getD 42 0 = (0 : Int32) from rfl), (show putE.getD 42 0 = (0 : Int32) from rfl), (show ordE.getD 42 0 = (42 : Int32) from rfl), (show numE.getD 42 0 = (42 : Int32) from rfl), (show Int32.toNatClampNeg 42 = 42 from rfl), (show swE.getD 42 0 = (35 : Int32) from rfl), (vpT 42 (by decide)), nar0, nar1, true_implies, false_implies, not_true_eq_false, not_false_eq_true, and_true, true_and, ea, reduceCtorEq, Option.some.injEq, forall_eq', exists_eq_left', en_d hG, l2, l3, l4, e8, en_d hG l1]
    rw [ctlW, ho] at k
    dsimp only at k
    refine ⟨fun z => ?_, fun z => ⟨fun y => ?_, fun y => ?_⟩⟩
    · have z : x.1 = 41 := z
      rw [if_pos (Or.inl z)] at k
      exact cmp_42 h hd ho (hO1.place (Or.inl z)) (fun S' h' => k _ (RCr.ok h'))
    · have y : x.1 = 43 := y
      rw [if_pos (Or.inr y)] at k
      exact cmp_42 h hd ho (hO1.place (Or.inr (Or.inl y))) (fun S' h' => k _ (RCr.ok h'))
    · rw [if_neg (fun q => q.elim z y)] at k
      exact k _ (RCr.no (by decide) h.toRCw)
theorem cc_43 {g : Gm} {ρ : Nat → Nat × Nat} {A : Ab} {S : StC} {post : Int32 → StC → Prop} {w : Wd} (h : RC g ρ A S) (hd : A.dr = some w) (hO : OpOK w A.op) (k : ∀ S', RCr g ρ (ctlW 43 A w) S' → post (ctlW 43 A w).1 S') : wp_Rd_compile g post S (g.2.2 (100 + 43)) := by
  have hG := h.kG
  have hne : A.dr ≠ none := by rw [hd]; exact fun z => by cases z
  have hB8 := h.kOpB
  have hm := (h.kDr w hd).1
  obtain ⟨a, s, x0, y0, ea, c1, c2⟩ := h.dcell hd
  match ho : A.op with
  | [] =>
    have e13 : S.1 13 = 0 := by rw [h.kOp hne, ho]; rfl
    simp (config := {decide := true}) only [en_iff hG, en_c hG, wp_En_ordinal, wp_Rd_compile, wq_Co_lack_58, wq_Co_lack_57, wq_Co_lack_36, wq_Co_lack_15, wp_Co_lack, wq_Co_fits_157, wq_Co_fits_144, wq_Co_fits_131, wq_Co_fits_118, wq_Co_fits_105, wq_Co_fits_100, wq_Co_fits_85, wq_Co_fits_22, wp_Co_fits, wq_Co_opensOne_33, wq_Co_opensOne_28, wp_Co_opensOne, wq_Co_isItem_26, wq_Co_isItem_25, wp_Co_isItem, (show takE.getD 43 0 = (0 : Int32) from rfl), (show putE.getD 43 0 = (0 : Int32) from rfl), (show ordE.getD 43 0 = (43 : Int32) from rfl), (show numE.getD 43 0 = (43 : Int32) from rfl), (show Int32.toNatClampNeg 43 = 43 from rfl), (show swE.getD 43 0 = (36 : Int32) from rfl), (vpT 43 (by decide)), nar0, nar1, true_implies, false_implies, not_true_eq_false, not_false_eq_true, and_true, true_and, ea, reduceCtorEq, Option.some.injEq, forall_eq', exists_eq_left', en_d hG, e13]
    rw [ctlW, ho] at k
    exact k _ (RCr.no (by decide) h.toRCw)
  | x :: r =>
    obtain ⟨l1, l2, l3, l4⟩ := h.last hne ho
    have hO1 := hO
    rw [ho] at hO1 hB8
    simp at hB8
    have e8 : (S.1 13 < 8) = (r.length + 1 < 8) := by
      rw [h.kOp hne, ho]
      exact propext (l_lt (by simp; omega) (by decide))
    simp (config := {decide := true}) only [en_iff hG, en_c hG, wp_En_ordinal, wp_Rd_compile, wq_Co_lack_58, wq_Co_lack_57, wq_Co_lack_36, wq_Co_lack_15, wp_Co_lack, wq_Co_fits_157, wq_Co_fits_144, wq_Co_fits_131, wq_Co_fits_118, wq_Co_fits_105, wq_Co_fits_100, wq_Co_fits_85, wq_Co_fits_22, wp_Co_fits, wq_Co_opensOne_33, wq_Co_opensOne_28, wp_Co_opensOne, wq_Co_isItem_26, wq_Co_isItem_25, wp_Co_isItem, (show takE.getD 43 0 = (0 : Int32) from rfl), (show putE.getD 43 0 = (0 : Int32) from rfl), (show ordE.getD 43 0 = (43 : Int32) from rfl), (show numE.getD 43 0 = (43 : Int32) from rfl), (show Int32.toNatClampNeg 43 = 43 from rfl), (show swE.getD 43 0 = (36 : Int32) from rfl), (vpT 43 (by decide)), nar0, nar1, true_implies, false_implies, not_true_eq_false, not_false_eq_true, and_true, true_and, ea, reduceCtorEq, Option.some.injEq, forall_eq', exists_eq_left', en_d hG, l2, l3, l4, e8, en_d hG l1]
    rw [ctlW, ho] at k
    dsimp only at k
    refine ⟨fun z => ?_, fun z => ?_⟩
    · have z : x.1 = 41 := z
      rw [if_pos z] at k
      refine ⟨_, c1, c2, c_wfull h hd ea ?_⟩
      by_cases hl : w.it.length < 60
      · rw [compR, if_pos hl] at k
        rw [decide_eq_false (fun q => q hl)]
        exact ⟨fun _ => cmp_43 h hd ho (by omega) hl (hO1.place (Or.inl z)) (fun S' h' => k _ (RCr.ok h')), fun z => absurd rfl z⟩
      · rw [compR, if_neg hl] at k
        rw [decide_eq_true hl]
        exact ⟨fun z => absurd z (by decide), fun _ => k _ (RCr.no (by decide) h.toRCw)⟩
    · have z : ¬ x.1 = 41 := z
      rw [if_neg z] at k
      exact k _ (RCr.no (by decide) h.toRCw)
theorem cc_45 {g : Gm} {ρ : Nat → Nat × Nat} {A : Ab} {S : StC} {post : Int32 → StC → Prop} {w : Wd} (h : RC g ρ A S) (hd : A.dr = some w) (hO : OpOK w A.op) (k : ∀ S', RCr g ρ (ctlW 45 A w) S' → post (ctlW 45 A w).1 S') : wp_Rd_compile g post S (g.2.2 (100 + 45)) := by
  have hG := h.kG
  have hne : A.dr ≠ none := by rw [hd]; exact fun z => by cases z
  have hB8 := h.kOpB
  have hm := (h.kDr w hd).1
  obtain ⟨a, s, x0, y0, ea, c1, c2⟩ := h.dcell hd
  match ho : A.op with
  | [] =>
    have e13 : S.1 13 = 0 := by rw [h.kOp hne, ho]; rfl
    simp (config := {decide := true}) only [en_iff hG, en_c hG, wp_En_ordinal, wp_Rd_compile, wq_Co_lack_58, wq_Co_lack_57, wq_Co_lack_36, wq_Co_lack_15, wp_Co_lack, wq_Co_fits_157, wq_Co_fits_144, wq_Co_fits_131, wq_Co_fits_118, wq_Co_fits_105, wq_Co_fits_100, wq_Co_fits_85, wq_Co_fits_22, wp_Co_fits, wq_Co_opensOne_33, wq_Co_opensOne_28, wp_Co_opensOne, wq_Co_isItem_26, wq_Co_isItem_25, wp_Co_isItem, (show takE.getD 45 0 = (0 : Int32) from rfl), (show putE.getD 45 0 = (0 : Int32) from rfl), (show ordE.getD 45 0 = (45 : Int32) from rfl), (show numE.getD 45 0 = (45 : Int32) from rfl), (show Int32.toNatClampNeg 45 = 45 from rfl), (show swE.getD 45 0 = (37 : Int32) from rfl), (vpT 45 (by decide)), nar0, nar1, true_implies, false_implies, not_true_eq_false, not_false_eq_true, and_true, true_and, ea, reduceCtorEq, Option.some.injEq, forall_eq', exists_eq_left', en_d hG, e13]
    rw [ctlW, ho] at k
    exact k _ (RCr.no (by decide) h.toRCw)
  | x :: r =>
    obtain ⟨l1, l2, l3, l4⟩ := h.last hne ho
    have hO1 := hO
    rw [ho] at hO1 hB8
    simp at hB8
    have e8 : (S.1 13 < 8) = (r.length + 1 < 8) := by
      rw [h.kOp hne, ho]
      exact propext (l_lt (by simp; omega) (by decide))
    simp (config := {decide := true}) only [en_iff hG, en_c hG, wp_En_ordinal, wp_Rd_compile, wq_Co_lack_58, wq_Co_lack_57, wq_Co_lack_36, wq_Co_lack_15, wp_Co_lack, wq_Co_fits_157, wq_Co_fits_144, wq_Co_fits_131, wq_Co_fits_118, wq_Co_fits_105, wq_Co_fits_100, wq_Co_fits_85, wq_Co_fits_22, wp_Co_fits, wq_Co_opensOne_33, wq_Co_opensOne_28, wp_Co_opensOne, wq_Co_isItem_26, wq_Co_isItem_25, wp_Co_isItem, (show takE.getD 45 0 = (0 : Int32) from rfl), (show putE.getD 45 0 = (0 : Int32) from rfl), (show ordE.getD 45 0 = (45 : Int32) from rfl), (show numE.getD 45 0 = (45 : Int32) from rfl), (show Int32.toNatClampNeg 45 = 45 from rfl), (show swE.getD 45 0 = (37 : Int32) from rfl), (vpT 45 (by decide)), nar0, nar1, true_implies, false_implies, not_true_eq_false, not_false_eq_true, and_true, true_and, ea, reduceCtorEq, Option.some.injEq, forall_eq', exists_eq_left', en_d hG, l2, l3, l4, e8, en_d hG l1]
    rw [ctlW, ho] at k
    dsimp only at k
    refine ⟨fun z => ?_, fun z => ?_⟩
    · have z : x.1 = 44 := z
      rw [if_pos z] at k
      refine ⟨_, c1, c2, c_wfull h hd ea ?_⟩
      by_cases hl : w.it.length < 60
      · rw [compR, if_pos hl] at k
        rw [decide_eq_false (fun q => q hl)]
        exact ⟨fun _ => cmp_45 h hd ho hl (fun S' h' => k _ (RCr.ok h')), fun z => absurd rfl z⟩
      · rw [compR, if_neg hl] at k
        rw [decide_eq_true hl]
        exact ⟨fun z => absurd z (by decide), fun _ => k _ (RCr.no (by decide) h.toRCw)⟩
    · have z : ¬ x.1 = 44 := z
      rw [if_neg z] at k
      exact k _ (RCr.no (by decide) h.toRCw)
theorem cc_46 {g : Gm} {ρ : Nat → Nat × Nat} {A : Ab} {S : StC} {post : Int32 → StC → Prop} {w : Wd} (h : RC g ρ A S) (hd : A.dr = some w) (hO : OpOK w A.op) (k : ∀ S', RCr g ρ (ctlW 46 A w) S' → post (ctlW 46 A w).1 S') : wp_Rd_compile g post S (g.2.2 (100 + 46)) := by
  have hG := h.kG
  have hne : A.dr ≠ none := by rw [hd]; exact fun z => by cases z
  have hB8 := h.kOpB
  have hm := (h.kDr w hd).1
  obtain ⟨a, s, x0, y0, ea, c1, c2⟩ := h.dcell hd
  match ho : A.op with
  | [] =>
    have e13 : S.1 13 = 0 := by rw [h.kOp hne, ho]; rfl
    simp (config := {decide := true}) only [en_iff hG, en_c hG, wp_En_ordinal, wp_Rd_compile, wq_Co_lack_58, wq_Co_lack_57, wq_Co_lack_36, wq_Co_lack_15, wp_Co_lack, wq_Co_fits_157, wq_Co_fits_144, wq_Co_fits_131, wq_Co_fits_118, wq_Co_fits_105, wq_Co_fits_100, wq_Co_fits_85, wq_Co_fits_22, wp_Co_fits, wq_Co_opensOne_33, wq_Co_opensOne_28, wp_Co_opensOne, wq_Co_isItem_26, wq_Co_isItem_25, wp_Co_isItem, (show takE.getD 46 0 = (0 : Int32) from rfl), (show putE.getD 46 0 = (0 : Int32) from rfl), (show ordE.getD 46 0 = (46 : Int32) from rfl), (show numE.getD 46 0 = (46 : Int32) from rfl), (show Int32.toNatClampNeg 46 = 46 from rfl), (show swE.getD 46 0 = (38 : Int32) from rfl), (vpT 46 (by decide)), nar0, nar1, true_implies, false_implies, not_true_eq_false, not_false_eq_true, and_true, true_and, ea, reduceCtorEq, Option.some.injEq, forall_eq', exists_eq_left', en_d hG, e13]
    rw [ctlW, ho] at k
    exact k _ (RCr.no (by decide) h.toRCw)
  | x :: r =>
    obtain ⟨l1, l2, l3, l4⟩ := h.last hne ho
    have hO1 := hO
    rw [ho] at hO1 hB8
    simp at hB8
    have e8 : (S.1 13 < 8) = (r.length + 1 < 8) := by
      rw [h.kOp hne, ho]
      exact propext (l_lt (by simp; omega) (by decide))
    simp (config := {decide := true}) only [en_iff hG, en_c hG, wp_En_ordinal, wp_Rd_compile, wq_Co_lack_58, wq_Co_lack_57, wq_Co_lack_36, wq_Co_lack_15, wp_Co_lack, wq_Co_fits_157, wq_Co_fits_144, wq_Co_fits_131, wq_Co_fits_118, wq_Co_fits_105, wq_Co_fits_100, wq_Co_fits_85, wq_Co_fits_22, wp_Co_fits, wq_Co_opensOne_33, wq_Co_opensOne_28, wp_Co_opensOne, wq_Co_isItem_26, wq_Co_isItem_25, wp_Co_isItem, (show takE.getD 46 0 = (0 : Int32) from rfl), (show putE.getD 46 0 = (0 : Int32) from rfl), (show ordE.getD 46 0 = (46 : Int32) from rfl), (show numE.getD 46 0 = (46 : Int32) from rfl), (show Int32.toNatClampNeg 46 = 46 from rfl), (show swE.getD 46 0 = (38 : Int32) from rfl), (vpT 46 (by decide)), nar0, nar1, true_implies, false_implies, not_true_eq_false, not_false_eq_true, and_true, true_and, ea, reduceCtorEq, Option.some.injEq, forall_eq', exists_eq_left', en_d hG, l2, l3, l4, e8, en_d hG l1]
    rw [ctlW, ho] at k
    dsimp only at k
    refine ⟨fun z => ?_, fun z => ?_⟩
    · have z : x.1 = 44 := z
      rw [if_pos z] at k
      refine ⟨_, c1, c2, c_wfull h hd ea ?_⟩
      by_cases hl : w.it.length < 60
      · rw [compR, if_pos hl] at k
        rw [decide_eq_false (fun q => q hl)]
        exact ⟨fun _ => cmp_46 h hd ho hl (fun S' h' => k _ (RCr.ok h')), fun z => absurd rfl z⟩
      · rw [compR, if_neg hl] at k
        rw [decide_eq_true hl]
        exact ⟨fun z => absurd z (by decide), fun _ => k _ (RCr.no (by decide) h.toRCw)⟩
    · have z : ¬ x.1 = 44 := z
      rw [if_neg z] at k
      exact k _ (RCr.no (by decide) h.toRCw)
theorem cc_50 {g : Gm} {ρ : Nat → Nat × Nat} {A : Ab} {S : StC} {post : Int32 → StC → Prop} {w : Wd} (h : RC g ρ A S) (hd : A.dr = some w) (hO : OpOK w A.op) (k : ∀ S', RCr g ρ (ctlW 50 A w) S' → post (ctlW 50 A w).1 S') : wp_Rd_compile g post S (g.2.2 (100 + 50)) := by
  have hG := h.kG
  have hne : A.dr ≠ none := by rw [hd]; exact fun z => by cases z
  have hB8 := h.kOpB
  have hm := (h.kDr w hd).1
  obtain ⟨a, s, x0, y0, ea, c1, c2⟩ := h.dcell hd
  match ho : A.op with
  | [] =>
    have e13 : S.1 13 = 0 := by rw [h.kOp hne, ho]; rfl
    simp (config := {decide := true}) only [en_iff hG, en_c hG, wp_En_ordinal, wp_Rd_compile, wq_Co_lack_58, wq_Co_lack_57, wq_Co_lack_36, wq_Co_lack_15, wp_Co_lack, wq_Co_fits_157, wq_Co_fits_144, wq_Co_fits_131, wq_Co_fits_118, wq_Co_fits_105, wq_Co_fits_100, wq_Co_fits_85, wq_Co_fits_22, wp_Co_fits, wq_Co_opensOne_33, wq_Co_opensOne_28, wp_Co_opensOne, wq_Co_isItem_26, wq_Co_isItem_25, wp_Co_isItem, (show takE.getD 50 0 = (0 : Int32) from rfl), (show putE.getD 50 0 = (0 : Int32) from rfl), (show ordE.getD 50 0 = (50 : Int32) from rfl), (show numE.getD 50 0 = (50 : Int32) from rfl), (show Int32.toNatClampNeg 50 = 50 from rfl), (show swE.getD 50 0 = (41 : Int32) from rfl), (vpT 50 (by decide)), nar0, nar1, true_implies, false_implies, not_true_eq_false, not_false_eq_true, and_true, true_and, ea, reduceCtorEq, Option.some.injEq, forall_eq', exists_eq_left', en_d hG, e13]
    rw [ctlW, ho] at k
    exact k _ (RCr.no (by decide) h.toRCw)
  | x :: r =>
    obtain ⟨l1, l2, l3, l4⟩ := h.last hne ho
    have hO1 := hO
    rw [ho] at hO1 hB8
    simp at hB8
    have e8 : (S.1 13 < 8) = (r.length + 1 < 8) := by
      rw [h.kOp hne, ho]
      exact propext (l_lt (by simp; omega) (by decide))
    simp (config := {decide := true}) only [en_iff hG, en_c hG, wp_En_ordinal, wp_Rd_compile, wq_Co_lack_58, wq_Co_lack_57, wq_Co_lack_36, wq_Co_lack_15, wp_Co_lack, wq_Co_fits_157, wq_Co_fits_144, wq_Co_fits_131, wq_Co_fits_118, wq_Co_fits_105, wq_Co_fits_100, wq_Co_fits_85, wq_Co_fits_22, wp_Co_fits, wq_Co_opensOne_33, wq_Co_opensOne_28, wp_Co_opensOne, wq_Co_isItem_26, wq_Co_isItem_25, wp_Co_isItem, (show takE.getD 50 0 = (0 : Int32) from rfl), (show putE.getD 50 0 = (0 : Int32) from rfl), (show ordE.getD 50 0 = (50 : Int32) from rfl), (show numE.getD 50 0 = (50 : Int32) from rfl), (show Int32.toNatClampNeg 50 = 50 from rfl), (show swE.getD 50 0 = (41 : Int32) from rfl), (vpT 50 (by decide)), nar0, nar1, true_implies, false_implies, not_true_eq_false, not_false_eq_true, and_true, true_and, ea, reduceCtorEq, Option.some.injEq, forall_eq', exists_eq_left', en_d hG, l2, l3, l4, e8, en_d hG l1]
    rw [ctlW, ho] at k
    dsimp only at k
    refine ⟨fun z => ?_, fun z => ?_⟩
    · have z : x.1 = 49 := z
      rw [if_pos z] at k
      refine ⟨_, c1, c2, c_wfull h hd ea ?_⟩
      by_cases hl : w.it.length < 60
      · rw [compR, if_pos hl] at k
        rw [decide_eq_false (fun q => q hl)]
        exact ⟨fun _ => cmp_50 h hd ho hl (fun S' h' => k _ (RCr.ok h')), fun z => absurd rfl z⟩
      · rw [compR, if_neg hl] at k
        rw [decide_eq_true hl]
        exact ⟨fun z => absurd z (by decide), fun _ => k _ (RCr.no (by decide) h.toRCw)⟩
    · have z : ¬ x.1 = 49 := z
      rw [if_neg z] at k
      exact k _ (RCr.no (by decide) h.toRCw)
theorem cc_47 {g : Gm} {ρ : Nat → Nat × Nat} {A : Ab} {S : StC} {post : Int32 → StC → Prop} {w : Wd} (h : RC g ρ A S) (hd : A.dr = some w) (hO : OpOK w A.op) (k : ∀ S', RCr g ρ (ctlW 47 A w) S' → post (ctlW 47 A w).1 S') : wp_Rd_compile g post S (g.2.2 (100 + 47)) := by
  have hG := h.kG
  have hne : A.dr ≠ none := by rw [hd]; exact fun z => by cases z
  have hB8 := h.kOpB
  have hm := (h.kDr w hd).1
  obtain ⟨a, s, x0, y0, ea, c1, c2⟩ := h.dcell hd
  match ho : A.op with
  | [] =>
    have e13 : S.1 13 = 0 := by rw [h.kOp hne, ho]; rfl
    simp (config := {decide := true}) only [en_iff hG, en_c hG, wp_En_ordinal, wp_Rd_compile, wq_Co_lack_58, wq_Co_lack_57, wq_Co_lack_36, wq_Co_lack_15, wp_Co_lack, wq_Co_fits_157, wq_Co_fits_144, wq_Co_fits_131, wq_Co_fits_118, wq_Co_fits_105, wq_Co_fits_100, wq_Co_fits_85, wq_Co_fits_22, wp_Co_fits, wq_Co_opensOne_33, wq_Co_opensOne_28, wp_Co_opensOne, wq_Co_isItem_26, wq_Co_isItem_25, wp_Co_isItem, (show takE.getD 47 0 = (0 : Int32) from rfl), (show putE.getD 47 0 = (0 : Int32) from rfl), (show ordE.getD 47 0 = (47 : Int32) from rfl), (show numE.getD 47 0 = (47 : Int32) from rfl), (show Int32.toNatClampNeg 47 = 47 from rfl), (show swE.getD 47 0 = (39 : Int32) from rfl), (vpT 47 (by decide)), nar0, nar1, true_implies, false_implies, not_true_eq_false, not_false_eq_true, and_true, true_and, ea, reduceCtorEq, Option.some.injEq, forall_eq', exists_eq_left', en_d hG, e13]
    rw [ctlW, ho] at k
    exact k _ (RCr.no (by decide) h.toRCw)
  | x :: r =>
    obtain ⟨l1, l2, l3, l4⟩ := h.last hne ho
    have hO1 := hO
    rw [ho] at hO1 hB8
    simp at hB8
    have e8 : (S.1 13 < 8) = (r.length + 1 < 8) := by
      rw [h.kOp hne, ho]
      exact propext (l_lt (by simp; omega) (by decide))
    simp (config := {decide := true}) only [en_iff hG, en_c hG, wp_En_ordinal, wp_Rd_compile, wq_Co_lack_58, wq_Co_lack_57, wq_Co_lack_36, wq_Co_lack_15, wp_Co_lack, wq_Co_fits_157, wq_Co_fits_144, wq_Co_fits_131, wq_Co_fits_118, wq_Co_fits_105, wq_Co_fits_100, wq_Co_fits_85, wq_Co_fits_22, wp_Co_fits, wq_Co_opensOne_33, wq_Co_opensOne_28, wp_Co_opensOne, wq_Co_isItem_26, wq_Co_isItem_25, wp_Co_isItem, (show takE.getD 47 0 = (0 : Int32) from rfl), (show putE.getD 47 0 = (0 : Int32) from rfl), (show ordE.getD 47 0 = (47 : Int32) from rfl), (show numE.getD 47 0 = (47 : Int32) from rfl), (show Int32.toNatClampNeg 47 = 47 from rfl), (show swE.getD 47 0 = (39 : Int32) from rfl), (vpT 47 (by decide)), nar0, nar1, true_implies, false_implies, not_true_eq_false, not_false_eq_true, and_true, true_and, ea, reduceCtorEq, Option.some.injEq, forall_eq', exists_eq_left', en_d hG, l2, l3, l4, e8, en_d hG l1]
    have e47 : ctlW 47 A w = if x.1 = 44 then if A.op.length < 8 then compR A w 2 0 ((47, w.it.length) :: A.op) id else (3, A) else (6, A) := by
      rw [ctlW]
      split
      · rename_i q
        rw [ho] at q
        cases q
      · rename_i x' r' q
        rw [ho] at q
        cases q
        rfl
    rw [e47] at k
    refine ⟨fun z => ⟨fun y => ?_, fun y => ?_⟩, fun z => ?_⟩
    · have z : x.1 = 44 := z
      rw [if_pos z, if_pos (by rw [ho]; simp; omega)] at k
      refine ⟨_, c1, c2, c_wfull h hd ea ?_⟩
      by_cases hl : w.it.length < 60
      · rw [compR, if_pos hl] at k
        rw [decide_eq_false (fun q => q hl)]
        exact ⟨fun _ => cmp_47 h hd hl (by rw [ho]; simp; omega) (fun S' h' => k _ (RCr.ok h')), fun z => absurd rfl z⟩
      · rw [compR, if_neg hl] at k
        rw [decide_eq_true hl]
        exact ⟨fun z => absurd z (by decide), fun _ => k _ (RCr.no (by decide) h.toRCw)⟩
    · have z : x.1 = 44 := z
      rw [if_pos z, if_neg (by rw [ho]; simp; omega)] at k
      exact k _ (RCr.no (by decide) h.toRCw)
    · have z : ¬ x.1 = 44 := z
      rw [if_neg z] at k
      exact k _ (RCr.no (by decide) h.toRCw)
theorem cc_48 {g : Gm} {ρ : Nat → Nat × Nat} {A : Ab} {S : StC} {post : Int32 → StC → Prop} {w : Wd} (h : RC g ρ A S) (hd : A.dr = some w) (hO : OpOK w A.op) (k : ∀ S', RCr g ρ (ctlW 48 A w) S' → post (ctlW 48 A w).1 S') : wp_Rd_compile g post S (g.2.2 (100 + 48)) := by
  have hG := h.kG
  have hne : A.dr ≠ none := by rw [hd]; exact fun z => by cases z
  have hB8 := h.kOpB
  have hm := (h.kDr w hd).1
  obtain ⟨a, s, x0, y0, ea, c1, c2⟩ := h.dcell hd
  match ho : A.op with
  | [] =>
    have e13 : S.1 13 = 0 := by rw [h.kOp hne, ho]; rfl
    simp (config := {decide := true}) only [en_iff hG, en_c hG, wp_En_ordinal, wp_Rd_compile, wq_Co_lack_58, wq_Co_lack_57, wq_Co_lack_36, wq_Co_lack_15, wp_Co_lack, wq_Co_fits_157, wq_Co_fits_144, wq_Co_fits_131, wq_Co_fits_118, wq_Co_fits_105, wq_Co_fits_100, wq_Co_fits_85, wq_Co_fits_22, wp_Co_fits, wq_Co_opensOne_33, wq_Co_opensOne_28, wp_Co_opensOne, wq_Co_isItem_26, wq_Co_isItem_25, wp_Co_isItem, (show takE.getD 48 0 = (0 : Int32) from rfl), (show putE.getD 48 0 = (0 : Int32) from rfl), (show ordE.getD 48 0 = (48 : Int32) from rfl), (show numE.getD 48 0 = (48 : Int32) from rfl), (show Int32.toNatClampNeg 48 = 48 from rfl), (show swE.getD 48 0 = (40 : Int32) from rfl), (vpT 48 (by decide)), nar0, nar1, true_implies, false_implies, not_true_eq_false, not_false_eq_true, and_true, true_and, ea, reduceCtorEq, Option.some.injEq, forall_eq', exists_eq_left', en_d hG, e13]
    rw [ctlW, ho] at k
    exact k _ (RCr.no (by decide) h.toRCw)
  | x :: r =>
    obtain ⟨l1, l2, l3, l4⟩ := h.last hne ho
    have hO1 := hO
    rw [ho] at hO1 hB8
    simp at hB8
    have e8 : (S.1 13 < 8) = (r.length + 1 < 8) := by
      rw [h.kOp hne, ho]
      exact propext (l_lt (by simp; omega) (by decide))
    simp (config := {decide := true}) only [en_iff hG, en_c hG, wp_En_ordinal, wp_Rd_compile, wq_Co_lack_58, wq_Co_lack_57, wq_Co_lack_36, wq_Co_lack_15, wp_Co_lack, wq_Co_fits_157, wq_Co_fits_144, wq_Co_fits_131, wq_Co_fits_118, wq_Co_fits_105, wq_Co_fits_100, wq_Co_fits_85, wq_Co_fits_22, wp_Co_fits, wq_Co_opensOne_33, wq_Co_opensOne_28, wp_Co_opensOne, wq_Co_isItem_26, wq_Co_isItem_25, wp_Co_isItem, (show takE.getD 48 0 = (0 : Int32) from rfl), (show putE.getD 48 0 = (0 : Int32) from rfl), (show ordE.getD 48 0 = (48 : Int32) from rfl), (show numE.getD 48 0 = (48 : Int32) from rfl), (show Int32.toNatClampNeg 48 = 48 from rfl), (show swE.getD 48 0 = (40 : Int32) from rfl), (vpT 48 (by decide)), nar0, nar1, true_implies, false_implies, not_true_eq_false, not_false_eq_true, and_true, true_and, ea, reduceCtorEq, Option.some.injEq, forall_eq', exists_eq_left', en_d hG, l2, l3, l4, e8, en_d hG l1]
    refine ⟨fun z => ?_, fun z => ?_⟩
    · have z : x.1 = 47 := z
      have hw47 : ∃ q r', r = (44, q) :: r' := by
        obtain ⟨-, q | q | q⟩ := hO1
        · exact q.2.2 z
        · omega
        · omega
      obtain ⟨q, r', hr⟩ := hw47
      subst hr
      rw [ctlW, ho] at k
      dsimp only at k
      rw [if_pos z] at k
      refine ⟨_, c1, c2, c_wfull h hd ea ?_⟩
      by_cases hl : w.it.length < 60
      · rw [compR, if_pos hl] at k
        rw [decide_eq_false (fun q => q hl)]
        exact ⟨fun _ => cmp_48 h hd ho hl (hO1.place (Or.inr (Or.inr z))) (fun S' h' => k _ (RCr.ok h')), fun z => absurd rfl z⟩
      · rw [compR, if_neg hl] at k
        rw [decide_eq_true hl]
        exact ⟨fun z => absurd z (by decide), fun _ => k _ (RCr.no (by decide) h.toRCw)⟩
    · have z : ¬ x.1 = 47 := z
      have e48 : ctlW 48 A w = (6, A) := by
        rw [ctlW, ho]
        match r with
        | [] => rfl
        | y :: r => exact if_neg z
      rw [e48] at k
      exact k _ (RCr.no (by decide) h.toRCw)
theorem cc_51 {g : Gm} {ρ : Nat → Nat × Nat} {A : Ab} {S : StC} {post : Int32 → StC → Prop} {w : Wd} (h : RC g ρ A S) (hd : A.dr = some w) (hO : OpOK w A.op) (k : ∀ S', RCr g ρ (ctlW 51 A w) S' → post (ctlW 51 A w).1 S') : wp_Rd_compile g post S (g.2.2 (100 + 51)) := by
  have hG := h.kG
  have hne : A.dr ≠ none := by rw [hd]; exact fun z => by cases z
  have hB8 := h.kOpB
  have hm := (h.kDr w hd).1
  obtain ⟨a, s, x0, y0, ea, c1, c2⟩ := h.dcell hd
  match ho : A.op with
  | [] =>
    have e13 : S.1 13 = 0 := by rw [h.kOp hne, ho]; rfl
    simp (config := {decide := true}) only [en_iff hG, en_c hG, wp_En_ordinal, wp_Rd_compile, wq_Co_lack_58, wq_Co_lack_57, wq_Co_lack_36, wq_Co_lack_15, wp_Co_lack, wq_Co_fits_157, wq_Co_fits_144, wq_Co_fits_131, wq_Co_fits_118, wq_Co_fits_105, wq_Co_fits_100, wq_Co_fits_85, wq_Co_fits_22, wp_Co_fits, wq_Co_opensOne_33, wq_Co_opensOne_28, wp_Co_opensOne, wq_Co_isItem_26, wq_Co_isItem_25, wp_Co_isItem, (show takE.getD 51 0 = (0 : Int32) from rfl), (show putE.getD 51 0 = (0 : Int32) from rfl), (show ordE.getD 51 0 = (51 : Int32) from rfl), (show numE.getD 51 0 = (51 : Int32) from rfl), (show Int32.toNatClampNeg 51 = 51 from rfl), (show swE.getD 51 0 = (0 : Int32) from rfl), (vpT 51 (by decide)), nar0, nar1, true_implies, false_implies, not_true_eq_false, not_false_eq_true, and_true, true_and, ea, reduceCtorEq, Option.some.injEq, forall_eq', exists_eq_left', en_d hG, e13]
    have e100 : 100 + S.1 12 = Int32.ofNat (100 + A.ws.length) := by
      rw [h.kMade]
      exact n_add 100 A.ws.length
    have k : ∀ S', RCr g ρ (compR A w 0 (Int32.ofNat (100 + A.ws.length)) A.op id) S' → post (compR A w 0 (Int32.ofNat (100 + A.ws.length)) A.op id).1 S' := k
    refine ⟨_, c1, c2, c_wfull h hd ea ?_⟩
    by_cases hl : w.it.length < 60
    · rw [decide_eq_false (fun q => q hl)]
      refine ⟨fun _ => ?_, fun z => absurd rfl z⟩
      unfold wp_Di_nextNumber
      rw [e100]
      exact c_addItem (kd := 0) h hd k
    · rw [compR, if_neg hl] at k
      rw [decide_eq_true hl]
      exact ⟨fun z => absurd z (by decide), fun _ => k _ (RCr.no (by decide) h.toRCw)⟩
  | x :: r =>
    obtain ⟨l1, l2, l3, l4⟩ := h.last hne ho
    have hO1 := hO
    rw [ho] at hO1 hB8
    simp at hB8
    have e8 : (S.1 13 < 8) = (r.length + 1 < 8) := by
      rw [h.kOp hne, ho]
      exact propext (l_lt (by simp; omega) (by decide))
    simp (config := {decide := true}) only [en_iff hG, en_c hG, wp_En_ordinal, wp_Rd_compile, wq_Co_lack_58, wq_Co_lack_57, wq_Co_lack_36, wq_Co_lack_15, wp_Co_lack, wq_Co_fits_157, wq_Co_fits_144, wq_Co_fits_131, wq_Co_fits_118, wq_Co_fits_105, wq_Co_fits_100, wq_Co_fits_85, wq_Co_fits_22, wp_Co_fits, wq_Co_opensOne_33, wq_Co_opensOne_28, wp_Co_opensOne, wq_Co_isItem_26, wq_Co_isItem_25, wp_Co_isItem, (show takE.getD 51 0 = (0 : Int32) from rfl), (show putE.getD 51 0 = (0 : Int32) from rfl), (show ordE.getD 51 0 = (51 : Int32) from rfl), (show numE.getD 51 0 = (51 : Int32) from rfl), (show Int32.toNatClampNeg 51 = 51 from rfl), (show swE.getD 51 0 = (0 : Int32) from rfl), (vpT 51 (by decide)), nar0, nar1, true_implies, false_implies, not_true_eq_false, not_false_eq_true, and_true, true_and, ea, reduceCtorEq, Option.some.injEq, forall_eq', exists_eq_left', en_d hG, l2, l3, l4, e8, en_d hG l1]
    have e100 : 100 + S.1 12 = Int32.ofNat (100 + A.ws.length) := by
      rw [h.kMade]
      exact n_add 100 A.ws.length
    have k : ∀ S', RCr g ρ (compR A w 0 (Int32.ofNat (100 + A.ws.length)) A.op id) S' → post (compR A w 0 (Int32.ofNat (100 + A.ws.length)) A.op id).1 S' := k
    refine ⟨_, c1, c2, c_wfull h hd ea ?_⟩
    by_cases hl : w.it.length < 60
    · rw [decide_eq_false (fun q => q hl)]
      refine ⟨fun _ => ?_, fun z => absurd rfl z⟩
      unfold wp_Di_nextNumber
      rw [e100]
      exact c_addItem (kd := 0) h hd k
    · rw [compR, if_neg hl] at k
      rw [decide_eq_true hl]
      exact ⟨fun z => absurd z (by decide), fun _ => k _ (RCr.no (by decide) h.toRCw)⟩
theorem cc_40 {g : Gm} {ρ : Nat → Nat × Nat} {A : Ab} {S : StC} {post : Int32 → StC → Prop} {w : Wd} (h : RC g ρ A S) (hd : A.dr = some w) (hO : OpOK w A.op) (hcs : A.cs = []) (k : ∀ S', RCr g ρ (ctlW 40 A w) S' → post (ctlW 40 A w).1 S') : wp_Rd_compile g post S (g.2.2 (100 + 40)) := by
  have hG := h.kG
  have hne : A.dr ≠ none := by rw [hd]; exact fun z => by cases z
  have hB8 := h.kOpB
  have hm := (h.kDr w hd).1
  obtain ⟨a, s, x0, y0, ea, c1, c2⟩ := h.dcell hd
  match ho : A.op with
  | [] =>
    have e13 : S.1 13 = 0 := by rw [h.kOp hne, ho]; rfl
    simp (config := {decide := true}) only [en_iff hG, en_c hG, wp_En_ordinal, wp_Rd_compile, wq_Co_lack_58, wq_Co_lack_57, wq_Co_lack_36, wq_Co_lack_15, wp_Co_lack, wq_Co_fits_157, wq_Co_fits_144, wq_Co_fits_131, wq_Co_fits_118, wq_Co_fits_105, wq_Co_fits_100, wq_Co_fits_85, wq_Co_fits_22, wp_Co_fits, wq_Co_opensOne_33, wq_Co_opensOne_28, wp_Co_opensOne, wq_Co_isItem_26, wq_Co_isItem_25, wp_Co_isItem, (show takE.getD 40 0 = (0 : Int32) from rfl), (show putE.getD 40 0 = (0 : Int32) from rfl), (show ordE.getD 40 0 = (40 : Int32) from rfl), (show numE.getD 40 0 = (40 : Int32) from rfl), (show Int32.toNatClampNeg 40 = 40 from rfl), (show swE.getD 40 0 = (34 : Int32) from rfl), (vpT 40 (by decide)), nar0, nar1, true_implies, false_implies, not_true_eq_false, not_false_eq_true, and_true, true_and, ea, reduceCtorEq, Option.some.injEq, forall_eq', exists_eq_left', en_d hG, e13]
    refine ⟨?_, fun _ => trivial⟩
    rw [ctlW, ho] at k
    dsimp only at k
    unfold wp_Co_end
    rw [ea]
    refine ⟨fun z => (by cases z), fun y1 e => ?_⟩
    cases e
    have hMB := h.kMadeB
    have eN : (S.1 12).toNatClampNeg = A.ws.length := by rw [h.kMade, n_cl (by omega)]
    refine ⟨fun z => ?_, fun _ => ⟨_, c1, c2, ?_, k _ (RCr.ok ?_)⟩⟩
    · have z : 24 ≤ S.1 12 := z
      rw [h.kMade, r_le (by decide) (by omega)] at z
      omega
    · show vp_in (S.1 12) 24
      rw [h.kMade]
      exact n_in (by omega) (by omega)
    · obtain ⟨-, a', ea', hW⟩ := h.kDr w hd
      rw [ea] at ea'
      cases ea'
      refine (RC.mk (h.kHere) (h.kHereB) (h.kMem) (h.kPr) (h.kPrB) (h.kPbB) (h.kOut) (h.kFu) (h.kHas) (h.kHasB) (h.kUp) (h.kUpB) (h.kTold) (h.kToldB) (h.kToldH) (?_) (?_) (fun j v hj => ?_) (h.kRows) (h.kLay) (h.kPos) (h.kTk) (h.kTx) (h.kBt) (h.kG) (h.kDs) (h.kDsB) (h.kDsS) (h.kRs) (h.kRsB) (h.kRsS) (h.kCs) (h.kCsB) (?_) (fun _ => rfl) (fun v hv => (by cases hv)) (fun z => absurd rfl z) ((by show A.op.length ≤ 8; rw [ho]; exact Nat.zero_le _)) (fun z => absurd rfl z) (fun z => absurd rfl z))
      · show S.1 12 + 1 = Int32.ofNat (A.ws ++ [w]).length
        rw [h.kMade, of_succ]
        simp
      · show (A.ws ++ [w]).length ≤ 24
        simp
        omega
      · have hj : (A.ws ++ [w])[j]? = some v := hj
        show ∃ b, va_up (S.2.2.2.2.1 0) (S.1 12).toNatClampNeg (some a) j = some b ∧ WordAt g S.2.2.2.2.2.1 S.2.2.2.2.2.2 ρ j b v
        rw [eN]
        by_cases e : j = A.ws.length
        · subst e
          rw [List.getElem?_append_right (Nat.le_refl _)] at hj
          simp at hj
          subst hj
          exact ⟨a, va_up_self _ _ _, hW⟩
        · have hi : j < A.ws.length := by
            have := get_lt hj
            simp at this
            omega
          rw [List.getElem?_append_left hi] at hj
          rw [va_up_ne _ _ e]
          exact h.kWs j v hj
      · show FrC g _ _ _ _ ρ A.cs
        rw [hcs]
        trivial
  | x :: r =>
    obtain ⟨l1, l2, l3, l4⟩ := h.last hne ho
    have hO1 := hO
    rw [ho] at hO1 hB8
    simp at hB8
    have e8 : (S.1 13 < 8) = (r.length + 1 < 8) := by
      rw [h.kOp hne, ho]
      exact propext (l_lt (by simp; omega) (by decide))
    simp (config := {decide := true}) only [en_iff hG, en_c hG, wp_En_ordinal, wp_Rd_compile, wq_Co_lack_58, wq_Co_lack_57, wq_Co_lack_36, wq_Co_lack_15, wp_Co_lack, wq_Co_fits_157, wq_Co_fits_144, wq_Co_fits_131, wq_Co_fits_118, wq_Co_fits_105, wq_Co_fits_100, wq_Co_fits_85, wq_Co_fits_22, wp_Co_fits, wq_Co_opensOne_33, wq_Co_opensOne_28, wp_Co_opensOne, wq_Co_isItem_26, wq_Co_isItem_25, wp_Co_isItem, (show takE.getD 40 0 = (0 : Int32) from rfl), (show putE.getD 40 0 = (0 : Int32) from rfl), (show ordE.getD 40 0 = (40 : Int32) from rfl), (show numE.getD 40 0 = (40 : Int32) from rfl), (show Int32.toNatClampNeg 40 = 40 from rfl), (show swE.getD 40 0 = (34 : Int32) from rfl), (vpT 40 (by decide)), nar0, nar1, true_implies, false_implies, not_true_eq_false, not_false_eq_true, and_true, true_and, ea, reduceCtorEq, Option.some.injEq, forall_eq', exists_eq_left', en_d hG, l2, l3, l4, e8, en_d hG l1]
    rw [ctlW, ho] at k
    exact k _ (RCr.no (by decide) h.toRCw)
theorem c_ctl {g : Gm} {ρ : Nat → Nat × Nat} {A : Ab} {S : StC} {post : Int32 → StC → Prop} {t : Nat} (h : RC g ρ A S) (ht : 40 ≤ t ∧ t ≤ 51) (hO : ∀ w, A.dr = some w → OpOK w A.op) (hcs : A.cs = []) (k : ∀ S', RCr g ρ (ctl t A) S' → post (ctl t A).1 S') : wp_Rd_compile g post S (g.2.2 (100 + t)) := by
  unfold ctl at k
  match hd : A.dr with
  | none =>
    rw [hd] at k
    have e0 := h.kDr0 hd
    refine ⟨fun _ => ⟨fun z => absurd z (by decide), fun _ => k _ (RCr.no (by decide) h.toRCw)⟩, fun y e => ?_⟩
    rw [e0] at e
    cases e
  | some w =>
    rw [hd] at k
    have hO := hO w hd
    match t, ht with
    | 40, _ => exact cc_40 h hd hO hcs k
    | 41, _ => exact cc_41 h hd hO k
    | 42, _ => exact cc_42 h hd hO k
    | 43, _ => exact cc_43 h hd hO k
    | 44, _ => exact cc_44 h hd hO k
    | 45, _ => exact cc_45 h hd hO k
    | 46, _ => exact cc_46 h hd hO k
    | 47, _ => exact cc_47 h hd hO k
    | 48, _ => exact cc_48 h hd hO k
    | 49, _ => exact cc_49 h hd hO k
    | 50, _ => exact cc_50 h hd hO k
    | 51, _ => exact cc_51 h hd hO k
    | n + 52, ht => omega
