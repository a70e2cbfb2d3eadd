theorem en_iff {g : Gm} (hG : ∀ i j, i < 52 → j < 52 → g.2.2 (100 + i) = g.2.2 (100 + j) → i = j) {t : Nat} {P : Nat → Prop} (ht : t < 52) : (∃ i, i < 52 ∧ g.2.2 (100 + t) = g.2.2 (100 + i) ∧ P i) ↔ P t := by
  constructor
  · rintro ⟨i, hi, e, hp⟩
    rw [hG t i ht hi e]
    exact hp
  · intro hp
    exact ⟨t, ht, rfl, hp⟩
theorem en_c {g : Gm} (hG : ∀ i j, i < 52 → j < 52 → g.2.2 (100 + i) = g.2.2 (100 + j) → i = j) {t c : Nat} (ht : t < 52) (hc : 100 ≤ c ∧ c < 152) : (some (g.2.2 (100 + t)) = some (g.2.2 c)) ↔ t = c - 100 := by
  have e : c = 100 + (c - 100) := by omega
  constructor
  · intro h
    have h := Option.some.inj h
    rw [e] at h
    exact hG t (c - 100) ht (by omega) h
  · intro h
    rw [h, ← e]
theorem vpT (t : Nat) (h : t < 52) : vp_in (OfNat.ofNat t) 52 = True := eq_true (n_in (a := t) h (by omega))
theorem nar0 : (narrow .boolean (.int 0) = Value.int 0) = True := eq_true rfl
theorem nar1 : (narrow .boolean (.int 1) = Value.int 1) = True := eq_true rfl
theorem c_nd0 {g : Gm} {ρ : Nat → Nat × Nat} {A : Ab} {S : StC} {post : Int32 → StC → Prop} {X : Prop} (h : RC g ρ A S) (k : X) : (0 ≤ S.1 8 → X) ∧ (¬ 0 ≤ S.1 8 → post 2 S) := by
  have hB := h.kDsB
  refine ⟨fun _ => k, fun z => absurd ?_ z⟩
  rw [h.kDs, r_le (by decide) (by omega)]
  exact Nat.zero_le _
theorem c_nd1 {g : Gm} {ρ : Nat → Nat × Nat} {A : Ab} {S : StC} {post : Int32 → StC → Prop} {X : Prop} {f : Int32 → List Int32 → Int32 × Ab} (h : RC g ρ A S) (k : ∀ S', RCr g ρ (w1 A f) S' → post (w1 A f).1 S') (k1 : ∀ c r, A.ds = c :: r → (∀ S', RCr g ρ (f c r) S' → post (f c r).1 S') → X) : (1 ≤ S.1 8 → X) ∧ (¬ 1 ≤ S.1 8 → post 2 S) := by
  have hB := h.kDsB
  rw [h.kDs, r_le (by decide) (by omega)]
  unfold w1 at k
  refine ⟨fun z => ?_, fun z => ?_⟩
  · match hd : A.ds with
    | [] => rw [hd] at z; simp at z
    | c :: r => rw [hd] at k; exact k1 c r hd k
  · match hd : A.ds with
    | [] => rw [hd] at k; exact k _ (RCr.no (by decide) h.toRCw)
    | c :: r => rw [hd] at z; simp at z
theorem c_nd2 {g : Gm} {ρ : Nat → Nat × Nat} {A : Ab} {S : StC} {post : Int32 → StC → Prop} {X : Prop} {f : Int32 → Int32 → List Int32 → Int32 × Ab} (h : RC g ρ A S) (k : ∀ S', RCr g ρ (w2 A f) S' → post (w2 A f).1 S') (k1 : ∀ c b r, A.ds = c :: b :: r → (∀ S', RCr g ρ (f c b r) S' → post (f c b r).1 S') → X) : (2 ≤ S.1 8 → X) ∧ (¬ 2 ≤ S.1 8 → post 2 S) := by
  have hB := h.kDsB
  rw [h.kDs, r_le (by decide) (by omega)]
  unfold w2 at k
  refine ⟨fun z => ?_, fun z => ?_⟩
  · match hd : A.ds with
    | [] => rw [hd] at z; simp at z
    | [_] => rw [hd] at z; simp at z
    | c :: b :: r => rw [hd] at k; exact k1 c b r hd k
  · match hd : A.ds with
    | [] => rw [hd] at k; exact k _ (RCr.no (by decide) h.toRCw)
    | [_] => rw [hd] at k; exact k _ (RCr.no (by decide) h.toRCw)
    | c :: b :: r => rw [hd] at z; simp at z; (try omega)
theorem c_nd3 {g : Gm} {ρ : Nat → Nat × Nat} {A : Ab} {S : StC} {post : Int32 → StC → Prop} {X : Prop} {f : Int32 → Int32 → Int32 → List Int32 → Int32 × Ab} (h : RC g ρ A S) (k : ∀ S', RCr g ρ (w3 A f) S' → post (w3 A f).1 S') (k1 : ∀ c b a r, A.ds = c :: b :: a :: r → (∀ S', RCr g ρ (f c b a r) S' → post (f c b a r).1 S') → X) : (3 ≤ S.1 8 → X) ∧ (¬ 3 ≤ S.1 8 → post 2 S) := by
  have hB := h.kDsB
  rw [h.kDs, r_le (by decide) (by omega)]
  unfold w3 at k
  refine ⟨fun z => ?_, fun z => ?_⟩
  · match hd : A.ds with
    | [] => rw [hd] at z; simp at z
    | [_] => rw [hd] at z; simp at z
    | [_, _] => rw [hd] at z; simp at z
    | c :: b :: a :: r => rw [hd] at k; exact k1 c b a r hd k
  · match hd : A.ds with
    | [] => rw [hd] at k; exact k _ (RCr.no (by decide) h.toRCw)
    | [_] => rw [hd] at k; exact k _ (RCr.no (by decide) h.toRCw)
    | [_, _] => rw [hd] at k; exact k _ (RCr.no (by decide) h.toRCw)
    | c :: b :: a :: r => rw [hd] at z; simp at z; (try omega)
theorem c_room {g : Gm} {ρ : Nat → Nat × Nat} {A : Ab} {S : StC} {n m : Nat} (h : RC g ρ A S) (hn : n ≤ A.ds.length) (hm : m < 100) : (24 < S.1 8 - (OfNat.ofNat n : Int32) + (OfNat.ofNat m : Int32)) ↔ 24 < A.ds.length - n + m := by
  have hB := h.kDsB
  have e : S.1 8 - (OfNat.ofNat n : Int32) + (OfNat.ofNat m : Int32) = Int32.ofNat (A.ds.length - n + m) := by
    rw [h.kDs]
    show Int32.ofNat A.ds.length - Int32.ofNat n + Int32.ofNat m = _
    rw [n_sub hn, n_add]
  rw [e, r_lt (by decide) (by omega)]
theorem cP {g : Gm} {ρ : Nat → Nat × Nat} {A : Ab} {S : StC} {n : Nat} {l : List Int32} {x2 x1 x0 : Int32} {B : Int32 → Int32 → Int32 → StC → Prop} (h : RC g ρ A S) (hl : A.ds.drop n = l) (hn : n ≤ A.ds.length) (e2 : A.ds.getD 2 0 = x2) (e1 : A.ds.getD 1 0 = x1) (e0 : A.ds.getD 0 0 = x0) (k : ∀ S1, RC g ρ (Ab.set_ds A (l)) S1 → B x2 x1 x0 S1) : wp_Nd_fromTop g (fun r2 S1 => wp_Nd_fromTop g (fun r4 S3 => wp_Nd_fromTop g (fun r6 S5 => wp_Nd_drop g (fun S10 => B r2 r4 r6 S10) S5 (Int32.ofNat n)) S3 0) S1 1) S 2 := by
  subst e2 e1 e0 hl
  exact c_from (i := 2) h (by decide) (c_from (i := 1) h (by decide) (c_from (i := 0) h (by decide) (c_drop h hn k)))
theorem c_keep {g : Gm} {ρ : Nat → Nat × Nat} {A : Ab} {S : StC} {post : StC → Prop} {v : Int32} (h : RC g ρ A S) (hp : A.pr + A.fu < A.pb) (k : ∀ S', RC g ρ (Ab.set_out (Ab.set_pr A (A.pr + 1)) (if A.pr < 40 then upd A.out A.pr v else A.out)) S' → post S') : wp_Ma_keep g post S v := by
  have hB := h.kPbB
  unfold wp_Ma_keep wq_Ma_keep_19
  rw [h.kPr, r_le (by decide) (by omega), n_cl (by omega)]
  refine ⟨fun z => k _ (RC.mk (h.kHere) (h.kHereB) (h.kMem) (?_) (?_) (h.kPbB) (fun i h40 hi => ?_) (h.kFu) (h.kHas) (h.kHasB) (h.kUp) (h.kUpB) (h.kTold) (h.kToldB) (h.kToldH) (h.kMade) (h.kMadeB) (h.kWs) (h.kRows) (h.kLay) (h.kPos) (h.kTk) (h.kTx) (h.kBt) (h.kG) (h.kDs) (h.kDsB) (h.kDsS) (h.kRs) (h.kRsB) (h.kRsS) (h.kCs) (h.kCsB) (h.kCsS) (h.kDr0) (h.kDr) (h.kOp) (h.kOpB) (h.kOpK) (h.kOpA)), fun z => ⟨n_in (by omega) (by omega), k _ (RC.mk (h.kHere) (h.kHereB) (h.kMem) (?_) (?_) (h.kPbB) (fun i h40 hi => ?_) (h.kFu) (h.kHas) (h.kHasB) (h.kUp) (h.kUpB) (h.kTold) (h.kToldB) (h.kToldH) (h.kMade) (h.kMadeB) (h.kWs) (h.kRows) (h.kLay) (h.kPos) (h.kTk) (h.kTx) (h.kBt) (h.kG) (h.kDs) (h.kDsB) (h.kDsS) (h.kRs) (h.kRsB) (h.kRsS) (h.kCs) (h.kCsB) (h.kCsS) (h.kDr0) (h.kDr) (h.kOp) (h.kOpB) (h.kOpK) (h.kOpA))⟩⟩
  · show Int32.ofNat A.pr + 1 = _
    rw [of_succ]
    rfl
  · show A.pr + 1 + A.fu ≤ A.pb
    omega
  · show S.2.1 5 i = (if A.pr < 40 then upd A.out A.pr v else A.out) i
    rw [if_neg (by omega)]
    exact h.kOut i h40 (by omega)
  · show Int32.ofNat A.pr + 1 = _
    rw [of_succ]
    rfl
  · show A.pr + 1 + A.fu ≤ A.pb
    omega
  · show upd (S.2.1 5) A.pr v i = (if A.pr < 40 then upd A.out A.pr v else A.out) i
    rw [if_pos (by omega)]
    have hi : i < A.pr + 1 := hi
    by_cases e : i = A.pr
    · rw [e, upd_at, upd_at]
    · rw [upd_ne _ _ e, upd_ne _ _ e]
      exact h.kOut i h40 (by omega)
theorem c_depth {g : Gm} {ρ : Nat → Nat × Nat} {A : Ab} {S : StC} {fr : Fr} {l : List Fr} (h : RC g ρ A S) (hc : A.cs = fr :: l) : ¬ S.1 5 = 0 ∧ vp_in (S.1 5 - 1) 16 ∧ (S.1 5 - 1).toNatClampNeg = l.length ∧ l.length < 16 ∧ S.1 5 - 1 = Int32.ofNat l.length := by
  have hB := h.kCsB
  rw [hc] at hB
  simp at hB
  have e : S.1 5 = Int32.ofNat (l.length + 1) := by rw [h.kCs, hc]; rfl
  have e1 : S.1 5 - 1 = Int32.ofNat l.length := by
    rw [e]
    exact n_sub (a := l.length + 1) (b := 1) (by omega)
  rw [e1, n_cl (by omega)]
  refine ⟨?_, n_in (by omega) (by omega), rfl, by omega, rfl⟩
  rw [e, l_eq (by omega) (by decide)]
  omega
theorem c_openLoops {g : Gm} {ρ : Nat → Nat × Nat} {A : Ab} {S : StC} {post : Int32 → StC → Prop} (h : RC g ρ A S) (k : post (Int32.ofNat (match A.cs with | [] => 0 | fr :: _ => fr.lp.length)) S) : wp_Ma_openLoops g post S := by
  match hc : A.cs with
  | [] =>
    have e : S.1 5 = 0 := by rw [h.kCs, hc]; rfl
    rw [hc] at k
    exact ⟨fun _ => k, fun z => absurd e z⟩
  | fr :: l =>
    obtain ⟨d1, d2, d3, d4, -⟩ := c_depth h hc
    have hs := h.kCsS
    rw [hc] at hs k
    obtain ⟨⟨a, fl, fc, e0, ⟨b, x, y, e1, p1, p2, p3⟩, q⟩, -⟩ := hs
    refine ⟨fun z => absurd z d1, fun _ => ⟨d2, b, ?_, _, _, p1.1, p1.2.2, rfl, k⟩⟩
    rw [d3]
    exact e1
theorem c_loopCount {g : Gm} {ρ : Nat → Nat × Nat} {A : Ab} {S : StC} {post : Int32 → StC → Prop} {fr : Fr} {l : List Fr} {i : Nat} {p : Int32 × Int32} (h : RC g ρ A S) (hc : A.cs = fr :: l) (hp : fr.lp[i]? = some p) (k : post p.1 S) : wp_Ma_loopCount g post S (Int32.ofNat i) := by
  obtain ⟨d1, d2, d3, d4, -⟩ := c_depth h hc
  have hs := h.kCsS
  rw [hc] at hs
  obtain ⟨⟨a, fl, fc, e0, ⟨b, x, y, e1, p1, p2, p3⟩, s1, s2, hl⟩, -⟩ := hs
  have hi := get_lt hp
  have eg : (fr.lp.map (fun p => p.1))[i]? = some p.1 := by rw [List.getElem?_map, hp]; rfl
  have hg := s1.get eg
  rw [List.length_map] at hg
  have ex : Int32.ofNat fr.lp.length - 1 - Int32.ofNat i = Int32.ofNat (fr.lp.length - 1 - i) := by
    rw [show (1 : Int32) = Int32.ofNat 1 from rfl, n_sub (by omega), n_sub (by omega)]
  refine ⟨fun z => absurd z d1, fun _ => ⟨d2, b, by rw [d3]; exact e1, _, p1.1, p1.2.2, ?_⟩⟩
  unfold wp_Ca_loopCount wq_Ca_loopCount_28 wq_Ca_loopCount_29 wq_Ma_loopCount_26
  rw [l_lt (by omega) (by decide)]
  refine ⟨fun z => by omega, fun _ => ⟨_, _, p1.1, p1.2.2, rfl, fun z => ?_, fun _ => ⟨_, _, p1.1, p1.2.2, rfl, _, _, p1.1, p1.2.2, rfl, 4, fc, p3.1, p3.2.2, ?_, ?_⟩⟩⟩
  · rw [n_le (by omega) (by omega)] at z
    omega
  · rw [ex]
    exact n_in (by omega) (by omega)
  · rw [ex, n_cl (by omega), hg]
    exact k
theorem ds_self (A : Ab) : ((Ab.set_ds A (A.ds)) : Ab) = A := by
  funext i
  match i with
  | 0 => rfl
  | n + 1 => rfl
theorem getB_ds (A : Ab) (r : List Int32) (n : Nat) : getB (Ab.set_ds A (r)) n = (Ab.set_ds (getB A n) (r)) := by
  have e : bufO (Ab.set_ds A (r)) n = bufO A n := rfl
  have e2 : ((Ab.set_ds A (r)) : Ab).has = A.has := rfl
  unfold getB
  rw [e, e2]
  split
  · rfl
  · funext i
    match i with
    | 0 => rfl
    | 1 => rfl
    | 2 => rfl
    | 3 => rfl
    | 4 => rfl
    | 5 => rfl
    | 6 => rfl
    | 7 => rfl
    | 8 => rfl
    | 9 => rfl
    | 10 => rfl
    | 11 => rfl
    | 12 => rfl
    | 13 => rfl
    | 14 => rfl
    | 15 => rfl
    | 16 => rfl
    | 17 => rfl
    | 18 => rfl
    | 19 => rfl
    | 20 => rfl
    | n + 21 => rfl
theorem cw_0 {g : Gm} {ρ : Nat → Nat × Nat} {A : Ab} {S : StC} {post : Int32 → StC → Prop} (h : RC g ρ A S) (k : ∀ S', RCr g ρ (do0 A) S' → post (do0 A).1 S') : wp_Ma_lack g (fun r S1 => ((r = 0 → wp_Ma_perform g (fun S2 => post r S2) S1 (g.2.2 (100 + 0))) ∧ (¬ r = 0 → post r S1))) S (g.2.2 (100 + 0)) := by
  have hG := h.kG
  have hB := h.kDsB
  simp (config := {decide := true}) only [en_iff hG, en_c hG, wp_En_ordinal, wq_Ma_lack_236, wq_Ma_lack_216, wq_Ma_lack_212, wq_Ma_lack_194, wq_Ma_lack_176, wq_Ma_lack_156, wq_Ma_lack_136, wq_Ma_lack_123, wq_Ma_lack_17, wp_Ma_lack, wq_Ma_hasRoom_97, wq_Ma_hasRoom_69, wp_Ma_hasRoom, (show takE.getD 0 0 = (2 : Int32) from rfl), (show putE.getD 0 0 = (1 : Int32) from rfl), (show ordE.getD 0 0 = (0 : Int32) from rfl), (show numE.getD 0 0 = (0 : Int32) from rfl), (show Int32.toNatClampNeg 0 = 0 from rfl), (show swE.getD 0 0 = (25 : Int32) from rfl), (vpT 0 (by decide)), nar0, nar1, true_implies, false_implies, not_true_eq_false, not_false_eq_true, and_true, true_and]
  refine c_nd2 h k (fun c b r hd k => ?_)
  have hL : A.ds.length = r.length + 2 := by rw [hd]; rfl
  have e0 : A.ds.getD 0 0 = c := by rw [hd]; rfl
  have e1 : A.ds.getD 1 0 = b := by rw [hd]; rfl
  refine c_from (i := 0) h (by decide) ?_
  (try rw [e0])
  rw [c_room (n := 2) (m := 1) h (by omega) (by decide)]
  refine ⟨fun z => absurd z (by omega), fun _ => ?_⟩
  simp (config := {decide := true}) only [en_iff hG, en_c hG, wp_En_ordinal, wq_Ma_perform_311, wp_Ma_perform, wq_Bi_isCalculating_18, wp_Bi_isCalculating, wq_Ma_calculate_233, wq_Ma_calculate_220, wq_Ma_calculate_206, wq_Ma_calculate_183, wq_Ma_calculate_171, wp_Ma_calculate, wq_Ma_flag_9, wp_Ma_flag, wq_Ma_arrange_130, wp_Ma_arrange, wq_Ma_performOnMemory_232, wp_Ma_performOnMemory, (show takE.getD 0 0 = (2 : Int32) from rfl), (show putE.getD 0 0 = (1 : Int32) from rfl), (show ordE.getD 0 0 = (0 : Int32) from rfl), (show numE.getD 0 0 = (0 : Int32) from rfl), (show Int32.toNatClampNeg 0 = 0 from rfl), (show swE.getD 0 0 = (25 : Int32) from rfl), (vpT 0 (by decide)), nar0, nar1, true_implies, false_implies, not_true_eq_false, not_false_eq_true, and_true, true_and]
  refine cP (n := 2) (l := r) h (by rw [hd]; rfl) (by omega) rfl e1 e0 (fun S1 h1 => ?_)
  exact c_push h1 (show r.length < 24 by omega) (fun S2 h2 => k _ (RCr.ok h2))
theorem cw_1 {g : Gm} {ρ : Nat → Nat × Nat} {A : Ab} {S : StC} {post : Int32 → StC → Prop} (h : RC g ρ A S) (k : ∀ S', RCr g ρ (do1 A) S' → post (do1 A).1 S') : wp_Ma_lack g (fun r S1 => ((r = 0 → wp_Ma_perform g (fun S2 => post r S2) S1 (g.2.2 (100 + 1))) ∧ (¬ r = 0 → post r S1))) S (g.2.2 (100 + 1)) := by
  have hG := h.kG
  have hB := h.kDsB
  simp (config := {decide := true}) only [en_iff hG, en_c hG, wp_En_ordinal, wq_Ma_lack_236, wq_Ma_lack_216, wq_Ma_lack_212, wq_Ma_lack_194, wq_Ma_lack_176, wq_Ma_lack_156, wq_Ma_lack_136, wq_Ma_lack_123, wq_Ma_lack_17, wp_Ma_lack, wq_Ma_hasRoom_97, wq_Ma_hasRoom_69, wp_Ma_hasRoom, (show takE.getD 1 0 = (2 : Int32) from rfl), (show putE.getD 1 0 = (1 : Int32) from rfl), (show ordE.getD 1 0 = (1 : Int32) from rfl), (show numE.getD 1 0 = (1 : Int32) from rfl), (show Int32.toNatClampNeg 1 = 1 from rfl), (show swE.getD 1 0 = (26 : Int32) from rfl), (vpT 1 (by decide)), nar0, nar1, true_implies, false_implies, not_true_eq_false, not_false_eq_true, and_true, true_and]
  refine c_nd2 h k (fun c b r hd k => ?_)
  have hL : A.ds.length = r.length + 2 := by rw [hd]; rfl
  have e0 : A.ds.getD 0 0 = c := by rw [hd]; rfl
  have e1 : A.ds.getD 1 0 = b := by rw [hd]; rfl
  refine c_from (i := 0) h (by decide) ?_
  (try rw [e0])
  rw [c_room (n := 2) (m := 1) h (by omega) (by decide)]
  refine ⟨fun z => absurd z (by omega), fun _ => ?_⟩
  simp (config := {decide := true}) only [en_iff hG, en_c hG, wp_En_ordinal, wq_Ma_perform_311, wp_Ma_perform, wq_Bi_isCalculating_18, wp_Bi_isCalculating, wq_Ma_calculate_233, wq_Ma_calculate_220, wq_Ma_calculate_206, wq_Ma_calculate_183, wq_Ma_calculate_171, wp_Ma_calculate, wq_Ma_flag_9, wp_Ma_flag, wq_Ma_arrange_130, wp_Ma_arrange, wq_Ma_performOnMemory_232, wp_Ma_performOnMemory, (show takE.getD 1 0 = (2 : Int32) from rfl), (show putE.getD 1 0 = (1 : Int32) from rfl), (show ordE.getD 1 0 = (1 : Int32) from rfl), (show numE.getD 1 0 = (1 : Int32) from rfl), (show Int32.toNatClampNeg 1 = 1 from rfl), (show swE.getD 1 0 = (26 : Int32) from rfl), (vpT 1 (by decide)), nar0, nar1, true_implies, false_implies, not_true_eq_false, not_false_eq_true, and_true, true_and]
  refine cP (n := 2) (l := r) h (by rw [hd]; rfl) (by omega) rfl e1 e0 (fun S1 h1 => ?_)
  exact c_push h1 (show r.length < 24 by omega) (fun S2 h2 => k _ (RCr.ok h2))
theorem cw_2 {g : Gm} {ρ : Nat → Nat × Nat} {A : Ab} {S : StC} {post : Int32 → StC → Prop} (h : RC g ρ A S) (k : ∀ S', RCr g ρ (do2 A) S' → post (do2 A).1 S') : wp_Ma_lack g (fun r S1 => ((r = 0 → wp_Ma_perform g (fun S2 => post r S2) S1 (g.2.2 (100 + 2))) ∧ (¬ r = 0 → post r S1))) S (g.2.2 (100 + 2)) := by
  have hG := h.kG
  have hB := h.kDsB
  simp (config := {decide := true}) only [en_iff hG, en_c hG, wp_En_ordinal, wq_Ma_lack_236, wq_Ma_lack_216, wq_Ma_lack_212, wq_Ma_lack_194, wq_Ma_lack_176, wq_Ma_lack_156, wq_Ma_lack_136, wq_Ma_lack_123, wq_Ma_lack_17, wp_Ma_lack, wq_Ma_hasRoom_97, wq_Ma_hasRoom_69, wp_Ma_hasRoom, (show takE.getD 2 0 = (2 : Int32) from rfl), (show putE.getD 2 0 = (1 : Int32) from rfl), (show ordE.getD 2 0 = (2 : Int32) from rfl), (show numE.getD 2 0 = (2 : Int32) from rfl), (show Int32.toNatClampNeg 2 = 2 from rfl), (show swE.getD 2 0 = (27 : Int32) from rfl), (vpT 2 (by decide)), nar0, nar1, true_implies, false_implies, not_true_eq_false, not_false_eq_true, and_true, true_and]
  refine c_nd2 h k (fun c b r hd k => ?_)
  have hL : A.ds.length = r.length + 2 := by rw [hd]; rfl
  have e0 : A.ds.getD 0 0 = c := by rw [hd]; rfl
  have e1 : A.ds.getD 1 0 = b := by rw [hd]; rfl
  refine c_from (i := 0) h (by decide) ?_
  (try rw [e0])
  rw [c_room (n := 2) (m := 1) h (by omega) (by decide)]
  refine ⟨fun z => absurd z (by omega), fun _ => ?_⟩
  simp (config := {decide := true}) only [en_iff hG, en_c hG, wp_En_ordinal, wq_Ma_perform_311, wp_Ma_perform, wq_Bi_isCalculating_18, wp_Bi_isCalculating, wq_Ma_calculate_233, wq_Ma_calculate_220, wq_Ma_calculate_206, wq_Ma_calculate_183, wq_Ma_calculate_171, wp_Ma_calculate, wq_Ma_flag_9, wp_Ma_flag, wq_Ma_arrange_130, wp_Ma_arrange, wq_Ma_performOnMemory_232, wp_Ma_performOnMemory, (show takE.getD 2 0 = (2 : Int32) from rfl), (show putE.getD 2 0 = (1 : Int32) from rfl), (show ordE.getD 2 0 = (2 : Int32) from rfl), (show numE.getD 2 0 = (2 : Int32) from rfl), (show Int32.toNatClampNeg 2 = 2 from rfl), (show swE.getD 2 0 = (27 : Int32) from rfl), (vpT 2 (by decide)), nar0, nar1, true_implies, false_implies, not_true_eq_false, not_false_eq_true, and_true, true_and]
  refine cP (n := 2) (l := r) h (by rw [hd]; rfl) (by omega) rfl e1 e0 (fun S1 h1 => ?_)
  exact c_push h1 (show r.length < 24 by omega) (fun S2 h2 => k _ (RCr.ok h2))
theorem cw_5 {g : Gm} {ρ : Nat → Nat × Nat} {A : Ab} {S : StC} {post : Int32 → StC → Prop} (h : RC g ρ A S) (k : ∀ S', RCr g ρ (do5 A) S' → post (do5 A).1 S') : wp_Ma_lack g (fun r S1 => ((r = 0 → wp_Ma_perform g (fun S2 => post r S2) S1 (g.2.2 (100 + 5))) ∧ (¬ r = 0 → post r S1))) S (g.2.2 (100 + 5)) := by
  have hG := h.kG
  have hB := h.kDsB
  simp (config := {decide := true}) only [en_iff hG, en_c hG, wp_En_ordinal, wq_Ma_lack_236, wq_Ma_lack_216, wq_Ma_lack_212, wq_Ma_lack_194, wq_Ma_lack_176, wq_Ma_lack_156, wq_Ma_lack_136, wq_Ma_lack_123, wq_Ma_lack_17, wp_Ma_lack, wq_Ma_hasRoom_97, wq_Ma_hasRoom_69, wp_Ma_hasRoom, (show takE.getD 5 0 = (2 : Int32) from rfl), (show putE.getD 5 0 = (1 : Int32) from rfl), (show ordE.getD 5 0 = (5 : Int32) from rfl), (show numE.getD 5 0 = (5 : Int32) from rfl), (show Int32.toNatClampNeg 5 = 5 from rfl), (show swE.getD 5 0 = (28 : Int32) from rfl), (vpT 5 (by decide)), nar0, nar1, true_implies, false_implies, not_true_eq_false, not_false_eq_true, and_true, true_and]
  refine c_nd2 h k (fun c b r hd k => ?_)
  have hL : A.ds.length = r.length + 2 := by rw [hd]; rfl
  have e0 : A.ds.getD 0 0 = c := by rw [hd]; rfl
  have e1 : A.ds.getD 1 0 = b := by rw [hd]; rfl
  refine c_from (i := 0) h (by decide) ?_
  (try rw [e0])
  rw [c_room (n := 2) (m := 1) h (by omega) (by decide)]
  refine ⟨fun z => absurd z (by omega), fun _ => ?_⟩
  simp (config := {decide := true}) only [en_iff hG, en_c hG, wp_En_ordinal, wq_Ma_perform_311, wp_Ma_perform, wq_Bi_isCalculating_18, wp_Bi_isCalculating, wq_Ma_calculate_233, wq_Ma_calculate_220, wq_Ma_calculate_206, wq_Ma_calculate_183, wq_Ma_calculate_171, wp_Ma_calculate, wq_Ma_flag_9, wp_Ma_flag, wq_Ma_arrange_130, wp_Ma_arrange, wq_Ma_performOnMemory_232, wp_Ma_performOnMemory, (show takE.getD 5 0 = (2 : Int32) from rfl), (show putE.getD 5 0 = (1 : Int32) from rfl), (show ordE.getD 5 0 = (5 : Int32) from rfl), (show numE.getD 5 0 = (5 : Int32) from rfl), (show Int32.toNatClampNeg 5 = 5 from rfl), (show swE.getD 5 0 = (28 : Int32) from rfl), (vpT 5 (by decide)), nar0, nar1, true_implies, false_implies, not_true_eq_false, not_false_eq_true, and_true, true_and]
  refine cP (n := 2) (l := r) h (by rw [hd]; rfl) (by omega) rfl e1 e0 (fun S1 h1 => ?_)
  exact c_push h1 (show r.length < 24 by omega) (fun S2 h2 => k _ (RCr.ok h2))
theorem cw_6 {g : Gm} {ρ : Nat → Nat × Nat} {A : Ab} {S : StC} {post : Int32 → StC → Prop} (h : RC g ρ A S) (k : ∀ S', RCr g ρ (do6 A) S' → post (do6 A).1 S') : wp_Ma_lack g (fun r S1 => ((r = 0 → wp_Ma_perform g (fun S2 => post r S2) S1 (g.2.2 (100 + 6))) ∧ (¬ r = 0 → post r S1))) S (g.2.2 (100 + 6)) := by
  have hG := h.kG
  have hB := h.kDsB
  simp (config := {decide := true}) only [en_iff hG, en_c hG, wp_En_ordinal, wq_Ma_lack_236, wq_Ma_lack_216, wq_Ma_lack_212, wq_Ma_lack_194, wq_Ma_lack_176, wq_Ma_lack_156, wq_Ma_lack_136, wq_Ma_lack_123, wq_Ma_lack_17, wp_Ma_lack, wq_Ma_hasRoom_97, wq_Ma_hasRoom_69, wp_Ma_hasRoom, (show takE.getD 6 0 = (2 : Int32) from rfl), (show putE.getD 6 0 = (1 : Int32) from rfl), (show ordE.getD 6 0 = (6 : Int32) from rfl), (show numE.getD 6 0 = (6 : Int32) from rfl), (show Int32.toNatClampNeg 6 = 6 from rfl), (show swE.getD 6 0 = (29 : Int32) from rfl), (vpT 6 (by decide)), nar0, nar1, true_implies, false_implies, not_true_eq_false, not_false_eq_true, and_true, true_and]
  refine c_nd2 h k (fun c b r hd k => ?_)
  have hL : A.ds.length = r.length + 2 := by rw [hd]; rfl
  have e0 : A.ds.getD 0 0 = c := by rw [hd]; rfl
  have e1 : A.ds.getD 1 0 = b := by rw [hd]; rfl
  refine c_from (i := 0) h (by decide) ?_
  (try rw [e0])
  rw [c_room (n := 2) (m := 1) h (by omega) (by decide)]
  refine ⟨fun z => absurd z (by omega), fun _ => ?_⟩
  simp (config := {decide := true}) only [en_iff hG, en_c hG, wp_En_ordinal, wq_Ma_perform_311, wp_Ma_perform, wq_Bi_isCalculating_18, wp_Bi_isCalculating, wq_Ma_calculate_233, wq_Ma_calculate_220, wq_Ma_calculate_206, wq_Ma_calculate_183, wq_Ma_calculate_171, wp_Ma_calculate, wq_Ma_flag_9, wp_Ma_flag, wq_Ma_arrange_130, wp_Ma_arrange, wq_Ma_performOnMemory_232, wp_Ma_performOnMemory, (show takE.getD 6 0 = (2 : Int32) from rfl), (show putE.getD 6 0 = (1 : Int32) from rfl), (show ordE.getD 6 0 = (6 : Int32) from rfl), (show numE.getD 6 0 = (6 : Int32) from rfl), (show Int32.toNatClampNeg 6 = 6 from rfl), (show swE.getD 6 0 = (29 : Int32) from rfl), (vpT 6 (by decide)), nar0, nar1, true_implies, false_implies, not_true_eq_false, not_false_eq_true, and_true, true_and]
  refine cP (n := 2) (l := r) h (by rw [hd]; rfl) (by omega) rfl e1 e0 (fun S1 h1 => ?_)
  exact c_push h1 (show r.length < 24 by omega) (fun S2 h2 => k _ (RCr.ok h2))
theorem cw_7 {g : Gm} {ρ : Nat → Nat × Nat} {A : Ab} {S : StC} {post : Int32 → StC → Prop} (h : RC g ρ A S) (k : ∀ S', RCr g ρ (do7 A) S' → post (do7 A).1 S') : wp_Ma_lack g (fun r S1 => ((r = 0 → wp_Ma_perform g (fun S2 => post r S2) S1 (g.2.2 (100 + 7))) ∧ (¬ r = 0 → post r S1))) S (g.2.2 (100 + 7)) := by
  have hG := h.kG
  have hB := h.kDsB
  simp (config := {decide := true}) only [en_iff hG, en_c hG, wp_En_ordinal, wq_Ma_lack_236, wq_Ma_lack_216, wq_Ma_lack_212, wq_Ma_lack_194, wq_Ma_lack_176, wq_Ma_lack_156, wq_Ma_lack_136, wq_Ma_lack_123, wq_Ma_lack_17, wp_Ma_lack, wq_Ma_hasRoom_97, wq_Ma_hasRoom_69, wp_Ma_hasRoom, (show takE.getD 7 0 = (2 : Int32) from rfl), (show putE.getD 7 0 = (1 : Int32) from rfl), (show ordE.getD 7 0 = (7 : Int32) from rfl), (show numE.getD 7 0 = (7 : Int32) from rfl), (show Int32.toNatClampNeg 7 = 7 from rfl), (show swE.getD 7 0 = (30 : Int32) from rfl), (vpT 7 (by decide)), nar0, nar1, true_implies, false_implies, not_true_eq_false, not_false_eq_true, and_true, true_and]
  refine c_nd2 h k (fun c b r hd k => ?_)
  have hL : A.ds.length = r.length + 2 := by rw [hd]; rfl
  have e0 : A.ds.getD 0 0 = c := by rw [hd]; rfl
  have e1 : A.ds.getD 1 0 = b := by rw [hd]; rfl
  refine c_from (i := 0) h (by decide) ?_
  (try rw [e0])
  rw [c_room (n := 2) (m := 1) h (by omega) (by decide)]
  refine ⟨fun z => absurd z (by omega), fun _ => ?_⟩
  simp (config := {decide := true}) only [en_iff hG, en_c hG, wp_En_ordinal, wq_Ma_perform_311, wp_Ma_perform, wq_Bi_isCalculating_18, wp_Bi_isCalculating, wq_Ma_calculate_233, wq_Ma_calculate_220, wq_Ma_calculate_206, wq_Ma_calculate_183, wq_Ma_calculate_171, wp_Ma_calculate, wq_Ma_flag_9, wp_Ma_flag, wq_Ma_arrange_130, wp_Ma_arrange, wq_Ma_performOnMemory_232, wp_Ma_performOnMemory, (show takE.getD 7 0 = (2 : Int32) from rfl), (show putE.getD 7 0 = (1 : Int32) from rfl), (show ordE.getD 7 0 = (7 : Int32) from rfl), (show numE.getD 7 0 = (7 : Int32) from rfl), (show Int32.toNatClampNeg 7 = 7 from rfl), (show swE.getD 7 0 = (30 : Int32) from rfl), (vpT 7 (by decide)), nar0, nar1, true_implies, false_implies, not_true_eq_false, not_false_eq_true, and_true, true_and]
  refine cP (n := 2) (l := r) h (by rw [hd]; rfl) (by omega) rfl e1 e0 (fun S1 h1 => ?_)
  exact c_push h1 (show r.length < 24 by omega) (fun S2 h2 => k _ (RCr.ok h2))
theorem cw_11 {g : Gm} {ρ : Nat → Nat × Nat} {A : Ab} {S : StC} {post : Int32 → StC → Prop} (h : RC g ρ A S) (k : ∀ S', RCr g ρ (do11 A) S' → post (do11 A).1 S') : wp_Ma_lack g (fun r S1 => ((r = 0 → wp_Ma_perform g (fun S2 => post r S2) S1 (g.2.2 (100 + 11))) ∧ (¬ r = 0 → post r S1))) S (g.2.2 (100 + 11)) := by
  have hG := h.kG
  have hB := h.kDsB
  simp (config := {decide := true}) only [en_iff hG, en_c hG, wp_En_ordinal, wq_Ma_lack_236, wq_Ma_lack_216, wq_Ma_lack_212, wq_Ma_lack_194, wq_Ma_lack_176, wq_Ma_lack_156, wq_Ma_lack_136, wq_Ma_lack_123, wq_Ma_lack_17, wp_Ma_lack, wq_Ma_hasRoom_97, wq_Ma_hasRoom_69, wp_Ma_hasRoom, (show takE.getD 11 0 = (1 : Int32) from rfl), (show putE.getD 11 0 = (1 : Int32) from rfl), (show ordE.getD 11 0 = (11 : Int32) from rfl), (show numE.getD 11 0 = (11 : Int32) from rfl), (show Int32.toNatClampNeg 11 = 11 from rfl), (show swE.getD 11 0 = (0 : Int32) from rfl), (vpT 11 (by decide)), nar0, nar1, true_implies, false_implies, not_true_eq_false, not_false_eq_true, and_true, true_and]
  refine c_nd1 h k (fun c r hd k => ?_)
  have hL : A.ds.length = r.length + 1 := by rw [hd]; rfl
  have e0 : A.ds.getD 0 0 = c := by rw [hd]; rfl
  refine c_from (i := 0) h (by decide) ?_
  (try rw [e0])
  rw [c_room (n := 1) (m := 1) h (by omega) (by decide)]
  refine ⟨fun z => absurd z (by omega), fun _ => ?_⟩
  simp (config := {decide := true}) only [en_iff hG, en_c hG, wp_En_ordinal, wq_Ma_perform_311, wp_Ma_perform, wq_Bi_isCalculating_18, wp_Bi_isCalculating, wq_Ma_calculate_233, wq_Ma_calculate_220, wq_Ma_calculate_206, wq_Ma_calculate_183, wq_Ma_calculate_171, wp_Ma_calculate, wq_Ma_flag_9, wp_Ma_flag, wq_Ma_arrange_130, wp_Ma_arrange, wq_Ma_performOnMemory_232, wp_Ma_performOnMemory, (show takE.getD 11 0 = (1 : Int32) from rfl), (show putE.getD 11 0 = (1 : Int32) from rfl), (show ordE.getD 11 0 = (11 : Int32) from rfl), (show numE.getD 11 0 = (11 : Int32) from rfl), (show Int32.toNatClampNeg 11 = 11 from rfl), (show swE.getD 11 0 = (0 : Int32) from rfl), (vpT 11 (by decide)), nar0, nar1, true_implies, false_implies, not_true_eq_false, not_false_eq_true, and_true, true_and]
  refine cP (n := 1) (l := r) h (by rw [hd]; rfl) (by omega) rfl rfl e0 (fun S1 h1 => ?_)
  exact c_push h1 (show r.length < 24 by omega) (fun S2 h2 => k _ (RCr.ok h2))
theorem cw_3 {g : Gm} {ρ : Nat → Nat × Nat} {A : Ab} {S : StC} {post : Int32 → StC → Prop} (h : RC g ρ A S) (k : ∀ S', RCr g ρ (do3 A) S' → post (do3 A).1 S') : wp_Ma_lack g (fun r S1 => ((r = 0 → wp_Ma_perform g (fun S2 => post r S2) S1 (g.2.2 (100 + 3))) ∧ (¬ r = 0 → post r S1))) S (g.2.2 (100 + 3)) := by
  have hG := h.kG
  have hB := h.kDsB
  simp (config := {decide := true}) only [en_iff hG, en_c hG, wp_En_ordinal, wq_Ma_lack_236, wq_Ma_lack_216, wq_Ma_lack_212, wq_Ma_lack_194, wq_Ma_lack_176, wq_Ma_lack_156, wq_Ma_lack_136, wq_Ma_lack_123, wq_Ma_lack_17, wp_Ma_lack, wq_Ma_hasRoom_97, wq_Ma_hasRoom_69, wp_Ma_hasRoom, (show takE.getD 3 0 = (2 : Int32) from rfl), (show putE.getD 3 0 = (1 : Int32) from rfl), (show ordE.getD 3 0 = (3 : Int32) from rfl), (show numE.getD 3 0 = (3 : Int32) from rfl), (show Int32.toNatClampNeg 3 = 3 from rfl), (show swE.getD 3 0 = (3 : Int32) from rfl), (vpT 3 (by decide)), nar0, nar1, true_implies, false_implies, not_true_eq_false, not_false_eq_true, and_true, true_and]
  refine c_nd2 h k (fun c b r hd k => ?_)
  have hL : A.ds.length = r.length + 2 := by rw [hd]; rfl
  have e0 : A.ds.getD 0 0 = c := by rw [hd]; rfl
  have e1 : A.ds.getD 1 0 = b := by rw [hd]; rfl
  refine c_from (i := 0) h (by decide) ?_
  (try rw [e0])
  refine ⟨fun z => ?_, fun z => ?_⟩
  · rw [if_pos z] at k
    exact k _ (RCr.no (by decide) h.toRCw)
  · rw [if_neg z] at k
    rw [c_room (n := 2) (m := 1) h (by omega) (by decide)]
    refine ⟨fun y => absurd y (by omega), fun _ => ?_⟩
    simp (config := {decide := true}) only [en_iff hG, en_c hG, wp_En_ordinal, wq_Ma_perform_311, wp_Ma_perform, wq_Bi_isCalculating_18, wp_Bi_isCalculating, wq_Ma_calculate_233, wq_Ma_calculate_220, wq_Ma_calculate_206, wq_Ma_calculate_183, wq_Ma_calculate_171, wp_Ma_calculate, wq_Ma_flag_9, wp_Ma_flag, wq_Ma_arrange_130, wp_Ma_arrange, wq_Ma_performOnMemory_232, wp_Ma_performOnMemory, (show takE.getD 3 0 = (2 : Int32) from rfl), (show putE.getD 3 0 = (1 : Int32) from rfl), (show ordE.getD 3 0 = (3 : Int32) from rfl), (show numE.getD 3 0 = (3 : Int32) from rfl), (show Int32.toNatClampNeg 3 = 3 from rfl), (show swE.getD 3 0 = (3 : Int32) from rfl), (vpT 3 (by decide)), nar0, nar1, true_implies, false_implies, not_true_eq_false, not_false_eq_true, and_true, true_and]
    refine cP (n := 2) (l := r) h (by rw [hd]; rfl) (by omega) rfl e1 e0 (fun S1 h1 => ?_)
    exact ⟨fun y => absurd y z, fun y => ⟨y, c_push h1 (show r.length < 24 by omega) (fun S2 h2 => k _ (RCr.ok h2))⟩⟩
theorem cw_4 {g : Gm} {ρ : Nat → Nat × Nat} {A : Ab} {S : StC} {post : Int32 → StC → Prop} (h : RC g ρ A S) (k : ∀ S', RCr g ρ (do4 A) S' → post (do4 A).1 S') : wp_Ma_lack g (fun r S1 => ((r = 0 → wp_Ma_perform g (fun S2 => post r S2) S1 (g.2.2 (100 + 4))) ∧ (¬ r = 0 → post r S1))) S (g.2.2 (100 + 4)) := by
  have hG := h.kG
  have hB := h.kDsB
  simp (config := {decide := true}) only [en_iff hG, en_c hG, wp_En_ordinal, wq_Ma_lack_236, wq_Ma_lack_216, wq_Ma_lack_212, wq_Ma_lack_194, wq_Ma_lack_176, wq_Ma_lack_156, wq_Ma_lack_136, wq_Ma_lack_123, wq_Ma_lack_17, wp_Ma_lack, wq_Ma_hasRoom_97, wq_Ma_hasRoom_69, wp_Ma_hasRoom, (show takE.getD 4 0 = (2 : Int32) from rfl), (show putE.getD 4 0 = (1 : Int32) from rfl), (show ordE.getD 4 0 = (4 : Int32) from rfl), (show numE.getD 4 0 = (4 : Int32) from rfl), (show Int32.toNatClampNeg 4 = 4 from rfl), (show swE.getD 4 0 = (4 : Int32) from rfl), (vpT 4 (by decide)), nar0, nar1, true_implies, false_implies, not_true_eq_false, not_false_eq_true, and_true, true_and]
  refine c_nd2 h k (fun c b r hd k => ?_)
  have hL : A.ds.length = r.length + 2 := by rw [hd]; rfl
  have e0 : A.ds.getD 0 0 = c := by rw [hd]; rfl
  have e1 : A.ds.getD 1 0 = b := by rw [hd]; rfl
  refine c_from (i := 0) h (by decide) ?_
  (try rw [e0])
  refine ⟨fun z => ?_, fun z => ?_⟩
  · rw [if_pos z] at k
    exact k _ (RCr.no (by decide) h.toRCw)
  · rw [if_neg z] at k
    rw [c_room (n := 2) (m := 1) h (by omega) (by decide)]
    refine ⟨fun y => absurd y (by omega), fun _ => ?_⟩
    simp (config := {decide := true}) only [en_iff hG, en_c hG, wp_En_ordinal, wq_Ma_perform_311, wp_Ma_perform, wq_Bi_isCalculating_18, wp_Bi_isCalculating, wq_Ma_calculate_233, wq_Ma_calculate_220, wq_Ma_calculate_206, wq_Ma_calculate_183, wq_Ma_calculate_171, wp_Ma_calculate, wq_Ma_flag_9, wp_Ma_flag, wq_Ma_arrange_130, wp_Ma_arrange, wq_Ma_performOnMemory_232, wp_Ma_performOnMemory, (show takE.getD 4 0 = (2 : Int32) from rfl), (show putE.getD 4 0 = (1 : Int32) from rfl), (show ordE.getD 4 0 = (4 : Int32) from rfl), (show numE.getD 4 0 = (4 : Int32) from rfl), (show Int32.toNatClampNeg 4 = 4 from rfl), (show swE.getD 4 0 = (4 : Int32) from rfl), (vpT 4 (by decide)), nar0, nar1, true_implies, false_implies, not_true_eq_false, not_false_eq_true, and_true, true_and]
    refine cP (n := 2) (l := r) h (by rw [hd]; rfl) (by omega) rfl e1 e0 (fun S1 h1 => ?_)
    exact ⟨fun y => absurd y z, fun y => ⟨y, c_push h1 (show r.length < 24 by omega) (fun S2 h2 => k _ (RCr.ok h2))⟩⟩
theorem cw_8 {g : Gm} {ρ : Nat → Nat × Nat} {A : Ab} {S : StC} {post : Int32 → StC → Prop} (h : RC g ρ A S) (k : ∀ S', RCr g ρ (do8 A) S' → post (do8 A).1 S') : wp_Ma_lack g (fun r S1 => ((r = 0 → wp_Ma_perform g (fun S2 => post r S2) S1 (g.2.2 (100 + 8))) ∧ (¬ r = 0 → post r S1))) S (g.2.2 (100 + 8)) := by
  have hG := h.kG
  have hB := h.kDsB
  simp (config := {decide := true}) only [en_iff hG, en_c hG, wp_En_ordinal, wq_Ma_lack_236, wq_Ma_lack_216, wq_Ma_lack_212, wq_Ma_lack_194, wq_Ma_lack_176, wq_Ma_lack_156, wq_Ma_lack_136, wq_Ma_lack_123, wq_Ma_lack_17, wp_Ma_lack, wq_Ma_hasRoom_97, wq_Ma_hasRoom_69, wp_Ma_hasRoom, (show takE.getD 8 0 = (2 : Int32) from rfl), (show putE.getD 8 0 = (1 : Int32) from rfl), (show ordE.getD 8 0 = (8 : Int32) from rfl), (show numE.getD 8 0 = (8 : Int32) from rfl), (show Int32.toNatClampNeg 8 = 8 from rfl), (show swE.getD 8 0 = (31 : Int32) from rfl), (vpT 8 (by decide)), nar0, nar1, true_implies, false_implies, not_true_eq_false, not_false_eq_true, and_true, true_and]
  refine c_nd2 h k (fun c b r hd k => ?_)
  have hL : A.ds.length = r.length + 2 := by rw [hd]; rfl
  have e0 : A.ds.getD 0 0 = c := by rw [hd]; rfl
  have e1 : A.ds.getD 1 0 = b := by rw [hd]; rfl
  refine c_from (i := 0) h (by decide) ?_
  (try rw [e0])
  rw [c_room (n := 2) (m := 1) h (by omega) (by decide)]
  refine ⟨fun z => absurd z (by omega), fun _ => ?_⟩
  simp (config := {decide := true}) only [en_iff hG, en_c hG, wp_En_ordinal, wq_Ma_perform_311, wp_Ma_perform, wq_Bi_isCalculating_18, wp_Bi_isCalculating, wq_Ma_calculate_233, wq_Ma_calculate_220, wq_Ma_calculate_206, wq_Ma_calculate_183, wq_Ma_calculate_171, wp_Ma_calculate, wq_Ma_flag_9, wp_Ma_flag, wq_Ma_arrange_130, wp_Ma_arrange, wq_Ma_performOnMemory_232, wp_Ma_performOnMemory, (show takE.getD 8 0 = (2 : Int32) from rfl), (show putE.getD 8 0 = (1 : Int32) from rfl), (show ordE.getD 8 0 = (8 : Int32) from rfl), (show numE.getD 8 0 = (8 : Int32) from rfl), (show Int32.toNatClampNeg 8 = 8 from rfl), (show swE.getD 8 0 = (31 : Int32) from rfl), (vpT 8 (by decide)), nar0, nar1, true_implies, false_implies, not_true_eq_false, not_false_eq_true, and_true, true_and]
  refine cP (n := 2) (l := r) h (by rw [hd]; rfl) (by omega) rfl e1 e0 (fun S1 h1 => ?_)
  refine ⟨fun z => ?_, fun z => ?_⟩
  · rw [if_pos z] at k
    exact c_push h1 (show r.length < 24 by omega) (fun S2 h2 => k _ (RCr.ok h2))
  · rw [if_neg z] at k
    exact c_push h1 (show r.length < 24 by omega) (fun S2 h2 => k _ (RCr.ok h2))
theorem cw_10 {g : Gm} {ρ : Nat → Nat × Nat} {A : Ab} {S : StC} {post : Int32 → StC → Prop} (h : RC g ρ A S) (k : ∀ S', RCr g ρ (do10 A) S' → post (do10 A).1 S') : wp_Ma_lack g (fun r S1 => ((r = 0 → wp_Ma_perform g (fun S2 => post r S2) S1 (g.2.2 (100 + 10))) ∧ (¬ r = 0 → post r S1))) S (g.2.2 (100 + 10)) := by
  have hG := h.kG
  have hB := h.kDsB
  simp (config := {decide := true}) only [en_iff hG, en_c hG, wp_En_ordinal, wq_Ma_lack_236, wq_Ma_lack_216, wq_Ma_lack_212, wq_Ma_lack_194, wq_Ma_lack_176, wq_Ma_lack_156, wq_Ma_lack_136, wq_Ma_lack_123, wq_Ma_lack_17, wp_Ma_lack, wq_Ma_hasRoom_97, wq_Ma_hasRoom_69, wp_Ma_hasRoom, (show takE.getD 10 0 = (1 : Int32) from rfl), (show putE.getD 10 0 = (1 : Int32) from rfl), (show ordE.getD 10 0 = (10 : Int32) from rfl), (show numE.getD 10 0 = (10 : Int32) from rfl), (show Int32.toNatClampNeg 10 = 10 from rfl), (show swE.getD 10 0 = (33 : Int32) from rfl), (vpT 10 (by decide)), nar0, nar1, true_implies, false_implies, not_true_eq_false, not_false_eq_true, and_true, true_and]
  refine c_nd1 h k (fun c r hd k => ?_)
  have hL : A.ds.length = r.length + 1 := by rw [hd]; rfl
  have e0 : A.ds.getD 0 0 = c := by rw [hd]; rfl
  refine c_from (i := 0) h (by decide) ?_
  (try rw [e0])
  rw [c_room (n := 1) (m := 1) h (by omega) (by decide)]
  refine ⟨fun z => absurd z (by omega), fun _ => ?_⟩
  simp (config := {decide := true}) only [en_iff hG, en_c hG, wp_En_ordinal, wq_Ma_perform_311, wp_Ma_perform, wq_Bi_isCalculating_18, wp_Bi_isCalculating, wq_Ma_calculate_233, wq_Ma_calculate_220, wq_Ma_calculate_206, wq_Ma_calculate_183, wq_Ma_calculate_171, wp_Ma_calculate, wq_Ma_flag_9, wp_Ma_flag, wq_Ma_arrange_130, wp_Ma_arrange, wq_Ma_performOnMemory_232, wp_Ma_performOnMemory, (show takE.getD 10 0 = (1 : Int32) from rfl), (show putE.getD 10 0 = (1 : Int32) from rfl), (show ordE.getD 10 0 = (10 : Int32) from rfl), (show numE.getD 10 0 = (10 : Int32) from rfl), (show Int32.toNatClampNeg 10 = 10 from rfl), (show swE.getD 10 0 = (33 : Int32) from rfl), (vpT 10 (by decide)), nar0, nar1, true_implies, false_implies, not_true_eq_false, not_false_eq_true, and_true, true_and]
  refine cP (n := 1) (l := r) h (by rw [hd]; rfl) (by omega) rfl rfl e0 (fun S1 h1 => ?_)
  refine ⟨fun z => ?_, fun z => ?_⟩
  · rw [if_pos z] at k
    exact c_push h1 (show r.length < 24 by omega) (fun S2 h2 => k _ (RCr.ok h2))
  · rw [if_neg z] at k
    exact c_push h1 (show r.length < 24 by omega) (fun S2 h2 => k _ (RCr.ok h2))
theorem cw_9 {g : Gm} {ρ : Nat → Nat × Nat} {A : Ab} {S : StC} {post : Int32 → StC → Prop} (h : RC g ρ A S) (k : ∀ S', RCr g ρ (do9 A) S' → post (do9 A).1 S') : wp_Ma_lack g (fun r S1 => ((r = 0 → wp_Ma_perform g (fun S2 => post r S2) S1 (g.2.2 (100 + 9))) ∧ (¬ r = 0 → post r S1))) S (g.2.2 (100 + 9)) := by
  have hG := h.kG
  have hB := h.kDsB
  simp (config := {decide := true}) only [en_iff hG, en_c hG, wp_En_ordinal, wq_Ma_lack_236, wq_Ma_lack_216, wq_Ma_lack_212, wq_Ma_lack_194, wq_Ma_lack_176, wq_Ma_lack_156, wq_Ma_lack_136, wq_Ma_lack_123, wq_Ma_lack_17, wp_Ma_lack, wq_Ma_hasRoom_97, wq_Ma_hasRoom_69, wp_Ma_hasRoom, (show takE.getD 9 0 = (2 : Int32) from rfl), (show putE.getD 9 0 = (1 : Int32) from rfl), (show ordE.getD 9 0 = (9 : Int32) from rfl), (show numE.getD 9 0 = (9 : Int32) from rfl), (show Int32.toNatClampNeg 9 = 9 from rfl), (show swE.getD 9 0 = (32 : Int32) from rfl), (vpT 9 (by decide)), nar0, nar1, true_implies, false_implies, not_true_eq_false, not_false_eq_true, and_true, true_and]
  refine c_nd2 h k (fun c b r hd k => ?_)
  have hL : A.ds.length = r.length + 2 := by rw [hd]; rfl
  have e0 : A.ds.getD 0 0 = c := by rw [hd]; rfl
  have e1 : A.ds.getD 1 0 = b := by rw [hd]; rfl
  refine c_from (i := 0) h (by decide) ?_
  (try rw [e0])
  rw [c_room (n := 2) (m := 1) h (by omega) (by decide)]
  refine ⟨fun z => absurd z (by omega), fun _ => ?_⟩
  simp (config := {decide := true}) only [en_iff hG, en_c hG, wp_En_ordinal, wq_Ma_perform_311, wp_Ma_perform, wq_Bi_isCalculating_18, wp_Bi_isCalculating, wq_Ma_calculate_233, wq_Ma_calculate_220, wq_Ma_calculate_206, wq_Ma_calculate_183, wq_Ma_calculate_171, wp_Ma_calculate, wq_Ma_flag_9, wp_Ma_flag, wq_Ma_arrange_130, wp_Ma_arrange, wq_Ma_performOnMemory_232, wp_Ma_performOnMemory, (show takE.getD 9 0 = (2 : Int32) from rfl), (show putE.getD 9 0 = (1 : Int32) from rfl), (show ordE.getD 9 0 = (9 : Int32) from rfl), (show numE.getD 9 0 = (9 : Int32) from rfl), (show Int32.toNatClampNeg 9 = 9 from rfl), (show swE.getD 9 0 = (32 : Int32) from rfl), (vpT 9 (by decide)), nar0, nar1, true_implies, false_implies, not_true_eq_false, not_false_eq_true, and_true, true_and]
  refine cP (n := 2) (l := r) h (by rw [hd]; rfl) (by omega) rfl e1 e0 (fun S1 h1 => ?_)
  refine ⟨fun z => ?_, fun z => ?_⟩
  · rw [if_neg (Int32.not_lt.mpr z)] at k
    exact c_push h1 (show r.length < 24 by omega) (fun S2 h2 => k _ (RCr.ok h2))
  · rw [if_pos (Int32.not_le.mp z)] at k
    exact c_push h1 (show r.length < 24 by omega) (fun S2 h2 => k _ (RCr.ok h2))
theorem cw_12 {g : Gm} {ρ : Nat → Nat × Nat} {A : Ab} {S : StC} {post : Int32 → StC → Prop} (h : RC g ρ A S) (k : ∀ S', RCr g ρ (do12 A) S' → post (do12 A).1 S') : wp_Ma_lack g (fun r S1 => ((r = 0 → wp_Ma_perform g (fun S2 => post r S2) S1 (g.2.2 (100 + 12))) ∧ (¬ r = 0 → post r S1))) S (g.2.2 (100 + 12)) := by
  have hG := h.kG
  have hB := h.kDsB
  simp (config := {decide := true}) only [en_iff hG, en_c hG, wp_En_ordinal, wq_Ma_lack_236, wq_Ma_lack_216, wq_Ma_lack_212, wq_Ma_lack_194, wq_Ma_lack_176, wq_Ma_lack_156, wq_Ma_lack_136, wq_Ma_lack_123, wq_Ma_lack_17, wp_Ma_lack, wq_Ma_hasRoom_97, wq_Ma_hasRoom_69, wp_Ma_hasRoom, (show takE.getD 12 0 = (1 : Int32) from rfl), (show putE.getD 12 0 = (2 : Int32) from rfl), (show ordE.getD 12 0 = (12 : Int32) from rfl), (show numE.getD 12 0 = (12 : Int32) from rfl), (show Int32.toNatClampNeg 12 = 12 from rfl), (show swE.getD 12 0 = (14 : Int32) from rfl), (vpT 12 (by decide)), nar0, nar1, true_implies, false_implies, not_true_eq_false, not_false_eq_true, and_true, true_and]
  refine c_nd1 h k (fun c r hd k => ?_)
  have hL : A.ds.length = r.length + 1 := by rw [hd]; rfl
  have e0 : A.ds.getD 0 0 = c := by rw [hd]; rfl
  refine c_from (i := 0) h (by decide) ?_
  (try rw [e0])
  rw [c_room (n := 1) (m := 2) h (by omega) (by decide)]
  refine ⟨fun z => ?_, fun z => ?_⟩
  · rw [pushR, if_neg (by omega)] at k
    exact k _ (RCr.no (by decide) h.toRCw)
  · rw [pushR, if_pos (by omega), hd] at k
    simp (config := {decide := true}) only [en_iff hG, en_c hG, wp_En_ordinal, wq_Ma_perform_311, wp_Ma_perform, wq_Bi_isCalculating_18, wp_Bi_isCalculating, wq_Ma_calculate_233, wq_Ma_calculate_220, wq_Ma_calculate_206, wq_Ma_calculate_183, wq_Ma_calculate_171, wp_Ma_calculate, wq_Ma_flag_9, wp_Ma_flag, wq_Ma_arrange_130, wp_Ma_arrange, wq_Ma_performOnMemory_232, wp_Ma_performOnMemory, (show takE.getD 12 0 = (1 : Int32) from rfl), (show putE.getD 12 0 = (2 : Int32) from rfl), (show ordE.getD 12 0 = (12 : Int32) from rfl), (show numE.getD 12 0 = (12 : Int32) from rfl), (show Int32.toNatClampNeg 12 = 12 from rfl), (show swE.getD 12 0 = (14 : Int32) from rfl), (vpT 12 (by decide)), nar0, nar1, true_implies, false_implies, not_true_eq_false, not_false_eq_true, and_true, true_and]
    refine cP (n := 1) (l := r) h (by rw [hd]; rfl) (by omega) rfl rfl e0 (fun S1 h1 => ?_)
    exact c_push h1 (show r.length < 24 by omega) (fun S2 h2 => c_push h2 (show r.length + 1 < 24 by omega) (fun S3 h3 => k _ (RCr.ok h3)))
theorem cw_13 {g : Gm} {ρ : Nat → Nat × Nat} {A : Ab} {S : StC} {post : Int32 → StC → Prop} (h : RC g ρ A S) (k : ∀ S', RCr g ρ (do13 A) S' → post (do13 A).1 S') : wp_Ma_lack g (fun r S1 => ((r = 0 → wp_Ma_perform g (fun S2 => post r S2) S1 (g.2.2 (100 + 13))) ∧ (¬ r = 0 → post r S1))) S (g.2.2 (100 + 13)) := by
  have hG := h.kG
  have hB := h.kDsB
  simp (config := {decide := true}) only [en_iff hG, en_c hG, wp_En_ordinal, wq_Ma_lack_236, wq_Ma_lack_216, wq_Ma_lack_212, wq_Ma_lack_194, wq_Ma_lack_176, wq_Ma_lack_156, wq_Ma_lack_136, wq_Ma_lack_123, wq_Ma_lack_17, wp_Ma_lack, wq_Ma_hasRoom_97, wq_Ma_hasRoom_69, wp_Ma_hasRoom, (show takE.getD 13 0 = (1 : Int32) from rfl), (show putE.getD 13 0 = (0 : Int32) from rfl), (show ordE.getD 13 0 = (13 : Int32) from rfl), (show numE.getD 13 0 = (13 : Int32) from rfl), (show Int32.toNatClampNeg 13 = 13 from rfl), (show swE.getD 13 0 = (18 : Int32) from rfl), (vpT 13 (by decide)), nar0, nar1, true_implies, false_implies, not_true_eq_false, not_false_eq_true, and_true, true_and]
  refine c_nd1 h k (fun c r hd k => ?_)
  have hL : A.ds.length = r.length + 1 := by rw [hd]; rfl
  have e0 : A.ds.getD 0 0 = c := by rw [hd]; rfl
  refine c_from (i := 0) h (by decide) ?_
  (try rw [e0])
  rw [c_room (n := 1) (m := 0) h (by omega) (by decide)]
  refine ⟨fun z => absurd z (by omega), fun _ => ?_⟩
  simp (config := {decide := true}) only [en_iff hG, en_c hG, wp_En_ordinal, wq_Ma_perform_311, wp_Ma_perform, wq_Bi_isCalculating_18, wp_Bi_isCalculating, wq_Ma_calculate_233, wq_Ma_calculate_220, wq_Ma_calculate_206, wq_Ma_calculate_183, wq_Ma_calculate_171, wp_Ma_calculate, wq_Ma_flag_9, wp_Ma_flag, wq_Ma_arrange_130, wp_Ma_arrange, wq_Ma_performOnMemory_232, wp_Ma_performOnMemory, (show takE.getD 13 0 = (1 : Int32) from rfl), (show putE.getD 13 0 = (0 : Int32) from rfl), (show ordE.getD 13 0 = (13 : Int32) from rfl), (show numE.getD 13 0 = (13 : Int32) from rfl), (show Int32.toNatClampNeg 13 = 13 from rfl), (show swE.getD 13 0 = (18 : Int32) from rfl), (vpT 13 (by decide)), nar0, nar1, true_implies, false_implies, not_true_eq_false, not_false_eq_true, and_true, true_and]
  refine cP (n := 1) (l := r) h (by rw [hd]; rfl) (by omega) rfl rfl e0 (fun S1 h1 => ?_)
  exact k _ (RCr.ok h1)
theorem cw_14 {g : Gm} {ρ : Nat → Nat × Nat} {A : Ab} {S : StC} {post : Int32 → StC → Prop} (h : RC g ρ A S) (k : ∀ S', RCr g ρ (do14 A) S' → post (do14 A).1 S') : wp_Ma_lack g (fun r S1 => ((r = 0 → wp_Ma_perform g (fun S2 => post r S2) S1 (g.2.2 (100 + 14))) ∧ (¬ r = 0 → post r S1))) S (g.2.2 (100 + 14)) := by
  have hG := h.kG
  have hB := h.kDsB
  simp (config := {decide := true}) only [en_iff hG, en_c hG, wp_En_ordinal, wq_Ma_lack_236, wq_Ma_lack_216, wq_Ma_lack_212, wq_Ma_lack_194, wq_Ma_lack_176, wq_Ma_lack_156, wq_Ma_lack_136, wq_Ma_lack_123, wq_Ma_lack_17, wp_Ma_lack, wq_Ma_hasRoom_97, wq_Ma_hasRoom_69, wp_Ma_hasRoom, (show takE.getD 14 0 = (2 : Int32) from rfl), (show putE.getD 14 0 = (2 : Int32) from rfl), (show ordE.getD 14 0 = (14 : Int32) from rfl), (show numE.getD 14 0 = (14 : Int32) from rfl), (show Int32.toNatClampNeg 14 = 14 from rfl), (show swE.getD 14 0 = (15 : Int32) from rfl), (vpT 14 (by decide)), nar0, nar1, true_implies, false_implies, not_true_eq_false, not_false_eq_true, and_true, true_and]
  refine c_nd2 h k (fun c b r hd k => ?_)
  have hL : A.ds.length = r.length + 2 := by rw [hd]; rfl
  have e0 : A.ds.getD 0 0 = c := by rw [hd]; rfl
  have e1 : A.ds.getD 1 0 = b := by rw [hd]; rfl
  refine c_from (i := 0) h (by decide) ?_
  (try rw [e0])
  rw [c_room (n := 2) (m := 2) h (by omega) (by decide)]
  refine ⟨fun z => absurd z (by omega), fun _ => ?_⟩
  simp (config := {decide := true}) only [en_iff hG, en_c hG, wp_En_ordinal, wq_Ma_perform_311, wp_Ma_perform, wq_Bi_isCalculating_18, wp_Bi_isCalculating, wq_Ma_calculate_233, wq_Ma_calculate_220, wq_Ma_calculate_206, wq_Ma_calculate_183, wq_Ma_calculate_171, wp_Ma_calculate, wq_Ma_flag_9, wp_Ma_flag, wq_Ma_arrange_130, wp_Ma_arrange, wq_Ma_performOnMemory_232, wp_Ma_performOnMemory, (show takE.getD 14 0 = (2 : Int32) from rfl), (show putE.getD 14 0 = (2 : Int32) from rfl), (show ordE.getD 14 0 = (14 : Int32) from rfl), (show numE.getD 14 0 = (14 : Int32) from rfl), (show Int32.toNatClampNeg 14 = 14 from rfl), (show swE.getD 14 0 = (15 : Int32) from rfl), (vpT 14 (by decide)), nar0, nar1, true_implies, false_implies, not_true_eq_false, not_false_eq_true, and_true, true_and]
  refine cP (n := 2) (l := r) h (by rw [hd]; rfl) (by omega) rfl e1 e0 (fun S1 h1 => ?_)
  exact c_push h1 (show r.length < 24 by omega) (fun S2 h2 => c_push h2 (show r.length + 1 < 24 by omega) (fun S3 h3 => k _ (RCr.ok h3)))
theorem cw_15 {g : Gm} {ρ : Nat → Nat × Nat} {A : Ab} {S : StC} {post : Int32 → StC → Prop} (h : RC g ρ A S) (k : ∀ S', RCr g ρ (do15 A) S' → post (do15 A).1 S') : wp_Ma_lack g (fun r S1 => ((r = 0 → wp_Ma_perform g (fun S2 => post r S2) S1 (g.2.2 (100 + 15))) ∧ (¬ r = 0 → post r S1))) S (g.2.2 (100 + 15)) := by
  have hG := h.kG
  have hB := h.kDsB
  simp (config := {decide := true}) only [en_iff hG, en_c hG, wp_En_ordinal, wq_Ma_lack_236, wq_Ma_lack_216, wq_Ma_lack_212, wq_Ma_lack_194, wq_Ma_lack_176, wq_Ma_lack_156, wq_Ma_lack_136, wq_Ma_lack_123, wq_Ma_lack_17, wp_Ma_lack, wq_Ma_hasRoom_97, wq_Ma_hasRoom_69, wp_Ma_hasRoom, (show takE.getD 15 0 = (2 : Int32) from rfl), (show putE.getD 15 0 = (3 : Int32) from rfl), (show ordE.getD 15 0 = (15 : Int32) from rfl), (show numE.getD 15 0 = (15 : Int32) from rfl), (show Int32.toNatClampNeg 15 = 15 from rfl), (show swE.getD 15 0 = (16 : Int32) from rfl), (vpT 15 (by decide)), nar0, nar1, true_implies, false_implies, not_true_eq_false, not_false_eq_true, and_true, true_and]
  refine c_nd2 h k (fun c b r hd k => ?_)
  have hL : A.ds.length = r.length + 2 := by rw [hd]; rfl
  have e0 : A.ds.getD 0 0 = c := by rw [hd]; rfl
  have e1 : A.ds.getD 1 0 = b := by rw [hd]; rfl
  refine c_from (i := 0) h (by decide) ?_
  (try rw [e0])
  rw [c_room (n := 2) (m := 3) h (by omega) (by decide)]
  refine ⟨fun z => ?_, fun z => ?_⟩
  · rw [pushR, if_neg (by omega)] at k
    exact k _ (RCr.no (by decide) h.toRCw)
  · rw [pushR, if_pos (by omega), hd] at k
    simp (config := {decide := true}) only [en_iff hG, en_c hG, wp_En_ordinal, wq_Ma_perform_311, wp_Ma_perform, wq_Bi_isCalculating_18, wp_Bi_isCalculating, wq_Ma_calculate_233, wq_Ma_calculate_220, wq_Ma_calculate_206, wq_Ma_calculate_183, wq_Ma_calculate_171, wp_Ma_calculate, wq_Ma_flag_9, wp_Ma_flag, wq_Ma_arrange_130, wp_Ma_arrange, wq_Ma_performOnMemory_232, wp_Ma_performOnMemory, (show takE.getD 15 0 = (2 : Int32) from rfl), (show putE.getD 15 0 = (3 : Int32) from rfl), (show ordE.getD 15 0 = (15 : Int32) from rfl), (show numE.getD 15 0 = (15 : Int32) from rfl), (show Int32.toNatClampNeg 15 = 15 from rfl), (show swE.getD 15 0 = (16 : Int32) from rfl), (vpT 15 (by decide)), nar0, nar1, true_implies, false_implies, not_true_eq_false, not_false_eq_true, and_true, true_and]
    refine cP (n := 2) (l := r) h (by rw [hd]; rfl) (by omega) rfl e1 e0 (fun S1 h1 => ?_)
    exact c_push h1 (show r.length < 24 by omega) (fun S2 h2 => c_push h2 (show r.length + 1 < 24 by omega) (fun S3 h3 => c_push h3 (show r.length + 2 < 24 by omega) (fun S4 h4 => k _ (RCr.ok h4))))
theorem cw_16 {g : Gm} {ρ : Nat → Nat × Nat} {A : Ab} {S : StC} {post : Int32 → StC → Prop} (h : RC g ρ A S) (k : ∀ S', RCr g ρ (do16 A) S' → post (do16 A).1 S') : wp_Ma_lack g (fun r S1 => ((r = 0 → wp_Ma_perform g (fun S2 => post r S2) S1 (g.2.2 (100 + 16))) ∧ (¬ r = 0 → post r S1))) S (g.2.2 (100 + 16)) := by
  have hG := h.kG
  have hB := h.kDsB
  simp (config := {decide := true}) only [en_iff hG, en_c hG, wp_En_ordinal, wq_Ma_lack_236, wq_Ma_lack_216, wq_Ma_lack_212, wq_Ma_lack_194, wq_Ma_lack_176, wq_Ma_lack_156, wq_Ma_lack_136, wq_Ma_lack_123, wq_Ma_lack_17, wp_Ma_lack, wq_Ma_hasRoom_97, wq_Ma_hasRoom_69, wp_Ma_hasRoom, (show takE.getD 16 0 = (3 : Int32) from rfl), (show putE.getD 16 0 = (3 : Int32) from rfl), (show ordE.getD 16 0 = (16 : Int32) from rfl), (show numE.getD 16 0 = (16 : Int32) from rfl), (show Int32.toNatClampNeg 16 = 16 from rfl), (show swE.getD 16 0 = (17 : Int32) from rfl), (vpT 16 (by decide)), nar0, nar1, true_implies, false_implies, not_true_eq_false, not_false_eq_true, and_true, true_and]
  refine c_nd3 h k (fun c b a r hd k => ?_)
  have hL : A.ds.length = r.length + 3 := by rw [hd]; rfl
  have e0 : A.ds.getD 0 0 = c := by rw [hd]; rfl
  have e1 : A.ds.getD 1 0 = b := by rw [hd]; rfl
  have e2 : A.ds.getD 2 0 = a := by rw [hd]; rfl
  refine c_from (i := 0) h (by decide) ?_
  (try rw [e0])
  rw [c_room (n := 3) (m := 3) h (by omega) (by decide)]
  refine ⟨fun z => absurd z (by omega), fun _ => ?_⟩
  simp (config := {decide := true}) only [en_iff hG, en_c hG, wp_En_ordinal, wq_Ma_perform_311, wp_Ma_perform, wq_Bi_isCalculating_18, wp_Bi_isCalculating, wq_Ma_calculate_233, wq_Ma_calculate_220, wq_Ma_calculate_206, wq_Ma_calculate_183, wq_Ma_calculate_171, wp_Ma_calculate, wq_Ma_flag_9, wp_Ma_flag, wq_Ma_arrange_130, wp_Ma_arrange, wq_Ma_performOnMemory_232, wp_Ma_performOnMemory, (show takE.getD 16 0 = (3 : Int32) from rfl), (show putE.getD 16 0 = (3 : Int32) from rfl), (show ordE.getD 16 0 = (16 : Int32) from rfl), (show numE.getD 16 0 = (16 : Int32) from rfl), (show Int32.toNatClampNeg 16 = 16 from rfl), (show swE.getD 16 0 = (17 : Int32) from rfl), (vpT 16 (by decide)), nar0, nar1, true_implies, false_implies, not_true_eq_false, not_false_eq_true, and_true, true_and]
  refine cP (n := 3) (l := r) h (by rw [hd]; rfl) (by omega) e2 e1 e0 (fun S1 h1 => ?_)
  exact c_push h1 (show r.length < 24 by omega) (fun S2 h2 => c_push h2 (show r.length + 1 < 24 by omega) (fun S3 h3 => c_push h3 (show r.length + 2 < 24 by omega) (fun S4 h4 => k _ (RCr.ok h4))))
theorem cw_17 {g : Gm} {ρ : Nat → Nat × Nat} {A : Ab} {S : StC} {post : Int32 → StC → Prop} (h : RC g ρ A S) (k : ∀ S', RCr g ρ (do17 A) S' → post (do17 A).1 S') : wp_Ma_lack g (fun r S1 => ((r = 0 → wp_Ma_perform g (fun S2 => post r S2) S1 (g.2.2 (100 + 17))) ∧ (¬ r = 0 → post r S1))) S (g.2.2 (100 + 17)) := by
  have hG := h.kG
  have hB := h.kDsB
  simp (config := {decide := true}) only [en_iff hG, en_c hG, wp_En_ordinal, wq_Ma_lack_236, wq_Ma_lack_216, wq_Ma_lack_212, wq_Ma_lack_194, wq_Ma_lack_176, wq_Ma_lack_156, wq_Ma_lack_136, wq_Ma_lack_123, wq_Ma_lack_17, wp_Ma_lack, wq_Ma_hasRoom_97, wq_Ma_hasRoom_69, wp_Ma_hasRoom, (show takE.getD 17 0 = (0 : Int32) from rfl), (show putE.getD 17 0 = (1 : Int32) from rfl), (show ordE.getD 17 0 = (17 : Int32) from rfl), (show numE.getD 17 0 = (17 : Int32) from rfl), (show Int32.toNatClampNeg 17 = 17 from rfl), (show swE.getD 17 0 = (19 : Int32) from rfl), (vpT 17 (by decide)), nar0, nar1, true_implies, false_implies, not_true_eq_false, not_false_eq_true, and_true, true_and]
  refine c_nd0 h ?_
  refine c_from (i := 0) h (by decide) ?_
  rw [c_room (n := 0) (m := 1) h (by omega) (by decide)]
  have k : ∀ S', RCr g ρ (pushR A (Int32.ofNat A.ds.length)) S' → post (pushR A (Int32.ofNat A.ds.length)).1 S' := k
  refine ⟨fun z => ?_, fun z => ?_⟩
  · rw [pushR, if_neg (by omega)] at k
    exact k _ (RCr.no (by decide) h.toRCw)
  · rw [pushR, if_pos (by omega)] at k
    simp (config := {decide := true}) only [en_iff hG, en_c hG, wp_En_ordinal, wq_Ma_perform_311, wp_Ma_perform, wq_Bi_isCalculating_18, wp_Bi_isCalculating, wq_Ma_calculate_233, wq_Ma_calculate_220, wq_Ma_calculate_206, wq_Ma_calculate_183, wq_Ma_calculate_171, wp_Ma_calculate, wq_Ma_flag_9, wp_Ma_flag, wq_Ma_arrange_130, wp_Ma_arrange, wq_Ma_performOnMemory_232, wp_Ma_performOnMemory, (show takE.getD 17 0 = (0 : Int32) from rfl), (show putE.getD 17 0 = (1 : Int32) from rfl), (show ordE.getD 17 0 = (17 : Int32) from rfl), (show numE.getD 17 0 = (17 : Int32) from rfl), (show Int32.toNatClampNeg 17 = 17 from rfl), (show swE.getD 17 0 = (19 : Int32) from rfl), (vpT 17 (by decide)), nar0, nar1, true_implies, false_implies, not_true_eq_false, not_false_eq_true, and_true, true_and]
    refine cP (n := 0) (l := A.ds) h rfl (by omega) rfl rfl rfl (fun S1 h1 => ?_)
    rw [h.kDs]
    exact c_push h1 (show A.ds.length < 24 by omega) (fun S2 h2 => k _ (RCr.ok h2))
theorem cw_22 {g : Gm} {ρ : Nat → Nat × Nat} {A : Ab} {S : StC} {post : Int32 → StC → Prop} (h : RC g ρ A S) (k : ∀ S', RCr g ρ (do22 A) S' → post (do22 A).1 S') : wp_Ma_lack g (fun r S1 => ((r = 0 → wp_Ma_perform g (fun S2 => post r S2) S1 (g.2.2 (100 + 22))) ∧ (¬ r = 0 → post r S1))) S (g.2.2 (100 + 22)) := by
  have hG := h.kG
  have hB := h.kDsB
  simp (config := {decide := true}) only [en_iff hG, en_c hG, wp_En_ordinal, wq_Ma_lack_236, wq_Ma_lack_216, wq_Ma_lack_212, wq_Ma_lack_194, wq_Ma_lack_176, wq_Ma_lack_156, wq_Ma_lack_136, wq_Ma_lack_123, wq_Ma_lack_17, wp_Ma_lack, wq_Ma_hasRoom_97, wq_Ma_hasRoom_69, wp_Ma_hasRoom, (show takE.getD 22 0 = (0 : Int32) from rfl), (show putE.getD 22 0 = (1 : Int32) from rfl), (show ordE.getD 22 0 = (22 : Int32) from rfl), (show numE.getD 22 0 = (22 : Int32) from rfl), (show Int32.toNatClampNeg 22 = 22 from rfl), (show swE.getD 22 0 = (22 : Int32) from rfl), (vpT 22 (by decide)), nar0, nar1, true_implies, false_implies, not_true_eq_false, not_false_eq_true, and_true, true_and]
  refine c_nd0 h ?_
  refine c_from (i := 0) h (by decide) ?_
  rw [c_room (n := 0) (m := 1) h (by omega) (by decide)]
  have k : ∀ S', RCr g ρ (pushR A (Int32.ofNat A.here)) S' → post (pushR A (Int32.ofNat A.here)).1 S' := k
  refine ⟨fun z => ?_, fun z => ?_⟩
  · rw [pushR, if_neg (by omega)] at k
    exact k _ (RCr.no (by decide) h.toRCw)
  · rw [pushR, if_pos (by omega)] at k
    simp (config := {decide := true}) only [en_iff hG, en_c hG, wp_En_ordinal, wq_Ma_perform_311, wp_Ma_perform, wq_Bi_isCalculating_18, wp_Bi_isCalculating, wq_Ma_calculate_233, wq_Ma_calculate_220, wq_Ma_calculate_206, wq_Ma_calculate_183, wq_Ma_calculate_171, wp_Ma_calculate, wq_Ma_flag_9, wp_Ma_flag, wq_Ma_arrange_130, wp_Ma_arrange, wq_Ma_performOnMemory_232, wp_Ma_performOnMemory, (show takE.getD 22 0 = (0 : Int32) from rfl), (show putE.getD 22 0 = (1 : Int32) from rfl), (show ordE.getD 22 0 = (22 : Int32) from rfl), (show numE.getD 22 0 = (22 : Int32) from rfl), (show Int32.toNatClampNeg 22 = 22 from rfl), (show swE.getD 22 0 = (22 : Int32) from rfl), (vpT 22 (by decide)), nar0, nar1, true_implies, false_implies, not_true_eq_false, not_false_eq_true, and_true, true_and]
    refine cP (n := 0) (l := A.ds) h rfl (by omega) rfl rfl rfl (fun S1 h1 => ?_)
    have eH : S1.1 10 = Int32.ofNat A.here := h1.kHere
    rw [eH]
    exact c_push h1 (show A.ds.length < 24 by omega) (fun S2 h2 => k _ (RCr.ok h2))
theorem cw_18 {g : Gm} {ρ : Nat → Nat × Nat} {A : Ab} {S : StC} {post : Int32 → StC → Prop} (h : RC g ρ A S) (hp : A.pr + A.fu < A.pb) (k : ∀ S', RCr g ρ (do18 A) S' → post (do18 A).1 S') : wp_Ma_lack g (fun r S1 => ((r = 0 → wp_Ma_perform g (fun S2 => post r S2) S1 (g.2.2 (100 + 18))) ∧ (¬ r = 0 → post r S1))) S (g.2.2 (100 + 18)) := by
  have hG := h.kG
  have hB := h.kDsB
  simp (config := {decide := true}) only [en_iff hG, en_c hG, wp_En_ordinal, wq_Ma_lack_236, wq_Ma_lack_216, wq_Ma_lack_212, wq_Ma_lack_194, wq_Ma_lack_176, wq_Ma_lack_156, wq_Ma_lack_136, wq_Ma_lack_123, wq_Ma_lack_17, wp_Ma_lack, wq_Ma_hasRoom_97, wq_Ma_hasRoom_69, wp_Ma_hasRoom, (show takE.getD 18 0 = (1 : Int32) from rfl), (show putE.getD 18 0 = (0 : Int32) from rfl), (show ordE.getD 18 0 = (18 : Int32) from rfl), (show numE.getD 18 0 = (18 : Int32) from rfl), (show Int32.toNatClampNeg 18 = 18 from rfl), (show swE.getD 18 0 = (20 : Int32) from rfl), (vpT 18 (by decide)), nar0, nar1, true_implies, false_implies, not_true_eq_false, not_false_eq_true, and_true, true_and]
  refine c_nd1 h k (fun c r hd k => ?_)
  have hL : A.ds.length = r.length + 1 := by rw [hd]; rfl
  have e0 : A.ds.getD 0 0 = c := by rw [hd]; rfl
  refine c_from (i := 0) h (by decide) ?_
  (try rw [e0])
  rw [c_room (n := 1) (m := 0) h (by omega) (by decide)]
  refine ⟨fun z => absurd z (by omega), fun _ => ?_⟩
  simp (config := {decide := true}) only [en_iff hG, en_c hG, wp_En_ordinal, wq_Ma_perform_311, wp_Ma_perform, wq_Bi_isCalculating_18, wp_Bi_isCalculating, wq_Ma_calculate_233, wq_Ma_calculate_220, wq_Ma_calculate_206, wq_Ma_calculate_183, wq_Ma_calculate_171, wp_Ma_calculate, wq_Ma_flag_9, wp_Ma_flag, wq_Ma_arrange_130, wp_Ma_arrange, wq_Ma_performOnMemory_232, wp_Ma_performOnMemory, (show takE.getD 18 0 = (1 : Int32) from rfl), (show putE.getD 18 0 = (0 : Int32) from rfl), (show ordE.getD 18 0 = (18 : Int32) from rfl), (show numE.getD 18 0 = (18 : Int32) from rfl), (show Int32.toNatClampNeg 18 = 18 from rfl), (show swE.getD 18 0 = (20 : Int32) from rfl), (vpT 18 (by decide)), nar0, nar1, true_implies, false_implies, not_true_eq_false, not_false_eq_true, and_true, true_and]
  refine cP (n := 1) (l := r) h (by rw [hd]; rfl) (by omega) rfl rfl e0 (fun S1 h1 => ?_)
  exact c_keep h1 hp (fun S2 h2 => k _ (RCr.ok h2))
theorem cw_19 {g : Gm} {ρ : Nat → Nat × Nat} {A : Ab} {S : StC} {post : Int32 → StC → Prop} (h : RC g ρ A S) (k : ∀ S', RCr g ρ (do19 A) S' → post (do19 A).1 S') : wp_Ma_lack g (fun r S1 => ((r = 0 → wp_Ma_perform g (fun S2 => post r S2) S1 (g.2.2 (100 + 19))) ∧ (¬ r = 0 → post r S1))) S (g.2.2 (100 + 19)) := by
  have hG := h.kG
  have hB := h.kDsB
  simp (config := {decide := true}) only [en_iff hG, en_c hG, wp_En_ordinal, wq_Ma_lack_236, wq_Ma_lack_216, wq_Ma_lack_212, wq_Ma_lack_194, wq_Ma_lack_176, wq_Ma_lack_156, wq_Ma_lack_136, wq_Ma_lack_123, wq_Ma_lack_17, wp_Ma_lack, wq_Ma_hasRoom_97, wq_Ma_hasRoom_69, wp_Ma_hasRoom, (show takE.getD 19 0 = (1 : Int32) from rfl), (show putE.getD 19 0 = (1 : Int32) from rfl), (show ordE.getD 19 0 = (19 : Int32) from rfl), (show numE.getD 19 0 = (19 : Int32) from rfl), (show Int32.toNatClampNeg 19 = 19 from rfl), (show swE.getD 19 0 = (5 : Int32) from rfl), (vpT 19 (by decide)), nar0, nar1, true_implies, false_implies, not_true_eq_false, not_false_eq_true, and_true, true_and]
  refine c_nd1 h k (fun c r hd k => ?_)
  have hL : A.ds.length = r.length + 1 := by rw [hd]; rfl
  have e0 : A.ds.getD 0 0 = c := by rw [hd]; rfl
  refine c_from (i := 0) h (by decide) ?_
  (try rw [e0])
  refine c_has ?_
  by_cases hc : inM c
  · rw [if_pos hc] at k
    rw [decide_eq_true hc]
    refine ⟨fun z => absurd z (by decide), fun _ => ?_⟩
    rw [c_room (n := 1) (m := 1) h (by omega) (by decide)]
    refine ⟨fun y => absurd y (by omega), fun _ => ?_⟩
    simp (config := {decide := true}) only [en_iff hG, en_c hG, wp_En_ordinal, wq_Ma_perform_311, wp_Ma_perform, wq_Bi_isCalculating_18, wp_Bi_isCalculating, wq_Ma_calculate_233, wq_Ma_calculate_220, wq_Ma_calculate_206, wq_Ma_calculate_183, wq_Ma_calculate_171, wp_Ma_calculate, wq_Ma_flag_9, wp_Ma_flag, wq_Ma_arrange_130, wp_Ma_arrange, wq_Ma_performOnMemory_232, wp_Ma_performOnMemory, (show takE.getD 19 0 = (1 : Int32) from rfl), (show putE.getD 19 0 = (1 : Int32) from rfl), (show ordE.getD 19 0 = (19 : Int32) from rfl), (show numE.getD 19 0 = (19 : Int32) from rfl), (show Int32.toNatClampNeg 19 = 19 from rfl), (show swE.getD 19 0 = (5 : Int32) from rfl), (vpT 19 (by decide)), nar0, nar1, true_implies, false_implies, not_true_eq_false, not_false_eq_true, and_true, true_and]
    refine cP (n := 1) (l := r) h (by rw [hd]; rfl) (by omega) rfl rfl e0 (fun S1 h1 => ?_)
    exact c_fetch h1 hc (c_push h1 (show r.length < 24 by omega) (fun S2 h2 => k _ (RCr.ok h2)))
  · rw [if_neg hc] at k
    rw [decide_eq_false hc]
    exact ⟨fun _ => k _ (RCr.no (by decide) h.toRCw), fun z => absurd rfl z⟩
theorem cw_20 {g : Gm} {ρ : Nat → Nat × Nat} {A : Ab} {S : StC} {post : Int32 → StC → Prop} (h : RC g ρ A S) (k : ∀ S', RCr g ρ (do20 A) S' → post (do20 A).1 S') : wp_Ma_lack g (fun r S1 => ((r = 0 → wp_Ma_perform g (fun S2 => post r S2) S1 (g.2.2 (100 + 20))) ∧ (¬ r = 0 → post r S1))) S (g.2.2 (100 + 20)) := by
  have hG := h.kG
  have hB := h.kDsB
  simp (config := {decide := true}) only [en_iff hG, en_c hG, wp_En_ordinal, wq_Ma_lack_236, wq_Ma_lack_216, wq_Ma_lack_212, wq_Ma_lack_194, wq_Ma_lack_176, wq_Ma_lack_156, wq_Ma_lack_136, wq_Ma_lack_123, wq_Ma_lack_17, wp_Ma_lack, wq_Ma_hasRoom_97, wq_Ma_hasRoom_69, wp_Ma_hasRoom, (show takE.getD 20 0 = (2 : Int32) from rfl), (show putE.getD 20 0 = (0 : Int32) from rfl), (show ordE.getD 20 0 = (20 : Int32) from rfl), (show numE.getD 20 0 = (20 : Int32) from rfl), (show Int32.toNatClampNeg 20 = 20 from rfl), (show swE.getD 20 0 = (6 : Int32) from rfl), (vpT 20 (by decide)), nar0, nar1, true_implies, false_implies, not_true_eq_false, not_false_eq_true, and_true, true_and]
  refine c_nd2 h k (fun c b r hd k => ?_)
  have hL : A.ds.length = r.length + 2 := by rw [hd]; rfl
  have e0 : A.ds.getD 0 0 = c := by rw [hd]; rfl
  have e1 : A.ds.getD 1 0 = b := by rw [hd]; rfl
  refine c_from (i := 0) h (by decide) ?_
  (try rw [e0])
  refine c_has ?_
  by_cases hc : inM c
  · rw [if_pos hc] at k
    rw [decide_eq_true hc]
    refine ⟨fun z => absurd z (by decide), fun _ => ?_⟩
    rw [c_room (n := 2) (m := 0) h (by omega) (by decide)]
    refine ⟨fun y => absurd y (by omega), fun _ => ?_⟩
    simp (config := {decide := true}) only [en_iff hG, en_c hG, wp_En_ordinal, wq_Ma_perform_311, wp_Ma_perform, wq_Bi_isCalculating_18, wp_Bi_isCalculating, wq_Ma_calculate_233, wq_Ma_calculate_220, wq_Ma_calculate_206, wq_Ma_calculate_183, wq_Ma_calculate_171, wp_Ma_calculate, wq_Ma_flag_9, wp_Ma_flag, wq_Ma_arrange_130, wp_Ma_arrange, wq_Ma_performOnMemory_232, wp_Ma_performOnMemory, (show takE.getD 20 0 = (2 : Int32) from rfl), (show putE.getD 20 0 = (0 : Int32) from rfl), (show ordE.getD 20 0 = (20 : Int32) from rfl), (show numE.getD 20 0 = (20 : Int32) from rfl), (show Int32.toNatClampNeg 20 = 20 from rfl), (show swE.getD 20 0 = (6 : Int32) from rfl), (vpT 20 (by decide)), nar0, nar1, true_implies, false_implies, not_true_eq_false, not_false_eq_true, and_true, true_and]
    refine cP (n := 2) (l := r) h (by rw [hd]; rfl) (by omega) rfl e1 e0 (fun S1 h1 => ?_)
    exact c_store h1 hc (fun S2 h2 => k _ (RCr.ok h2))
  · rw [if_neg hc] at k
    rw [decide_eq_false hc]
    exact ⟨fun _ => k _ (RCr.no (by decide) h.toRCw), fun z => absurd rfl z⟩
theorem cw_21 {g : Gm} {ρ : Nat → Nat × Nat} {A : Ab} {S : StC} {post : Int32 → StC → Prop} (h : RC g ρ A S) (k : ∀ S', RCr g ρ (do21 A) S' → post (do21 A).1 S') : wp_Ma_lack g (fun r S1 => ((r = 0 → wp_Ma_perform g (fun S2 => post r S2) S1 (g.2.2 (100 + 21))) ∧ (¬ r = 0 → post r S1))) S (g.2.2 (100 + 21)) := by
  have hG := h.kG
  have hB := h.kDsB
  simp (config := {decide := true}) only [en_iff hG, en_c hG, wp_En_ordinal, wq_Ma_lack_236, wq_Ma_lack_216, wq_Ma_lack_212, wq_Ma_lack_194, wq_Ma_lack_176, wq_Ma_lack_156, wq_Ma_lack_136, wq_Ma_lack_123, wq_Ma_lack_17, wp_Ma_lack, wq_Ma_hasRoom_97, wq_Ma_hasRoom_69, wp_Ma_hasRoom, (show takE.getD 21 0 = (2 : Int32) from rfl), (show putE.getD 21 0 = (0 : Int32) from rfl), (show ordE.getD 21 0 = (21 : Int32) from rfl), (show numE.getD 21 0 = (21 : Int32) from rfl), (show Int32.toNatClampNeg 21 = 21 from rfl), (show swE.getD 21 0 = (7 : Int32) from rfl), (vpT 21 (by decide)), nar0, nar1, true_implies, false_implies, not_true_eq_false, not_false_eq_true, and_true, true_and]
  refine c_nd2 h k (fun c b r hd k => ?_)
  have hL : A.ds.length = r.length + 2 := by rw [hd]; rfl
  have e0 : A.ds.getD 0 0 = c := by rw [hd]; rfl
  have e1 : A.ds.getD 1 0 = b := by rw [hd]; rfl
  refine c_from (i := 0) h (by decide) ?_
  (try rw [e0])
  refine c_has ?_
  by_cases hc : inM c
  · rw [if_pos hc] at k
    rw [decide_eq_true hc]
    refine ⟨fun z => absurd z (by decide), fun _ => ?_⟩
    rw [c_room (n := 2) (m := 0) h (by omega) (by decide)]
    refine ⟨fun y => absurd y (by omega), fun _ => ?_⟩
    simp (config := {decide := true}) only [en_iff hG, en_c hG, wp_En_ordinal, wq_Ma_perform_311, wp_Ma_perform, wq_Bi_isCalculating_18, wp_Bi_isCalculating, wq_Ma_calculate_233, wq_Ma_calculate_220, wq_Ma_calculate_206, wq_Ma_calculate_183, wq_Ma_calculate_171, wp_Ma_calculate, wq_Ma_flag_9, wp_Ma_flag, wq_Ma_arrange_130, wp_Ma_arrange, wq_Ma_performOnMemory_232, wp_Ma_performOnMemory, (show takE.getD 21 0 = (2 : Int32) from rfl), (show putE.getD 21 0 = (0 : Int32) from rfl), (show ordE.getD 21 0 = (21 : Int32) from rfl), (show numE.getD 21 0 = (21 : Int32) from rfl), (show Int32.toNatClampNeg 21 = 21 from rfl), (show swE.getD 21 0 = (7 : Int32) from rfl), (vpT 21 (by decide)), nar0, nar1, true_implies, false_implies, not_true_eq_false, not_false_eq_true, and_true, true_and]
    refine cP (n := 2) (l := r) h (by rw [hd]; rfl) (by omega) rfl e1 e0 (fun S1 h1 => ?_)
    exact c_fetch h1 hc (c_store h1 hc (fun S2 h2 => k _ (RCr.ok h2)))
  · rw [if_neg hc] at k
    rw [decide_eq_false hc]
    exact ⟨fun _ => k _ (RCr.no (by decide) h.toRCw), fun z => absurd rfl z⟩
theorem cw_23 {g : Gm} {ρ : Nat → Nat × Nat} {A : Ab} {S : StC} {post : Int32 → StC → Prop} (h : RC g ρ A S) (k : ∀ S', RCr g ρ (do23 A) S' → post (do23 A).1 S') : wp_Ma_lack g (fun r S1 => ((r = 0 → wp_Ma_perform g (fun S2 => post r S2) S1 (g.2.2 (100 + 23))) ∧ (¬ r = 0 → post r S1))) S (g.2.2 (100 + 23)) := by
  have hG := h.kG
  have hB := h.kDsB
  simp (config := {decide := true}) only [en_iff hG, en_c hG, wp_En_ordinal, wq_Ma_lack_236, wq_Ma_lack_216, wq_Ma_lack_212, wq_Ma_lack_194, wq_Ma_lack_176, wq_Ma_lack_156, wq_Ma_lack_136, wq_Ma_lack_123, wq_Ma_lack_17, wp_Ma_lack, wq_Ma_hasRoom_97, wq_Ma_hasRoom_69, wp_Ma_hasRoom, (show takE.getD 23 0 = (1 : Int32) from rfl), (show putE.getD 23 0 = (0 : Int32) from rfl), (show ordE.getD 23 0 = (23 : Int32) from rfl), (show numE.getD 23 0 = (23 : Int32) from rfl), (show Int32.toNatClampNeg 23 = 23 from rfl), (show swE.getD 23 0 = (11 : Int32) from rfl), (vpT 23 (by decide)), nar0, nar1, true_implies, false_implies, not_true_eq_false, not_false_eq_true, and_true, true_and]
  refine c_nd1 h k (fun c r hd k => ?_)
  have hL : A.ds.length = r.length + 1 := by rw [hd]; rfl
  have e0 : A.ds.getD 0 0 = c := by rw [hd]; rfl
  refine c_from (i := 0) h (by decide) ?_
  (try rw [e0])
  refine c_canGrow h ⟨bE_nar _, ?_⟩
  have k1 : (1 : Int32).toInt = 1 := rfl
  by_cases hc : A.here < 64
  · rw [if_pos hc] at k
    rw [decide_eq_true (by omega)]
    refine ⟨fun z => absurd z (by decide), fun _ => ?_⟩
    simp (config := {decide := true}) only [en_iff hG, en_c hG, wp_En_ordinal, wq_Ma_perform_311, wp_Ma_perform, wq_Bi_isCalculating_18, wp_Bi_isCalculating, wq_Ma_calculate_233, wq_Ma_calculate_220, wq_Ma_calculate_206, wq_Ma_calculate_183, wq_Ma_calculate_171, wp_Ma_calculate, wq_Ma_flag_9, wp_Ma_flag, wq_Ma_arrange_130, wp_Ma_arrange, wq_Ma_performOnMemory_232, wp_Ma_performOnMemory, (show takE.getD 23 0 = (1 : Int32) from rfl), (show putE.getD 23 0 = (0 : Int32) from rfl), (show ordE.getD 23 0 = (23 : Int32) from rfl), (show numE.getD 23 0 = (23 : Int32) from rfl), (show Int32.toNatClampNeg 23 = 23 from rfl), (show swE.getD 23 0 = (11 : Int32) from rfl), (vpT 23 (by decide)), nar0, nar1, true_implies, false_implies, not_true_eq_false, not_false_eq_true, and_true, true_and]
    refine cP (n := 1) (l := r) h (by rw [hd]; rfl) (by omega) rfl rfl e0 (fun S1 h1 => ?_)
    exact c_append h1 hc (fun S2 h2 => k _ (RCr.ok h2))
  · rw [if_neg hc] at k
    rw [decide_eq_false (by omega)]
    exact ⟨fun _ => k _ (RCr.no (by decide) h.toRCw), fun z => absurd rfl z⟩
theorem cw_24 {g : Gm} {ρ : Nat → Nat × Nat} {A : Ab} {S : StC} {post : Int32 → StC → Prop} (h : RC g ρ A S) (k : ∀ S', RCr g ρ (do24 A) S' → post (do24 A).1 S') : wp_Ma_lack g (fun r S1 => ((r = 0 → wp_Ma_perform g (fun S2 => post r S2) S1 (g.2.2 (100 + 24))) ∧ (¬ r = 0 → post r S1))) S (g.2.2 (100 + 24)) := by
  have hG := h.kG
  have hB := h.kDsB
  simp (config := {decide := true}) only [en_iff hG, en_c hG, wp_En_ordinal, wq_Ma_lack_236, wq_Ma_lack_216, wq_Ma_lack_212, wq_Ma_lack_194, wq_Ma_lack_176, wq_Ma_lack_156, wq_Ma_lack_136, wq_Ma_lack_123, wq_Ma_lack_17, wp_Ma_lack, wq_Ma_hasRoom_97, wq_Ma_hasRoom_69, wp_Ma_hasRoom, (show takE.getD 24 0 = (1 : Int32) from rfl), (show putE.getD 24 0 = (0 : Int32) from rfl), (show ordE.getD 24 0 = (24 : Int32) from rfl), (show numE.getD 24 0 = (24 : Int32) from rfl), (show Int32.toNatClampNeg 24 = 24 from rfl), (show swE.getD 24 0 = (12 : Int32) from rfl), (vpT 24 (by decide)), nar0, nar1, true_implies, false_implies, not_true_eq_false, not_false_eq_true, and_true, true_and]
  refine c_nd1 h k (fun c r hd k => ?_)
  have hL : A.ds.length = r.length + 1 := by rw [hd]; rfl
  have e0 : A.ds.getD 0 0 = c := by rw [hd]; rfl
  refine c_from (i := 0) h (by decide) ?_
  (try rw [e0])
  refine c_canGrow h ⟨bE_nar _, ?_⟩
  have hiff := inH_iff (c := c) h.kHereB
  by_cases hc : inH A.here c
  · rw [if_pos hc] at k
    rw [decide_eq_true (hiff.mp hc)]
    refine ⟨fun z => absurd z (by decide), fun _ => ?_⟩
    simp (config := {decide := true}) only [en_iff hG, en_c hG, wp_En_ordinal, wq_Ma_perform_311, wp_Ma_perform, wq_Bi_isCalculating_18, wp_Bi_isCalculating, wq_Ma_calculate_233, wq_Ma_calculate_220, wq_Ma_calculate_206, wq_Ma_calculate_183, wq_Ma_calculate_171, wp_Ma_calculate, wq_Ma_flag_9, wp_Ma_flag, wq_Ma_arrange_130, wp_Ma_arrange, wq_Ma_performOnMemory_232, wp_Ma_performOnMemory, (show takE.getD 24 0 = (1 : Int32) from rfl), (show putE.getD 24 0 = (0 : Int32) from rfl), (show ordE.getD 24 0 = (24 : Int32) from rfl), (show numE.getD 24 0 = (24 : Int32) from rfl), (show Int32.toNatClampNeg 24 = 24 from rfl), (show swE.getD 24 0 = (12 : Int32) from rfl), (vpT 24 (by decide)), nar0, nar1, true_implies, false_implies, not_true_eq_false, not_false_eq_true, and_true, true_and]
    refine cP (n := 1) (l := r) h (by rw [hd]; rfl) (by omega) rfl rfl e0 (fun S1 h1 => ?_)
    exact c_grow h1 hc (fun S2 h2 => k _ (RCr.ok h2))
  · rw [if_neg hc] at k
    rw [decide_eq_false (fun z => hc (hiff.mpr z))]
    exact ⟨fun _ => k _ (RCr.no (by decide) h.toRCw), fun z => absurd rfl z⟩
theorem cw_25 {g : Gm} {ρ : Nat → Nat × Nat} {A : Ab} {S : StC} {post : Int32 → StC → Prop} (h : RC g ρ A S) (k : ∀ S', RCr g ρ (do25 A) S' → post (do25 A).1 S') : wp_Ma_lack g (fun r S1 => ((r = 0 → wp_Ma_perform g (fun S2 => post r S2) S1 (g.2.2 (100 + 25))) ∧ (¬ r = 0 → post r S1))) S (g.2.2 (100 + 25)) := by
  have hG := h.kG
  have hB := h.kDsB
  simp (config := {decide := true}) only [en_iff hG, en_c hG, wp_En_ordinal, wq_Ma_lack_236, wq_Ma_lack_216, wq_Ma_lack_212, wq_Ma_lack_194, wq_Ma_lack_176, wq_Ma_lack_156, wq_Ma_lack_136, wq_Ma_lack_123, wq_Ma_lack_17, wp_Ma_lack, wq_Ma_hasRoom_97, wq_Ma_hasRoom_69, wp_Ma_hasRoom, (show takE.getD 25 0 = (1 : Int32) from rfl), (show putE.getD 25 0 = (0 : Int32) from rfl), (show ordE.getD 25 0 = (25 : Int32) from rfl), (show numE.getD 25 0 = (25 : Int32) from rfl), (show Int32.toNatClampNeg 25 = 25 from rfl), (show swE.getD 25 0 = (13 : Int32) from rfl), (vpT 25 (by decide)), nar0, nar1, true_implies, false_implies, not_true_eq_false, not_false_eq_true, and_true, true_and]
  refine c_nd1 h k (fun c r hd k => ?_)
  have hL : A.ds.length = r.length + 1 := by rw [hd]; rfl
  have e0 : A.ds.getD 0 0 = c := by rw [hd]; rfl
  refine c_from (i := 0) h (by decide) ?_
  (try rw [e0])
  refine c_risFull h ?_
  by_cases hc : A.rs.length < 24
  · rw [if_pos hc] at k
    rw [decide_eq_false (by omega)]
    refine ⟨fun _ => ?_, fun z => absurd rfl z⟩
    simp (config := {decide := true}) only [en_iff hG, en_c hG, wp_En_ordinal, wq_Ma_perform_311, wp_Ma_perform, wq_Bi_isCalculating_18, wp_Bi_isCalculating, wq_Ma_calculate_233, wq_Ma_calculate_220, wq_Ma_calculate_206, wq_Ma_calculate_183, wq_Ma_calculate_171, wp_Ma_calculate, wq_Ma_flag_9, wp_Ma_flag, wq_Ma_arrange_130, wp_Ma_arrange, wq_Ma_performOnMemory_232, wp_Ma_performOnMemory, (show takE.getD 25 0 = (1 : Int32) from rfl), (show putE.getD 25 0 = (0 : Int32) from rfl), (show ordE.getD 25 0 = (25 : Int32) from rfl), (show numE.getD 25 0 = (25 : Int32) from rfl), (show Int32.toNatClampNeg 25 = 25 from rfl), (show swE.getD 25 0 = (13 : Int32) from rfl), (vpT 25 (by decide)), nar0, nar1, true_implies, false_implies, not_true_eq_false, not_false_eq_true, and_true, true_and]
    refine cP (n := 1) (l := r) h (by rw [hd]; rfl) (by omega) rfl rfl e0 (fun S1 h1 => ?_)
    exact c_rpush h1 hc (fun S2 h2 => k _ (RCr.ok h2))
  · rw [if_neg hc] at k
    rw [decide_eq_true (by omega)]
    exact ⟨fun z => absurd z (by decide), fun _ => k _ (RCr.no (by decide) h.toRCw)⟩
theorem cw_26 {g : Gm} {ρ : Nat → Nat × Nat} {A : Ab} {S : StC} {post : Int32 → StC → Prop} (h : RC g ρ A S) (k : ∀ S', RCr g ρ (do26 A) S' → post (do26 A).1 S') : wp_Ma_lack g (fun r S1 => ((r = 0 → wp_Ma_perform g (fun S2 => post r S2) S1 (g.2.2 (100 + 26))) ∧ (¬ r = 0 → post r S1))) S (g.2.2 (100 + 26)) := by
  have hG := h.kG
  have hB := h.kDsB
  simp (config := {decide := true}) only [en_iff hG, en_c hG, wp_En_ordinal, wq_Ma_lack_236, wq_Ma_lack_216, wq_Ma_lack_212, wq_Ma_lack_194, wq_Ma_lack_176, wq_Ma_lack_156, wq_Ma_lack_136, wq_Ma_lack_123, wq_Ma_lack_17, wp_Ma_lack, wq_Ma_hasRoom_97, wq_Ma_hasRoom_69, wp_Ma_hasRoom, (show takE.getD 26 0 = (0 : Int32) from rfl), (show putE.getD 26 0 = (1 : Int32) from rfl), (show ordE.getD 26 0 = (26 : Int32) from rfl), (show numE.getD 26 0 = (26 : Int32) from rfl), (show Int32.toNatClampNeg 26 = 26 from rfl), (show swE.getD 26 0 = (1 : Int32) from rfl), (vpT 26 (by decide)), nar0, nar1, true_implies, false_implies, not_true_eq_false, not_false_eq_true, and_true, true_and]
  refine c_nd0 h ?_
  refine c_from (i := 0) h (by decide) ?_
  have hR := h.kRsB
  match hr : A.rs with
  | [] =>
    have e : S.1 9 = 0 := by rw [h.kRs, hr]; rfl
    rw [do26, hr] at k
    exact ⟨fun _ => k _ (RCr.no (by decide) h.toRCw), fun z => absurd e z⟩
  | x :: l =>
    have hne : ¬ S.1 9 = 0 := by
      rw [h.kRs, hr, l_eq (by rw [hr] at hR; omega) (by decide)]
      simp
    rw [do26, hr] at k
    dsimp only at k
    refine ⟨fun z => absurd z hne, fun _ => ?_⟩
    rw [c_room (n := 0) (m := 1) h (by omega) (by decide)]
    refine ⟨fun z => ?_, fun z => ?_⟩
    · rw [if_neg (by omega)] at k
      exact k _ (RCr.no (by decide) h.toRCw)
    · rw [if_pos (by omega)] at k
      simp (config := {decide := true}) only [en_iff hG, en_c hG, wp_En_ordinal, wq_Ma_perform_311, wp_Ma_perform, wq_Bi_isCalculating_18, wp_Bi_isCalculating, wq_Ma_calculate_233, wq_Ma_calculate_220, wq_Ma_calculate_206, wq_Ma_calculate_183, wq_Ma_calculate_171, wp_Ma_calculate, wq_Ma_flag_9, wp_Ma_flag, wq_Ma_arrange_130, wp_Ma_arrange, wq_Ma_performOnMemory_232, wp_Ma_performOnMemory, (show takE.getD 26 0 = (0 : Int32) from rfl), (show putE.getD 26 0 = (1 : Int32) from rfl), (show ordE.getD 26 0 = (26 : Int32) from rfl), (show numE.getD 26 0 = (26 : Int32) from rfl), (show Int32.toNatClampNeg 26 = 26 from rfl), (show swE.getD 26 0 = (1 : Int32) from rfl), (vpT 26 (by decide)), nar0, nar1, true_implies, false_implies, not_true_eq_false, not_false_eq_true, and_true, true_and]
      refine cP (n := 0) (l := A.ds) h rfl (by omega) rfl rfl rfl (fun S1 h1 => ?_)
      exact c_rpop h1 hr (fun S2 h2 => c_push h2 (show A.ds.length < 24 by omega) (fun S3 h3 => k _ (RCr.ok h3)))
theorem cw_27 {g : Gm} {ρ : Nat → Nat × Nat} {A : Ab} {S : StC} {post : Int32 → StC → Prop} (h : RC g ρ A S) (k : ∀ S', RCr g ρ (do27 A) S' → post (do27 A).1 S') : wp_Ma_lack g (fun r S1 => ((r = 0 → wp_Ma_perform g (fun S2 => post r S2) S1 (g.2.2 (100 + 27))) ∧ (¬ r = 0 → post r S1))) S (g.2.2 (100 + 27)) := by
  have hG := h.kG
  have hB := h.kDsB
  simp (config := {decide := true}) only [en_iff hG, en_c hG, wp_En_ordinal, wq_Ma_lack_236, wq_Ma_lack_216, wq_Ma_lack_212, wq_Ma_lack_194, wq_Ma_lack_176, wq_Ma_lack_156, wq_Ma_lack_136, wq_Ma_lack_123, wq_Ma_lack_17, wp_Ma_lack, wq_Ma_hasRoom_97, wq_Ma_hasRoom_69, wp_Ma_hasRoom, (show takE.getD 27 0 = (0 : Int32) from rfl), (show putE.getD 27 0 = (1 : Int32) from rfl), (show ordE.getD 27 0 = (27 : Int32) from rfl), (show numE.getD 27 0 = (27 : Int32) from rfl), (show Int32.toNatClampNeg 27 = 27 from rfl), (show swE.getD 27 0 = (2 : Int32) from rfl), (vpT 27 (by decide)), nar0, nar1, true_implies, false_implies, not_true_eq_false, not_false_eq_true, and_true, true_and]
  refine c_nd0 h ?_
  refine c_from (i := 0) h (by decide) ?_
  have hR := h.kRsB
  match hr : A.rs with
  | [] =>
    have e : S.1 9 = 0 := by rw [h.kRs, hr]; rfl
    rw [do27, hr] at k
    exact ⟨fun _ => k _ (RCr.no (by decide) h.toRCw), fun z => absurd e z⟩
  | x :: l =>
    have hne : ¬ S.1 9 = 0 := by
      rw [h.kRs, hr, l_eq (by rw [hr] at hR; omega) (by decide)]
      simp
    rw [do27, hr] at k
    dsimp only at k
    refine ⟨fun z => absurd z hne, fun _ => ?_⟩
    rw [c_room (n := 0) (m := 1) h (by omega) (by decide)]
    refine ⟨fun z => ?_, fun z => ?_⟩
    · rw [pushR, if_neg (by omega)] at k
      exact k _ (RCr.no (by decide) h.toRCw)
    · rw [pushR, if_pos (by omega)] at k
      simp (config := {decide := true}) only [en_iff hG, en_c hG, wp_En_ordinal, wq_Ma_perform_311, wp_Ma_perform, wq_Bi_isCalculating_18, wp_Bi_isCalculating, wq_Ma_calculate_233, wq_Ma_calculate_220, wq_Ma_calculate_206, wq_Ma_calculate_183, wq_Ma_calculate_171, wp_Ma_calculate, wq_Ma_flag_9, wp_Ma_flag, wq_Ma_arrange_130, wp_Ma_arrange, wq_Ma_performOnMemory_232, wp_Ma_performOnMemory, (show takE.getD 27 0 = (0 : Int32) from rfl), (show putE.getD 27 0 = (1 : Int32) from rfl), (show ordE.getD 27 0 = (27 : Int32) from rfl), (show numE.getD 27 0 = (27 : Int32) from rfl), (show Int32.toNatClampNeg 27 = 27 from rfl), (show swE.getD 27 0 = (2 : Int32) from rfl), (vpT 27 (by decide)), nar0, nar1, true_implies, false_implies, not_true_eq_false, not_false_eq_true, and_true, true_and]
      refine cP (n := 0) (l := A.ds) h rfl (by omega) rfl rfl rfl (fun S1 h1 => ?_)
      exact c_rtop h1 hr (c_push h1 (show A.ds.length < 24 by omega) (fun S3 h3 => k _ (RCr.ok h3)))
theorem cw_28 {g : Gm} {ρ : Nat → Nat × Nat} {A : Ab} {S : StC} {post : Int32 → StC → Prop} (h : RC g ρ A S) (k : ∀ S', RCr g ρ (do28 A) S' → post (do28 A).1 S') : wp_Ma_lack g (fun r S1 => ((r = 0 → wp_Ma_perform g (fun S2 => post r S2) S1 (g.2.2 (100 + 28))) ∧ (¬ r = 0 → post r S1))) S (g.2.2 (100 + 28)) := by
  have hG := h.kG
  have hB := h.kDsB
  simp (config := {decide := true}) only [en_iff hG, en_c hG, wp_En_ordinal, wq_Ma_lack_236, wq_Ma_lack_216, wq_Ma_lack_212, wq_Ma_lack_194, wq_Ma_lack_176, wq_Ma_lack_156, wq_Ma_lack_136, wq_Ma_lack_123, wq_Ma_lack_17, wp_Ma_lack, wq_Ma_hasRoom_97, wq_Ma_hasRoom_69, wp_Ma_hasRoom, (show takE.getD 28 0 = (0 : Int32) from rfl), (show putE.getD 28 0 = (1 : Int32) from rfl), (show ordE.getD 28 0 = (28 : Int32) from rfl), (show numE.getD 28 0 = (28 : Int32) from rfl), (show Int32.toNatClampNeg 28 = 28 from rfl), (show swE.getD 28 0 = (9 : Int32) from rfl), (vpT 28 (by decide)), nar0, nar1, true_implies, false_implies, not_true_eq_false, not_false_eq_true, and_true, true_and]
  refine c_nd0 h ?_
  refine c_from (i := 0) h (by decide) ?_
  have k : ∀ S', RCr g ρ (lpR A 0) S' → post (lpR A 0).1 S' := k
  refine c_openLoops h ?_
  match hc : A.cs with
  | [] =>
    rw [lpR, hc] at k
    exact ⟨fun z => absurd z (by decide), fun _ => k _ (RCr.no (by decide) h.toRCw)⟩
  | fr :: l =>
    have hs := h.kCsS
    rw [hc] at hs
    obtain ⟨⟨a, fl, fc, e0, q0, s1, s2, hl⟩, -⟩ := hs
    rw [lpR, hc] at k
    dsimp only at k ⊢
    rw [r_le (by decide) (by omega)]
    match hp : fr.lp[0]? with
    | none =>
      have hp1 := List.getElem?_eq_none_iff.mp hp
      rw [hp] at k
      exact ⟨fun z => absurd z (by omega), fun _ => k _ (RCr.no (by decide) h.toRCw)⟩
    | some p =>
      have hp1 := get_lt hp
      rw [hp] at k
      have k : ∀ S', RCr g ρ (pushR A p.1) S' → post (pushR A p.1).1 S' := k
      refine ⟨fun _ => ?_, fun z => absurd (by omega) z⟩
      rw [c_room (n := 0) (m := 1) h (by omega) (by decide)]
      refine ⟨fun z => ?_, fun z => ?_⟩
      · rw [pushR, if_neg (by omega)] at k
        exact k _ (RCr.no (by decide) h.toRCw)
      · rw [pushR, if_pos (by omega)] at k
        simp (config := {decide := true}) only [en_iff hG, en_c hG, wp_En_ordinal, wq_Ma_perform_311, wp_Ma_perform, wq_Bi_isCalculating_18, wp_Bi_isCalculating, wq_Ma_calculate_233, wq_Ma_calculate_220, wq_Ma_calculate_206, wq_Ma_calculate_183, wq_Ma_calculate_171, wp_Ma_calculate, wq_Ma_flag_9, wp_Ma_flag, wq_Ma_arrange_130, wp_Ma_arrange, wq_Ma_performOnMemory_232, wp_Ma_performOnMemory, (show takE.getD 28 0 = (0 : Int32) from rfl), (show putE.getD 28 0 = (1 : Int32) from rfl), (show ordE.getD 28 0 = (28 : Int32) from rfl), (show numE.getD 28 0 = (28 : Int32) from rfl), (show Int32.toNatClampNeg 28 = 28 from rfl), (show swE.getD 28 0 = (9 : Int32) from rfl), (vpT 28 (by decide)), nar0, nar1, true_implies, false_implies, not_true_eq_false, not_false_eq_true, and_true, true_and]
        refine cP (n := 0) (l := A.ds) h rfl (by omega) rfl rfl rfl (fun S1 h1 => ?_)
        exact c_loopCount (i := 0) h1 hc hp (c_push h1 (show A.ds.length < 24 by omega) (fun S2 h2 => k _ (RCr.ok h2)))
theorem cw_29 {g : Gm} {ρ : Nat → Nat × Nat} {A : Ab} {S : StC} {post : Int32 → StC → Prop} (h : RC g ρ A S) (k : ∀ S', RCr g ρ (do29 A) S' → post (do29 A).1 S') : wp_Ma_lack g (fun r S1 => ((r = 0 → wp_Ma_perform g (fun S2 => post r S2) S1 (g.2.2 (100 + 29))) ∧ (¬ r = 0 → post r S1))) S (g.2.2 (100 + 29)) := by
  have hG := h.kG
  have hB := h.kDsB
  simp (config := {decide := true}) only [en_iff hG, en_c hG, wp_En_ordinal, wq_Ma_lack_236, wq_Ma_lack_216, wq_Ma_lack_212, wq_Ma_lack_194, wq_Ma_lack_176, wq_Ma_lack_156, wq_Ma_lack_136, wq_Ma_lack_123, wq_Ma_lack_17, wp_Ma_lack, wq_Ma_hasRoom_97, wq_Ma_hasRoom_69, wp_Ma_hasRoom, (show takE.getD 29 0 = (0 : Int32) from rfl), (show putE.getD 29 0 = (1 : Int32) from rfl), (show ordE.getD 29 0 = (29 : Int32) from rfl), (show numE.getD 29 0 = (29 : Int32) from rfl), (show Int32.toNatClampNeg 29 = 29 from rfl), (show swE.getD 29 0 = (10 : Int32) from rfl), (vpT 29 (by decide)), nar0, nar1, true_implies, false_implies, not_true_eq_false, not_false_eq_true, and_true, true_and]
  refine c_nd0 h ?_
  refine c_from (i := 0) h (by decide) ?_
  have k : ∀ S', RCr g ρ (lpR A 1) S' → post (lpR A 1).1 S' := k
  refine c_openLoops h ?_
  match hc : A.cs with
  | [] =>
    rw [lpR, hc] at k
    exact ⟨fun z => absurd z (by decide), fun _ => k _ (RCr.no (by decide) h.toRCw)⟩
  | fr :: l =>
    have hs := h.kCsS
    rw [hc] at hs
    obtain ⟨⟨a, fl, fc, e0, q0, s1, s2, hl⟩, -⟩ := hs
    rw [lpR, hc] at k
    dsimp only at k ⊢
    rw [r_le (by decide) (by omega)]
    match hp : fr.lp[1]? with
    | none =>
      have hp1 := List.getElem?_eq_none_iff.mp hp
      rw [hp] at k
      exact ⟨fun z => absurd z (by omega), fun _ => k _ (RCr.no (by decide) h.toRCw)⟩
    | some p =>
      have hp1 := get_lt hp
      rw [hp] at k
      have k : ∀ S', RCr g ρ (pushR A p.1) S' → post (pushR A p.1).1 S' := k
      refine ⟨fun _ => ?_, fun z => absurd (by omega) z⟩
      rw [c_room (n := 0) (m := 1) h (by omega) (by decide)]
      refine ⟨fun z => ?_, fun z => ?_⟩
      · rw [pushR, if_neg (by omega)] at k
        exact k _ (RCr.no (by decide) h.toRCw)
      · rw [pushR, if_pos (by omega)] at k
        simp (config := {decide := true}) only [en_iff hG, en_c hG, wp_En_ordinal, wq_Ma_perform_311, wp_Ma_perform, wq_Bi_isCalculating_18, wp_Bi_isCalculating, wq_Ma_calculate_233, wq_Ma_calculate_220, wq_Ma_calculate_206, wq_Ma_calculate_183, wq_Ma_calculate_171, wp_Ma_calculate, wq_Ma_flag_9, wp_Ma_flag, wq_Ma_arrange_130, wp_Ma_arrange, wq_Ma_performOnMemory_232, wp_Ma_performOnMemory, (show takE.getD 29 0 = (0 : Int32) from rfl), (show putE.getD 29 0 = (1 : Int32) from rfl), (show ordE.getD 29 0 = (29 : Int32) from rfl), (show numE.getD 29 0 = (29 : Int32) from rfl), (show Int32.toNatClampNeg 29 = 29 from rfl), (show swE.getD 29 0 = (10 : Int32) from rfl), (vpT 29 (by decide)), nar0, nar1, true_implies, false_implies, not_true_eq_false, not_false_eq_true, and_true, true_and]
        refine cP (n := 0) (l := A.ds) h rfl (by omega) rfl rfl rfl (fun S1 h1 => ?_)
        exact c_loopCount (i := 1) h1 hc hp (c_push h1 (show A.ds.length < 24 by omega) (fun S2 h2 => k _ (RCr.ok h2)))
theorem cw_30 {g : Gm} {ρ : Nat → Nat × Nat} {A : Ab} {S : StC} {post : Int32 → StC → Prop} (h : RC g ρ A S) (k : ∀ S', RCr g ρ (do30 A) S' → post (do30 A).1 S') : wp_Ma_lack g (fun r S1 => ((r = 0 → wp_Ma_perform g (fun S2 => post r S2) S1 (g.2.2 (100 + 30))) ∧ (¬ r = 0 → post r S1))) S (g.2.2 (100 + 30)) := by
  have hG := h.kG
  have hB := h.kDsB
  simp (config := {decide := true}) only [en_iff hG, en_c hG, wp_En_ordinal, wq_Ma_lack_236, wq_Ma_lack_216, wq_Ma_lack_212, wq_Ma_lack_194, wq_Ma_lack_176, wq_Ma_lack_156, wq_Ma_lack_136, wq_Ma_lack_123, wq_Ma_lack_17, wp_Ma_lack, wq_Ma_hasRoom_97, wq_Ma_hasRoom_69, wp_Ma_hasRoom, (show takE.getD 30 0 = (0 : Int32) from rfl), (show putE.getD 30 0 = (0 : Int32) from rfl), (show ordE.getD 30 0 = (30 : Int32) from rfl), (show numE.getD 30 0 = (30 : Int32) from rfl), (show Int32.toNatClampNeg 30 = 30 from rfl), (show swE.getD 30 0 = (21 : Int32) from rfl), (vpT 30 (by decide)), nar0, nar1, true_implies, false_implies, not_true_eq_false, not_false_eq_true, and_true, true_and]
  have hC := h.kCsB
  match hc : A.cs with
  | [] =>
    have e : S.1 5 = 0 := by rw [h.kCs, hc]; rfl
    rw [do30, hc] at k
    exact ⟨fun _ => k _ (RCr.no (by decide) h.toRCw), fun z => absurd e z⟩
  | fr :: l =>
    obtain ⟨d1, d2, d3, d4, d5⟩ := c_depth h hc
    have hs := h.kCsS
    rw [hc] at hs
    rw [do30, hc] at k
    refine ⟨fun z => absurd z d1, fun _ => c_nd0 h (c_from (i := 0) h (by decide) ?_)⟩
    rw [c_room (n := 0) (m := 0) h (by omega) (by decide)]
    refine ⟨fun z => absurd z (by omega), fun _ => ?_⟩
    simp (config := {decide := true}) only [en_iff hG, en_c hG, wp_En_ordinal, wq_Ma_perform_311, wp_Ma_perform, wq_Bi_isCalculating_18, wp_Bi_isCalculating, wq_Ma_calculate_233, wq_Ma_calculate_220, wq_Ma_calculate_206, wq_Ma_calculate_183, wq_Ma_calculate_171, wp_Ma_calculate, wq_Ma_flag_9, wp_Ma_flag, wq_Ma_arrange_130, wp_Ma_arrange, wq_Ma_performOnMemory_232, wp_Ma_performOnMemory, (show takE.getD 30 0 = (0 : Int32) from rfl), (show putE.getD 30 0 = (0 : Int32) from rfl), (show ordE.getD 30 0 = (30 : Int32) from rfl), (show numE.getD 30 0 = (30 : Int32) from rfl), (show Int32.toNatClampNeg 30 = 30 from rfl), (show swE.getD 30 0 = (21 : Int32) from rfl), (vpT 30 (by decide)), nar0, nar1, true_implies, false_implies, not_true_eq_false, not_false_eq_true, and_true, true_and]
    refine cP (n := 0) (l := A.ds) h rfl (by omega) rfl rfl rfl (fun S1 h1 => ?_)
    refine k _ (RCr.ok (RC.mk (h1.kHere) (h1.kHereB) (h1.kMem) (h1.kPr) (h1.kPrB) (h1.kPbB) (h1.kOut) (h1.kFu) (h1.kHas) (h1.kHasB) (h1.kUp) (h1.kUpB) (h1.kTold) (h1.kToldB) (h1.kToldH) (h1.kMade) (h1.kMadeB) (h1.kWs) (h1.kRows) (h1.kLay) (h1.kPos) (h1.kTk) (h1.kTx) (h1.kBt) (h1.kG) (h1.kDs) (h1.kDsB) (h1.kDsS) (h1.kRs) (h1.kRsB) (h1.kRsS) (?_) (?_) (?_) (h1.kDr0) (h1.kDr) (h1.kOp) (h1.kOpB) (h1.kOpK) (h1.kOpA)))
    · have e : S1.1 5 = Int32.ofNat A.cs.length := h1.kCs
      show S1.1 5 - 1 = Int32.ofNat l.length
      rw [e, hc]
      exact n_sub (a := l.length + 1) (b := 1) (by omega)
    · show l.length ≤ 16
      omega
    · have e : FrC g (S1.2.2.2.2.1 0) (S1.2.2.2.2.1 1) S1.2.2.2.2.2.1 S1.2.2.2.2.2.2 ρ A.cs := h1.kCsS
      rw [hc] at e
      exact e.2
theorem cw_37 {g : Gm} {ρ : Nat → Nat × Nat} {A : Ab} {S : StC} {post : Int32 → StC → Prop} (h : RC g ρ A S) (k : ∀ S', RCr g ρ (do37 A) S' → post (do37 A).1 S') : wp_Ma_lack g (fun r S1 => ((r = 0 → wp_Ma_perform g (fun S2 => post r S2) S1 (g.2.2 (100 + 37))) ∧ (¬ r = 0 → post r S1))) S (g.2.2 (100 + 37)) := by
  have hG := h.kG
  have hB := h.kDsB
  simp (config := {decide := true}) only [en_iff hG, en_c hG, wp_En_ordinal, wq_Ma_lack_236, wq_Ma_lack_216, wq_Ma_lack_212, wq_Ma_lack_194, wq_Ma_lack_176, wq_Ma_lack_156, wq_Ma_lack_136, wq_Ma_lack_123, wq_Ma_lack_17, wp_Ma_lack, wq_Ma_hasRoom_97, wq_Ma_hasRoom_69, wp_Ma_hasRoom, (show takE.getD 37 0 = (1 : Int32) from rfl), (show putE.getD 37 0 = (1 : Int32) from rfl), (show ordE.getD 37 0 = (37 : Int32) from rfl), (show numE.getD 37 0 = (37 : Int32) from rfl), (show Int32.toNatClampNeg 37 = 37 from rfl), (show swE.getD 37 0 = (8 : Int32) from rfl), (vpT 37 (by decide)), nar0, nar1, true_implies, false_implies, not_true_eq_false, not_false_eq_true, and_true, true_and]
  refine c_nd1 h k (fun c r hd k => ?_)
  have hL : A.ds.length = r.length + 1 := by rw [hd]; rfl
  have e0 : A.ds.getD 0 0 = c := by rw [hd]; rfl
  refine c_from (i := 0) h (by decide) ?_
  (try rw [e0])
  refine c_hasB ?_
  by_cases hc : inB c
  · rw [if_pos hc] at k
    rw [decide_eq_true hc]
    have a0 := i32_nlt hc.1
    have a1 := i32_nlt hc.2
    have k0 : (0 : Int32).toInt = 0 := rfl
    have k3 : (3 : Int32).toInt = 3 := rfl
    have ec : Int32.ofNat c.toNatClampNeg = c := of_nn (by omega)
    have hn : c.toNatClampNeg < 4 := by
      show c.toInt.toNat < 4
      omega
    refine ⟨fun z => absurd z (by decide), fun _ => ?_⟩
    rw [c_room (n := 1) (m := 1) h (by omega) (by decide)]
    refine ⟨fun y => absurd y (by omega), fun _ => ?_⟩
    simp (config := {decide := true}) only [en_iff hG, en_c hG, wp_En_ordinal, wq_Ma_perform_311, wp_Ma_perform, wq_Bi_isCalculating_18, wp_Bi_isCalculating, wq_Ma_calculate_233, wq_Ma_calculate_220, wq_Ma_calculate_206, wq_Ma_calculate_183, wq_Ma_calculate_171, wp_Ma_calculate, wq_Ma_flag_9, wp_Ma_flag, wq_Ma_arrange_130, wp_Ma_arrange, wq_Ma_performOnMemory_232, wp_Ma_performOnMemory, (show takE.getD 37 0 = (1 : Int32) from rfl), (show putE.getD 37 0 = (1 : Int32) from rfl), (show ordE.getD 37 0 = (37 : Int32) from rfl), (show numE.getD 37 0 = (37 : Int32) from rfl), (show Int32.toNatClampNeg 37 = 37 from rfl), (show swE.getD 37 0 = (8 : Int32) from rfl), (vpT 37 (by decide)), nar0, nar1, true_implies, false_implies, not_true_eq_false, not_false_eq_true, and_true, true_and]
    refine cP (n := 1) (l := r) h (by rw [hd]; rfl) (by omega) rfl rfl e0 (fun S1 h1 => ?_)
    rw [← ec]
    refine c_tell h1 hn (fun S2 h2 => ?_)
    rw [getB_ds] at h2
    exact c_push h2 (show r.length < 24 by omega) (fun S3 h3 => k _ (RCr.ok h3))
  · rw [if_neg hc] at k
    rw [decide_eq_false hc]
    exact ⟨fun _ => k _ (RCr.no (by decide) h.toRCw), fun z => absurd rfl z⟩
theorem cw_38 {g : Gm} {ρ : Nat → Nat × Nat} {A : Ab} {S : StC} {post : Int32 → StC → Prop} (h : RC g ρ A S) (k : ∀ S', RCr g ρ (do38 A) S' → post (do38 A).1 S') : wp_Ma_lack g (fun r S1 => ((r = 0 → wp_Ma_perform g (fun S2 => post r S2) S1 (g.2.2 (100 + 38))) ∧ (¬ r = 0 → post r S1))) S (g.2.2 (100 + 38)) := by
  have hG := h.kG
  have hB := h.kDsB
  simp (config := {decide := true}) only [en_iff hG, en_c hG, wp_En_ordinal, wq_Ma_lack_236, wq_Ma_lack_216, wq_Ma_lack_212, wq_Ma_lack_194, wq_Ma_lack_176, wq_Ma_lack_156, wq_Ma_lack_136, wq_Ma_lack_123, wq_Ma_lack_17, wp_Ma_lack, wq_Ma_hasRoom_97, wq_Ma_hasRoom_69, wp_Ma_hasRoom, (show takE.getD 38 0 = (0 : Int32) from rfl), (show putE.getD 38 0 = (0 : Int32) from rfl), (show ordE.getD 38 0 = (38 : Int32) from rfl), (show numE.getD 38 0 = (38 : Int32) from rfl), (show Int32.toNatClampNeg 38 = 38 from rfl), (show swE.getD 38 0 = (23 : Int32) from rfl), (vpT 38 (by decide)), nar0, nar1, true_implies, false_implies, not_true_eq_false, not_false_eq_true, and_true, true_and]
  refine c_nd0 h ?_
  refine c_from (i := 0) h (by decide) ?_
  rw [c_room (n := 0) (m := 0) h (by omega) (by decide)]
  refine ⟨fun z => absurd z (by omega), fun _ => ?_⟩
  simp (config := {decide := true}) only [en_iff hG, en_c hG, wp_En_ordinal, wq_Ma_perform_311, wp_Ma_perform, wq_Bi_isCalculating_18, wp_Bi_isCalculating, wq_Ma_calculate_233, wq_Ma_calculate_220, wq_Ma_calculate_206, wq_Ma_calculate_183, wq_Ma_calculate_171, wp_Ma_calculate, wq_Ma_flag_9, wp_Ma_flag, wq_Ma_arrange_130, wp_Ma_arrange, wq_Ma_performOnMemory_232, wp_Ma_performOnMemory, (show takE.getD 38 0 = (0 : Int32) from rfl), (show putE.getD 38 0 = (0 : Int32) from rfl), (show ordE.getD 38 0 = (38 : Int32) from rfl), (show numE.getD 38 0 = (38 : Int32) from rfl), (show Int32.toNatClampNeg 38 = 38 from rfl), (show swE.getD 38 0 = (23 : Int32) from rfl), (vpT 38 (by decide)), nar0, nar1, true_implies, false_implies, not_true_eq_false, not_false_eq_true, and_true, true_and]
  refine cP (n := 0) (l := A.ds) h rfl (by omega) rfl rfl rfl (fun S1 h1 => ?_)
  rw [ds_self] at h1
  exact c_update h1 (fun S2 h2 => k _ (RCr.ok h2))
theorem cw_39 {g : Gm} {ρ : Nat → Nat × Nat} {A : Ab} {S : StC} {post : Int32 → StC → Prop} (h : RC g ρ A S) (k : ∀ S', RCr g ρ (do39 A) S' → post (do39 A).1 S') : wp_Ma_lack g (fun r S1 => ((r = 0 → wp_Ma_perform g (fun S2 => post r S2) S1 (g.2.2 (100 + 39))) ∧ (¬ r = 0 → post r S1))) S (g.2.2 (100 + 39)) := by
  have hG := h.kG
  have hB := h.kDsB
  simp (config := {decide := true}) only [en_iff hG, en_c hG, wp_En_ordinal, wq_Ma_lack_236, wq_Ma_lack_216, wq_Ma_lack_212, wq_Ma_lack_194, wq_Ma_lack_176, wq_Ma_lack_156, wq_Ma_lack_136, wq_Ma_lack_123, wq_Ma_lack_17, wp_Ma_lack, wq_Ma_hasRoom_97, wq_Ma_hasRoom_69, wp_Ma_hasRoom, (show takE.getD 39 0 = (0 : Int32) from rfl), (show putE.getD 39 0 = (0 : Int32) from rfl), (show ordE.getD 39 0 = (39 : Int32) from rfl), (show numE.getD 39 0 = (39 : Int32) from rfl), (show Int32.toNatClampNeg 39 = 39 from rfl), (show swE.getD 39 0 = (24 : Int32) from rfl), (vpT 39 (by decide)), nar0, nar1, true_implies, false_implies, not_true_eq_false, not_false_eq_true, and_true, true_and]
  refine c_nd0 h ?_
  refine c_from (i := 0) h (by decide) ?_
  rw [c_room (n := 0) (m := 0) h (by omega) (by decide)]
  refine ⟨fun z => absurd z (by omega), fun _ => ?_⟩
  simp (config := {decide := true}) only [en_iff hG, en_c hG, wp_En_ordinal, wq_Ma_perform_311, wp_Ma_perform, wq_Bi_isCalculating_18, wp_Bi_isCalculating, wq_Ma_calculate_233, wq_Ma_calculate_220, wq_Ma_calculate_206, wq_Ma_calculate_183, wq_Ma_calculate_171, wp_Ma_calculate, wq_Ma_flag_9, wp_Ma_flag, wq_Ma_arrange_130, wp_Ma_arrange, wq_Ma_performOnMemory_232, wp_Ma_performOnMemory, (show takE.getD 39 0 = (0 : Int32) from rfl), (show putE.getD 39 0 = (0 : Int32) from rfl), (show ordE.getD 39 0 = (39 : Int32) from rfl), (show numE.getD 39 0 = (39 : Int32) from rfl), (show Int32.toNatClampNeg 39 = 39 from rfl), (show swE.getD 39 0 = (24 : Int32) from rfl), (vpT 39 (by decide)), nar0, nar1, true_implies, false_implies, not_true_eq_false, not_false_eq_true, and_true, true_and]
  refine cP (n := 0) (l := A.ds) h rfl (by omega) rfl rfl rfl (fun S1 h1 => ?_)
  rw [ds_self] at h1
  exact c_flush h1 (fun S2 h2 => k _ (RCr.ok h2))
