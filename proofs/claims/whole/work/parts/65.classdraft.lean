def Xw (m : Nat) (r : Nat × Nat) : Prop := (r.1 = 4 ∨ r.1 = 5 ∨ r.1 = 6) ∧ r.2 = m
theorem Xw_no {c k n : Nat} (h1 : ¬ n = 4) (h2 : ¬ n = 5) (h3 : ¬ n = 6) : ¬ Xw c (n, k) := by
  intro z
  rcases z.1 with q | q | q
  · exact h1 q
  · exact h2 q
  · exact h3 q
theorem Xw_ne {c c' n : Nat} (h : c' ≠ c) : ¬ Xw c (n, c') := fun z => h z.2
theorem RC.draft {g : Gm} {ρ : Nat → Nat × Nat} {A : Ab} {S : StC} {F' : Nat → va_E} {w w' : Wd} {a : Nat} (h : RC g ρ A S) (hd : A.dr = some w) (hc : Chg ρ (Xw A.ws.length) S.2.2.2.2.2.2 F') (ea : S.2.2.2.1 0 = some a) (hw : WordAt g S.2.2.2.2.2.1 F' ρ A.ws.length a w') : RC g ρ (Ab.set_dr A (some w')) (S.1, S.2.1, S.2.2.1, S.2.2.2.1, S.2.2.2.2.1, S.2.2.2.2.2.1, F') := by
  have hne : A.dr ≠ none := by rw [hd]; exact fun z => by cases z
  have n1 : ∀ k, ¬ Xw A.ws.length (1, k) := fun k => Xw_no (by decide) (by decide) (by decide)
  have n2 : ∀ k, ¬ Xw A.ws.length (2, k) := fun k => Xw_no (by decide) (by decide) (by decide)
  have n3 : ∀ k, ¬ Xw A.ws.length (3, k) := fun k => Xw_no (by decide) (by decide) (by decide)
  have n7 : ∀ k, ¬ Xw A.ws.length (7, k) := fun k => Xw_no (by decide) (by decide) (by decide)
  have n8 : ∀ k, ¬ Xw A.ws.length (8, k) := fun k => Xw_no (by decide) (by decide) (by decide)
  have n9 : ∀ k, ¬ Xw A.ws.length (9, k) := fun k => Xw_no (by decide) (by decide) (by decide)
  have n10 : ∀ k, ¬ Xw A.ws.length (10, k) := fun k => Xw_no (by decide) (by decide) (by decide)
  refine (RC.mk (h.kHere) (h.kHereB) (h.kMem) (h.kPr) (h.kPrB) (h.kPbB) (h.kOut) (h.kFu) (h.kHas) (h.kHasB) (h.kUp) (h.kUpB) (h.kTold) (h.kToldB) (h.kToldH) (h.kMade) (h.kMadeB) (fun k v hk => ?_) (fun b hb => (h.kRows b hb).chg hc (n7 b)) (fun c hcc => ?_) (h.kPos) (h.kTk) (h.kTx.chg hc (n8 0) (n9 0)) (h.kBt.chg hc (n10 0)) (h.kG) (h.kDs) (h.kDsB) (h.kDsS) (h.kRs) (h.kRsB) (h.kRsS) (h.kCs) (h.kCsB) (h.kCsS.chg hc (fun c _ => ⟨n1 c, n2 c, n3 c⟩)) (fun z => (by cases z)) (fun v hv => ?_) (fun _ => h.kOp hne) (h.kOpB) (fun _ => h.kOpK hne) (fun _ => h.kOpA hne))
  · have hkl : k < A.ws.length := get_lt hk
    obtain ⟨a', e, q⟩ := h.kWs k v hk
    exact ⟨a', e, q.chg hc (Xw_ne (by omega)) (Xw_ne (by omega)) (Xw_ne (by omega)) (n8 0) (n9 0)⟩
  · obtain ⟨w, nx, lo, fl, fc, q⟩ := h.kLay c hcc
    exact ⟨w, nx, lo, fl, fc, q.chg hc (n1 c) (n2 c) (n3 c)⟩
  · cases hv
    exact ⟨(h.kDr w hd).1, a, ea, hw⟩
theorem c_wadd {g : Gm} {ρ : Nat → Nat × Nat} {A : Ab} {S : StC} {post : StC → Prop} {w : Wd} {a kd : Nat} {num : Int32} (h : RC g ρ A S) (hd : A.dr = some w) (ea : S.2.2.2.1 0 = some a) (hl : w.it.length < 60) (k : ∀ S', RC g ρ (Ab.set_dr A (some (addIt w kd num))) S' → post S') : wp_Mw_add g post S a (Int32.ofNat (kC kd)) num := by
  obtain ⟨hm, a', ea', s, x, y, fk, fv, p1, p2, p3, p4, p5, p6⟩ := h.kDr w hd
  have e : a' = a := by
    rw [ea] at ea'
    cases ea'
    rfl
  subst e
  have eN : (Int32.ofNat w.it.length).toNatClampNeg = w.it.length := n_cl (by omega)
  have hin : vp_in (Int32.ofNat w.it.length) 60 := n_in hl (by omega)
  have u1 := p1.ne p2 (e2 := .inl (g.2.1 0, 60, .inl (upd fk w.it.length (Int32.ofNat (kC kd))))) (n_pair (by decide))
  have u2 := p2.put (e' := .inl (g.2.1 0, 60, .inl (upd fk w.it.length (Int32.ofNat (kC kd)))))
  have u3 := p3.ne p2 (e2 := .inl (g.2.1 0, 60, .inl (upd fk w.it.length (Int32.ofNat (kC kd))))) (n_pair (by decide))
  have v1 := u1.ne u3 (e2 := .inl (g.2.1 0, 60, .inl (upd fv w.it.length num))) (n_pair (by decide))
  have v2 := u2.ne u3 (e2 := .inl (g.2.1 0, 60, .inl (upd fv w.it.length num))) (n_pair (by decide))
  have v3 := u3.put (e' := .inl (g.2.1 0, 60, .inl (upd fv w.it.length num)))
  have w1' := v1.put (e' := .inr (11, [.ref s, .ref x, .ref y, .int (Int32.ofNat (w.it.length + 1)), .int (bE w.im)]))
  have w2' := v2.ne v1 (e2 := .inr (11, [.ref s, .ref x, .ref y, .int (Int32.ofNat (w.it.length + 1)), .int (bE w.im)])) (n_pair (by decide))
  have w3' := v3.ne v1 (e2 := .inr (11, [.ref s, .ref x, .ref y, .int (Int32.ofNat (w.it.length + 1)), .int (bE w.im)])) (n_pair (by decide))
  have X1 : Xw A.ws.length (ρ a') := by rw [p1.2.1]; exact ⟨Or.inl rfl, rfl⟩
  have X2 : Xw A.ws.length (ρ x) := by rw [p2.2.1]; exact ⟨Or.inr (Or.inl rfl), rfl⟩
  have X3 : Xw A.ws.length (ρ y) := by rw [p3.2.1]; exact ⟨Or.inr (Or.inr rfl), rfl⟩
  have hCh := Chg.put (e := .inr (11, [.ref s, .ref x, .ref y, .int (Int32.ofNat (w.it.length + 1)), .int (bE w.im)])) (Chg.put (e := .inl (g.2.1 0, 60, .inl (upd fv w.it.length num))) (Chg.put (e := .inl (g.2.1 0, 60, .inl (upd fk w.it.length (Int32.ofNat (kC kd))))) (Chg.refl ρ (Xw A.ws.length) S.2.2.2.2.2.2) X2) X3) X1
  unfold wp_Mw_add wq_Mw_add_39
  refine ⟨_, _, p1.1, p1.2.2, rfl, fun z => ?_, fun _ => ⟨_, _, p1.1, p1.2.2, rfl, _, _, p1.1, p1.2.2, rfl, 60, fk, p2.1, p2.2.2, hin, ?_⟩⟩
  · rw [r_le (by decide) (by omega)] at z
    omega
  rw [eN]
  refine ⟨_, _, u1.1, u1.2.2, rfl, _, _, u1.1, u1.2.2, rfl, 60, fv, u3.1, u3.2.2, hin, ?_⟩
  rw [eN]
  refine ⟨_, _, v1.1, v1.2.2, rfl, _, v1.1, v1.2.2, (show 3 < 5 by decide), ?_⟩
  rw [of_succ]
  refine k _ (h.draft hd hCh ea ⟨s, x, y, _, _, ?_, w2', w3', p4.chg hCh (Xw_no (by decide) (by decide) (by decide)) (Xw_no (by decide) (by decide) (by decide)), ?_, fun i p hp => ?_⟩)
  · rw [add_len]
    exact w1'
  · rw [add_len]
    omega
  · have hi := get_lt hp
    rw [add_len] at hi
    by_cases e : i = w.it.length
    · subst e
      rw [add_it1] at hp
      cases hp
      exact ⟨upd_at _ _ _, upd_at _ _ _⟩
    · rw [add_it (by omega)] at hp
      rw [upd_ne _ _ e, upd_ne _ _ e]
      exact p6 i p hp
theorem c_waim {g : Gm} {ρ : Nat → Nat × Nat} {A : Ab} {S : StC} {post : StC → Prop} {w : Wd} {a q : Nat} (h : RC g ρ A S) (hd : A.dr = some w) (ea : S.2.2.2.1 0 = some a) (hq : q < w.it.length) (k : ∀ S', RC g ρ (Ab.set_dr A (some (aimW w q))) S' → post S') : wp_Mw_aim g post S a (Int32.ofNat q) := by
  obtain ⟨hm, a', ea', s, x, y, fk, fv, p1, p2, p3, p4, p5, p6⟩ := h.kDr w hd
  have e : a' = a := by
    rw [ea] at ea'
    cases ea'
    rfl
  subst e
  have eN : (Int32.ofNat q).toNatClampNeg = q := n_cl (by omega)
  have u1 := p1.ne p3 (e2 := .inl (g.2.1 0, 60, .inl (upd fv q (Int32.ofNat w.it.length)))) (n_pair (by decide))
  have u2 := p2.ne p3 (e2 := .inl (g.2.1 0, 60, .inl (upd fv q (Int32.ofNat w.it.length)))) (n_pair (by decide))
  have u3 := p3.put (e' := .inl (g.2.1 0, 60, .inl (upd fv q (Int32.ofNat w.it.length))))
  have X3 : Xw A.ws.length (ρ y) := by rw [p3.2.1]; exact ⟨Or.inr (Or.inr rfl), rfl⟩
  have hCh := Chg.put (e := .inl (g.2.1 0, 60, .inl (upd fv q (Int32.ofNat w.it.length)))) (Chg.refl ρ (Xw A.ws.length) S.2.2.2.2.2.2) X3
  unfold wp_Mw_aim wq_Mw_aim_22
  rw [l_lt (by omega) (by decide)]
  refine ⟨fun z => by omega, fun _ => ⟨_, _, p1.1, p1.2.2, rfl, fun z => ?_, fun _ => ⟨_, _, p1.1, p1.2.2, rfl, _, _, p1.1, p1.2.2, rfl, 60, fv, p3.1, p3.2.2, n_in (by omega) (by omega), ?_⟩⟩⟩
  · rw [n_le (by omega) (by omega)] at z
    omega
  rw [eN]
  refine k _ (h.draft hd hCh ea ⟨s, x, y, fk, _, ?_, u2, u3, p4.chg hCh (Xw_no (by decide) (by decide) (by decide)) (Xw_no (by decide) (by decide) (by decide)), ?_, fun i p hp => ?_⟩)
  · rw [aim_len]
    exact u1
  · rw [aim_len]
    exact p5
  · by_cases e : q = i
    · subst e
      have h0 := List.getElem?_eq_getElem hq
      rw [aim_it1 h0] at hp
      cases hp
      exact ⟨(p6 _ _ h0).1, upd_at _ _ _⟩
    · rw [aim_it e] at hp
      rw [upd_ne _ _ (fun z => e z.symm)]
      exact p6 i p hp
theorem c_wfull {g : Gm} {ρ : Nat → Nat × Nat} {A : Ab} {S : StC} {post : Int32 → StC → Prop} {w : Wd} {a : Nat} (h : RC g ρ A S) (hd : A.dr = some w) (ea : S.2.2.2.1 0 = some a) (k : post (bE (decide (¬ w.it.length < 60))) S) : wp_Mw_isFull g post S a := by
  obtain ⟨hm, a', ea', s, x, y, fk, fv, p1, p2, p3, p4, p5, p6⟩ := h.kDr w hd
  have e : a' = a := by
    rw [ea] at ea'
    cases ea'
    rfl
  subst e
  unfold wp_Mw_isFull wq_Mw_isFull_14
  refine ⟨_, _, p1.1, p1.2.2, rfl, ?_⟩
  rw [l_lt (by omega) (by decide)]
  refine ⟨fun z => ⟨rfl, ?_⟩, fun z => ⟨rfl, ?_⟩⟩
  · rw [decide_eq_false (fun q => q z)] at k
    exact k
  · rw [decide_eq_true z] at k
    exact k
theorem RC.wcell {g : Gm} {ρ : Nat → Nat × Nat} {A : Ab} {S : StC} {w : Wd} {a : Nat} (h : RC g ρ A S) (hd : A.dr = some w) (ea : S.2.2.2.1 0 = some a) : ∃ s x y, a ∈ S.2.2.2.2.2.1 ∧ S.2.2.2.2.2.2 a = .inr (11, [.ref s, .ref x, .ref y, .int (Int32.ofNat w.it.length), .int (bE w.im)]) := by
  obtain ⟨hm, a', ea', s, x, y, fk, fv, p1, p2, p3, p4, p5, p6⟩ := h.kDr w hd
  have e : a' = a := by
    rw [ea] at ea'
    cases ea'
    rfl
  subst e
  exact ⟨s, x, y, p1.1, p1.2.2⟩
theorem c_cpush {g : Gm} {ρ : Nat → Nat × Nat} {A : Ab} {S : StC} {post : StC → Prop} {kd p : Nat} (h : RC g ρ A S) (hd : A.dr ≠ none) (hk : kd < 52) (ho : A.op.length < 8) (k : ∀ S', RC g ρ (Ab.set_op A ((kd, p) :: A.op)) S' → post S') : wp_Co_push g post S (g.2.2 (100 + kd)) (Int32.ofNat p) := by
  have e13 := h.kOp hd
  have hin : vp_in (S.1 13) 8 := by
    rw [e13]
    exact n_in ho (by omega)
  have eN : (S.1 13).toNatClampNeg = A.op.length := by rw [e13, n_cl (by omega)]
  refine ⟨fun z => ?_, fun _ => ⟨kd, hk, rfl, hin, hin, k _ (RC.mk (h.kHere) (h.kHereB) (h.kMem) (h.kPr) (h.kPrB) (h.kPbB) (h.kOut) (h.kFu) (h.kHas) (h.kHasB) (h.kUp) (h.kUpB) (h.kTold) (h.kToldB) (h.kToldH) (h.kMade) (h.kMadeB) (h.kWs) (h.kRows) (h.kLay) (h.kPos) (h.kTk) (h.kTx) (h.kBt) (h.kG) (h.kDs) (h.kDsB) (h.kDsS) (h.kRs) (h.kRsB) (h.kRsS) (h.kCs) (h.kCsB) (h.kCsS) (h.kDr0) (h.kDr) (fun _ => ?_) (?_) (fun _ i x hx => ?_) (fun _ => ?_))⟩⟩
  · rw [e13, r_le (by decide) (by omega)] at z
    omega
  · show S.1 13 + 1 = _
    rw [e13, of_succ]
    rfl
  · show (_ :: A.op).length ≤ 8
    simp
    omega
  · have hx : ((kd, p) :: A.op)[i]? = some x := hx
    show x.1 < 52 ∧ va_up (S.2.2.2.2.1 2) (S.1 13).toNatClampNeg (some (g.2.2 (100 + kd))) (((kd, p) :: A.op).length - 1 - i) = _
    rw [eN]
    cases i with
    | zero =>
      simp at hx
      subst hx
      refine ⟨hk, ?_⟩
      rw [show ((kd, p) :: A.op).length - 1 - 0 = A.op.length by simp]
      exact va_up_self _ _ _
    | succ i =>
      simp at hx
      have hi := get_lt hx
      obtain ⟨q1, q2⟩ := h.kOpK hd i x hx
      refine ⟨q1, ?_⟩
      rw [show ((kd, p) :: A.op).length - 1 - (i + 1) = A.op.length - 1 - i by simp; omega, va_up_ne _ _ (by omega)]
      exact q2
  · show Stk (upd (S.2.1 6) (S.1 13).toNatClampNeg (Int32.ofNat p)) _
    rw [eN]
    refine ⟨?_, (h.kOpA hd).put (by simp)⟩
    rw [List.length_map, upd_at]
theorem c_cpopE {g : Gm} {ρ : Nat → Nat × Nat} {A : Ab} {S : StC} {post : Int32 → StC → Prop} {x : Nat × Nat} {r : List (Nat × Nat)} (h : RC g ρ A S) (hd : A.dr ≠ none) (ho : A.op = x :: r) (k : RC g ρ (Ab.set_op A (r)) (upd S.1 13 (S.1 13 - 1), S.2) → post (Int32.ofNat x.2) (upd S.1 13 (S.1 13 - 1), S.2)) : wp_Co_pop g post S := by
  have hB := h.kOpB
  have e13 := h.kOp hd
  have hA := h.kOpA hd
  have hK := h.kOpK hd
  rw [ho] at hB e13 hA hK
  simp at hB
  have e13 : S.1 13 = Int32.ofNat (r.length + 1) := e13
  have e1 : S.1 13 - 1 = Int32.ofNat r.length := by
    rw [e13]
    exact n_sub (a := r.length + 1) (b := 1) (by omega)
  have eA : S.2.1 6 r.length = Int32.ofNat x.2 := by
    have := hA.1
    rw [List.length_map] at this
    exact this
  have hr : RC g ρ (Ab.set_op A (r)) (upd S.1 13 (S.1 13 - 1), S.2) := (RC.mk (h.kHere) (h.kHereB) (h.kMem) (h.kPr) (h.kPrB) (h.kPbB) (h.kOut) (h.kFu) (h.kHas) (h.kHasB) (h.kUp) (h.kUpB) (h.kTold) (h.kToldB) (h.kToldH) (h.kMade) (h.kMadeB) (h.kWs) (h.kRows) (h.kLay) (h.kPos) (h.kTk) (h.kTx) (h.kBt) (h.kG) (h.kDs) (h.kDsB) (h.kDsS) (h.kRs) (h.kRsB) (h.kRsS) (h.kCs) (h.kCsB) (h.kCsS) (h.kDr0) (h.kDr) (fun _ => e1) ((show r.length ≤ 8 by omega)) (fun _ i y hy => (by
      have hy : r[i]? = some y := hy
      have hi := get_lt hy
      have := hK (i + 1) y (by simpa using hy)
      rw [show (x :: r).length - 1 - (i + 1) = r.length - 1 - i by simp; omega] at this
      exact this)) (fun _ => hA.2))
  refine ⟨fun z => ?_, fun _ => ⟨?_, ?_⟩⟩
  · rw [e13, l_eq (by omega) (by decide)] at z
    omega
  · rw [e1]
    exact n_in (by omega) (by omega)
  · have hv : S.2.1 6 (S.1 13 - 1).toNatClampNeg = Int32.ofNat x.2 := by rw [e1, n_cl (by omega), eA]
    rw [hv]
    exact k hr
/-- the last that was opened -/
theorem RC.last {g : Gm} {ρ : Nat → Nat × Nat} {A : Ab} {S : StC} {x : Nat × Nat} {r : List (Nat × Nat)} (h : RC g ρ A S) (hd : A.dr ≠ none) (ho : A.op = x :: r) : x.1 < 52 ∧ ¬ S.1 13 = 0 ∧ vp_in (S.1 13 - 1) 8 ∧ S.2.2.2.2.1 2 (S.1 13 - 1).toNatClampNeg = some (g.2.2 (100 + x.1)) := by
  have hB := h.kOpB
  have e13 := h.kOp hd
  have hK := h.kOpK hd 0 x (by rw [ho]; rfl)
  rw [ho] at hB e13 hK
  simp at hB
  have e13 : S.1 13 = Int32.ofNat (r.length + 1) := e13
  have e1 : S.1 13 - 1 = Int32.ofNat r.length := by
    rw [e13]
    exact n_sub (a := r.length + 1) (b := 1) (by omega)
  refine ⟨hK.1, ?_, ?_, ?_⟩
  · rw [e13, l_eq (by omega) (by decide)]
    omega
  · rw [e1]
    exact n_in (by omega) (by omega)
  · rw [e1, n_cl (by omega)]
    have := hK.2
    rw [show (x :: r).length - 1 - 0 = r.length by simp] at this
    exact this
theorem c_addItem {g : Gm} {ρ : Nat → Nat × Nat} {A : Ab} {S : StC} {post : Int32 → StC → Prop} {w : Wd} {kd : Nat} {num : Int32} (h : RC g ρ A S) (hd : A.dr = some w) (k : ∀ S', RCr g ρ (compR A w kd num A.op id) S' → post (compR A w kd num A.op id).1 S') : wp_Co_addItem g post S (Int32.ofNat (kC kd)) num := by
  obtain ⟨hm, a, ea, -⟩ := h.kDr w hd
  obtain ⟨s, x, y, c1, c2⟩ := h.wcell hd ea
  unfold compR at k
  refine ⟨fun z => ?_, fun y1 e => ⟨a, ea, _, c1, c2, c_wfull h hd ea ?_⟩⟩
  · rw [ea] at z
    cases z
  · by_cases hl : w.it.length < 60
    · rw [if_pos hl] at k
      rw [decide_eq_false (fun q => q hl)]
      exact ⟨fun _ => ⟨a, ea, _, c1, c2, c_wadd h hd ea hl (fun S' h' => k _ (RCr.ok h'))⟩, fun z => absurd rfl z⟩
    · rw [if_neg hl] at k
      rw [decide_eq_true hl]
      exact ⟨fun z => absurd z (by decide), fun _ => k _ (RCr.no (by decide) h.toRCw)⟩
