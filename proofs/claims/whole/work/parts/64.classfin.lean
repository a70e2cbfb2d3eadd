/-! the items of a call -/
theorem c_begLoop {g : Gm} {ρ : Nat → Nat × Nat} {A : Ab} {S : StC} {post : Int32 → StC → Prop} {fr : Fr} {l : List Fr} {a b x y : Nat} {fl fc : Nat → Int32} (h : RC g ρ A S) (hc : A.cs = fr :: l) (t : TopC g ρ A S fr l a b x y fl fc) (k : ∀ S', RCr g ρ (w2 A fun c b r => if fr.lp.length < 4 then (0, (Ab.set_cs (Ab.set_ds A (r)) (⟨fr.w, fr.nx, (c, b) :: fr.lp⟩ :: l))) else (3, A)) S' → post (w2 A fun c b r => if fr.lp.length < 4 then (0, (Ab.set_cs (Ab.set_ds A (r)) (⟨fr.w, fr.nx, (c, b) :: fr.lp⟩ :: l))) else (3, A)).1 S') : wp_Ma_beginLoop g post S b := by
  have hB := h.kDsB
  have h7 := t.q7
  unfold wp_Ma_beginLoop
  refine c_nd2 h k (fun c b' r hd k => ⟨_, _, t.q2.1, t.q2.2.2, rfl, ?_⟩)
  rw [l_lt (by omega) (by decide)]
  refine ⟨fun z => ?_, fun z => ?_⟩
  · rw [if_pos z] at k
    refine c_from (i := 1) h (by decide) (c_from (i := 0) h (by decide) ?_)
    rw [show A.ds.getD 1 0 = b' by rw [hd]; rfl, show A.ds.getD 0 0 = c by rw [hd]; rfl]
    refine ⟨_, t.q2.1, t.q2.2.2, ?_⟩
    have n21 : ((1, l.length) : Nat × Nat) ≠ (2, l.length) := fun z => absurd (congrArg Prod.fst z) (show ¬ (1 : Nat) = 2 by decide)
    have n31 : ((1, l.length) : Nat × Nat) ≠ (3, l.length) := fun z => absurd (congrArg Prod.fst z) (show ¬ (1 : Nat) = 3 by decide)
    have n32 : ((3, l.length) : Nat × Nat) ≠ (2, l.length) := fun z => absurd (congrArg Prod.fst z) (show ¬ (3 : Nat) = 2 by decide)
    have n23 : ((2, l.length) : Nat × Nat) ≠ (3, l.length) := fun z => absurd (congrArg Prod.fst z) (show ¬ (2 : Nat) = 3 by decide)
    have n12 : ((2, l.length) : Nat × Nat) ≠ (1, l.length) := fun z => absurd (congrArg Prod.fst z) (show ¬ (2 : Nat) = 1 by decide)
    have n13 : ((3, l.length) : Nat × Nat) ≠ (1, l.length) := fun z => absurd (congrArg Prod.fst z) (show ¬ (3 : Nat) = 1 by decide)
    have eN : (Int32.ofNat fr.lp.length).toNatClampNeg = fr.lp.length := n_cl (by omega)
    have hin : vp_in (Int32.ofNat fr.lp.length) 4 := n_in z (by omega)
    -- limits first, then counts, then the number of loops
    have u2 := t.q2.ne t.q3 (e2 := .inl (g.2.1 0, 4, .inl (upd fl fr.lp.length b'))) n21
    have u3 := t.q3.put (e' := .inl (g.2.1 0, 4, .inl (upd fl fr.lp.length b')))
    have u4 := t.q4.ne t.q3 (e2 := .inl (g.2.1 0, 4, .inl (upd fl fr.lp.length b'))) n32
    have v2 := u2.ne u4 (e2 := .inl (g.2.1 0, 4, .inl (upd fc fr.lp.length c))) n31
    have v3 := u3.ne u4 (e2 := .inl (g.2.1 0, 4, .inl (upd fc fr.lp.length c))) n23
    have v4 := u4.put (e' := .inl (g.2.1 0, 4, .inl (upd fc fr.lp.length c)))
    have w2' := v2.put (e' := .inr (9, [va_rf (some a), .int (Int32.ofNat fr.nx), .ref x, .ref y, .int (Int32.ofNat (fr.lp.length + 1))]))
    have w3' := v3.ne v2 (e2 := .inr (9, [va_rf (some a), .int (Int32.ofNat fr.nx), .ref x, .ref y, .int (Int32.ofNat (fr.lp.length + 1))])) n12
    have w4' := v4.ne v2 (e2 := .inr (9, [va_rf (some a), .int (Int32.ofNat fr.nx), .ref x, .ref y, .int (Int32.ofNat (fr.lp.length + 1))])) n13
    have X2 : Xc l.length (ρ x) := by rw [t.q3.2.1]; exact ⟨Or.inr (Or.inl rfl), rfl⟩
    have X3 : Xc l.length (ρ y) := by rw [t.q4.2.1]; exact ⟨Or.inr (Or.inr rfl), rfl⟩
    have X1 : Xc l.length (ρ b) := by rw [t.q2.2.1]; exact ⟨Or.inl rfl, rfl⟩
    have hCh := Chg.put (e := .inr (9, [va_rf (some a), .int (Int32.ofNat fr.nx), .ref x, .ref y, .int (Int32.ofNat (fr.lp.length + 1))])) (Chg.put (e := .inl (g.2.1 0, 4, .inl (upd fc fr.lp.length c))) (Chg.put (e := .inl (g.2.1 0, 4, .inl (upd fl fr.lp.length b'))) (Chg.refl ρ (Xc l.length) S.2.2.2.2.2.2) X2) X3) X1
    unfold wp_Ca_beginLoop wq_Ca_beginLoop_38
    refine ⟨_, _, t.q2.1, t.q2.2.2, rfl, fun q => ?_, fun _ => ⟨_, _, t.q2.1, t.q2.2.2, rfl, _, _, t.q2.1, t.q2.2.2, rfl, 4, fl, t.q3.1, t.q3.2.2, hin, ?_⟩⟩
    · rw [r_le (by decide) (by omega)] at q
      omega
    rw [eN]
    refine ⟨_, _, u2.1, u2.2.2, rfl, _, _, u2.1, u2.2.2, rfl, 4, fc, u4.1, u4.2.2, hin, ?_⟩
    rw [eN]
    refine ⟨_, _, v2.1, v2.2.2, rfl, _, v2.1, v2.2.2, (show 4 < 5 by decide), ?_⟩
    rw [of_succ]
    have hC : CallAt g (S.2.2.2.2.1 1) S.2.2.2.2.2.1 _ ρ l.length (some a) (Int32.ofNat fr.nx) (Int32.ofNat (fr.lp.length + 1)) (upd fl fr.lp.length b') (upd fc fr.lp.length c) := ⟨b, x, y, t.q1, w2', w3', w4'⟩
    have h1 := h.calls (l' := ⟨fr.w, fr.nx, (c, b') :: fr.lp⟩ :: l) hCh ⟨_, _, _, _, _, hC⟩ t.q10 (show l.length + 1 ≤ 16 by have := t.q9; omega) ⟨⟨a, _, _, t.q0, hC, ⟨?_, t.q5.put (by simp)⟩, ⟨?_, t.q6.put (by simp)⟩, (show fr.lp.length + 1 ≤ 4 by omega)⟩, t.q8.chg hCh (fun c hc => ⟨Xc_ne (by omega), Xc_ne (by omega), Xc_ne (by omega)⟩)⟩
    · refine c_drop (n := 2) h1 (show 2 ≤ A.ds.length by rw [hd]; simp) (fun S2 h2 => k _ (RCr.ok ?_))
      have e2 : A.ds.drop 2 = r := by rw [hd]; rfl
      have h2 : RC g ρ (Ab.set_cs (Ab.set_ds A (A.ds.drop 2)) (⟨fr.w, fr.nx, (c, b') :: fr.lp⟩ :: l)) S2 := h2
      rw [e2] at h2
      exact h2
    · rw [List.length_map]
      exact upd_at _ _ _
    · rw [List.length_map]
      exact upd_at _ _ _
  · rw [if_neg z] at k
    exact k _ (RCr.no (by decide) h.toRCw)
theorem n_pair {a b c d : Nat} (h : ¬ a = c) : ((a, b) : Nat × Nat) ≠ (c, d) := fun z => h (congrArg Prod.fst z)
/-- a loop counts on -/
theorem c_count {g : Gm} {ρ : Nat → Nat × Nat} {A : Ab} {S : StC} {post : Int32 → StC → Prop} {fr : Fr} {l : List Fr} {a b x y : Nat} {fl fc : Nat → Int32} (h : RC g ρ A S) (hc : A.cs = fr :: l) (t : TopC g ρ A S fr l a b x y fl fc) (k0 : fr.lp = [] → post 0 S) (k1 : ∀ p q S', fr.lp = p :: q → p.1 + 1 = p.2 → RC g ρ (Ab.set_cs A (⟨fr.w, fr.nx, q⟩ :: l)) S' → post 0 S') (k2 : ∀ p q S' fc', fr.lp = p :: q → ¬ p.1 + 1 = p.2 → RC g ρ (Ab.set_cs A (⟨fr.w, fr.nx, (p.1 + 1, p.2) :: q⟩ :: l)) S' → TopC g ρ A S' ⟨fr.w, fr.nx, (p.1 + 1, p.2) :: q⟩ l a b x y fl fc' → post 1 S') : wp_Ca_countOn g post S b := by
  have h7 := t.q7
  have h9 := t.q9
  unfold wp_Ca_countOn
  refine ⟨_, _, t.q2.1, t.q2.2.2, rfl, fun z => ?_, fun z => ?_⟩
  · rw [l_eq (by omega) (by decide)] at z
    exact k0 (List.eq_nil_of_length_eq_zero z)
  · rw [l_eq (by omega) (by decide)] at z
    match hlp : fr.lp with
    | [] => rw [hlp] at z; exact absurd rfl z
    | p :: q =>
      have h7' := h7
      rw [hlp] at h7'
      have h7' : q.length + 1 ≤ 4 := h7'
      have e5 := t.q5
      have e6 := t.q6
      rw [hlp] at e5 e6
      have c1 := e5.1
      have c2 := e6.1
      rw [List.length_map] at c1 c2
      have eL : Int32.ofNat fr.lp.length = Int32.ofNat (q.length + 1) := by rw [hlp]; rfl
      have eM : Int32.ofNat fr.lp.length - 1 = Int32.ofNat q.length := by
        rw [eL]
        exact n_sub (a := q.length + 1) (b := 1) (by omega)
      have eN : (Int32.ofNat q.length).toNatClampNeg = q.length := n_cl (by omega)
      have hin : vp_in (Int32.ofNat q.length) 4 := n_in (by omega) (by omega)
      have X3 : Xc l.length (ρ y) := by rw [t.q4.2.1]; exact ⟨Or.inr (Or.inr rfl), rfl⟩
      have X1 : Xc l.length (ρ b) := by rw [t.q2.2.1]; exact ⟨Or.inl rfl, rfl⟩
      have u2 := t.q2.ne t.q4 (e2 := .inl (g.2.1 0, 4, .inl (upd fc q.length (p.1 + 1)))) (n_pair (by decide))
      have u3 := t.q3.ne t.q4 (e2 := .inl (g.2.1 0, 4, .inl (upd fc q.length (p.1 + 1)))) (n_pair (by decide))
      have u4 := t.q4.put (e' := .inl (g.2.1 0, 4, .inl (upd fc q.length (p.1 + 1))))
      have hCh := Chg.put (e := .inl (g.2.1 0, 4, .inl (upd fc q.length (p.1 + 1)))) (Chg.refl ρ (Xc l.length) S.2.2.2.2.2.2) X3
      refine ⟨_, _, t.q2.1, t.q2.2.2, rfl, _, _, t.q2.1, t.q2.2.2, rfl, 4, fc, t.q4.1, t.q4.2.2, ?_⟩
      rw [eM, eN, c1]
      refine ⟨hin, 4, fc, t.q4.1, t.q4.2.2, hin, _, _, u2.1, u2.2.2, rfl, _, _, u2.1, u2.2.2, rfl, 4, _, u4.1, u4.2.2, ?_⟩
      rw [eM, eN, upd_at]
      refine ⟨hin, _, _, u2.1, u2.2.2, rfl, _, _, u2.1, u2.2.2, rfl, 4, fl, u3.1, u3.2.2, ?_⟩
      rw [eM, eN, c2]
      refine ⟨hin, fun e => ?_, fun e => ?_⟩
      · refine ⟨_, _, u2.1, u2.2.2, rfl, _, u2.1, u2.2.2, (show 4 < 5 by decide), ?_⟩
        rw [eM]
        have w2' := u2.put (e' := .inr (9, [va_rf (some a), .int (Int32.ofNat fr.nx), .ref x, .ref y, .int (Int32.ofNat q.length)]))
        have w3' := u3.ne u2 (e2 := .inr (9, [va_rf (some a), .int (Int32.ofNat fr.nx), .ref x, .ref y, .int (Int32.ofNat q.length)])) (n_pair (by decide))
        have w4' := u4.ne u2 (e2 := .inr (9, [va_rf (some a), .int (Int32.ofNat fr.nx), .ref x, .ref y, .int (Int32.ofNat q.length)])) (n_pair (by decide))
        have hCh2 := hCh.put (e := .inr (9, [va_rf (some a), .int (Int32.ofNat fr.nx), .ref x, .ref y, .int (Int32.ofNat q.length)])) X1
        have hC : CallAt g (S.2.2.2.2.1 1) S.2.2.2.2.2.1 _ ρ l.length (some a) (Int32.ofNat fr.nx) (Int32.ofNat q.length) fl (upd fc q.length (p.1 + 1)) := ⟨b, x, y, t.q1, w2', w3', w4'⟩
        refine k1 p q _ hlp e (h.calls (l' := ⟨fr.w, fr.nx, q⟩ :: l) hCh2 ⟨_, _, _, _, _, hC⟩ t.q10 (show l.length + 1 ≤ 16 by omega) ⟨⟨a, _, _, t.q0, hC, e5.2.put (by simp), e6.2, (show q.length ≤ 4 by omega)⟩, t.q8.chg hCh2 (fun c hc => ⟨Xc_ne (by omega), Xc_ne (by omega), Xc_ne (by omega)⟩)⟩)
      · have hS : Stk (upd fc q.length (p.1 + 1)) (((p.1 + 1, p.2) :: q).map (fun p => p.1)) := ⟨by rw [List.length_map]; exact upd_at _ _ _, e5.2.put (by simp)⟩
        have u2' := u2
        rw [eL] at u2'
        have hC : CallAt g (S.2.2.2.2.1 1) S.2.2.2.2.2.1 _ ρ l.length (some a) (Int32.ofNat fr.nx) (Int32.ofNat (q.length + 1)) fl (upd fc q.length (p.1 + 1)) := ⟨b, x, y, t.q1, u2', u3, u4⟩
        have hFr := t.q8.chg hCh (fun c hc => ⟨Xc_ne (by omega), Xc_ne (by omega), Xc_ne (by omega)⟩)
        refine k2 p q _ (upd fc q.length (p.1 + 1)) hlp e (h.calls (l' := ⟨fr.w, fr.nx, (p.1 + 1, p.2) :: q⟩ :: l) hCh ⟨_, _, _, _, _, hC⟩ t.q10 (show l.length + 1 ≤ 16 by omega) ⟨⟨a, _, _, t.q0, hC, hS, e6, h7'⟩, hFr⟩) (TopC.mk t.q0 t.q1 u2' u3 u4 hS e6 h7' hFr t.q9 t.q10)
theorem c_jump {g : Gm} {ρ : Nat → Nat × Nat} {A : Ab} {S : StC} {post : Int32 → StC → Prop} {fr : Fr} {l : List Fr} {a b x y : Nat} {fl fc : Nat → Int32} {kd n : Nat} (h : RC g ρ A S) (hc : A.cs = ⟨fr.w, fr.nx + 1, fr.lp⟩ :: l) (t : TopC g ρ A S ⟨fr.w, fr.nx + 1, fr.lp⟩ l a b x y fl fc) (hk : kd = 2 ∨ kd = 3 ∨ kd = 4 ∨ kd = 5) (num : Int32) (hn : kd ≠ 4 → num = Int32.ofNat n ∧ n < 1000) (k : ∀ S', RCr g ρ (doI A fr l kd num) S' → post (doI A fr l kd num).1 S') : wp_Ma_jump g post S b (Int32.ofNat (kC kd)) num := by
  have hnn : kd ≠ 4 → num = Int32.ofNat num.toNatClampNeg := by
    intro q
    obtain ⟨e, hlt⟩ := hn q
    rw [e, n_cl (by omega)]
  unfold wp_Ma_jump
  rcases hk with e | e | e | e <;> subst e
  · -- back if zero
    have hv := hnn (by decide)
    refine ⟨fun z => absurd z (by decide), fun _ => ⟨fun _ => ?_, fun z => absurd rfl z⟩⟩
    refine c_nd1 h k (fun c r hd k => c_popE h hd (fun h1 => ⟨fun z => ⟨_, t.q2.1, t.q2.2.2, (show 1 < 5 by decide), k _ ?_⟩, fun z => k _ ?_⟩))
    · rw [if_pos z]
      have t' : TopC g ρ (Ab.set_ds A (r)) (upd S.1 8 (S.1 8 - 1), S.2) ⟨fr.w, fr.nx + 1, fr.lp⟩ l a b x y fl fc := TopC.mk t.q0 t.q1 t.q2 t.q3 t.q4 t.q5 t.q6 t.q7 t.q8 t.q9 t.q10
      exact RCr.ok (t'.next h1 hv)
    · rw [if_neg z]
      refine RCr.ok ?_
      have e : ((Ab.set_cs (Ab.set_ds A (r)) (A.cs)) : Ab).cs = A.cs := rfl
      exact h1
  · have hv := hnn (by decide)
    exact ⟨fun _ => ⟨_, t.q2.1, t.q2.2.2, (show 1 < 5 by decide), k _ (RCr.ok (t.next h hv))⟩, fun z => absurd rfl z⟩
  · exact ⟨fun z => absurd z (by decide), fun _ => ⟨fun z => absurd z (by decide), fun _ => ⟨fun _ => c_begLoop h hc t k, fun z => absurd rfl z⟩⟩⟩
  · have hv := hnn (by decide)
    refine ⟨fun z => absurd z (by decide), fun _ => ⟨fun z => absurd z (by decide), fun _ => ⟨fun z => absurd z (by decide), fun _ => ⟨_, t.q2.1, t.q2.2.2, ?_⟩⟩⟩⟩
    rw [doI_5] at k
    refine c_count h hc t (fun e => ?_) (fun p q S' e e1 h' => ?_) (fun p q S' fc' e e1 h' t' => ?_)
    · have e : fr.lp = [] := e
      rw [e] at k
      exact ⟨fun _ => k _ (RCr.ok h), fun z => absurd rfl z⟩
    · have e : fr.lp = p :: q := e
      rw [e] at k
      dsimp only at k
      rw [if_pos e1] at k
      exact ⟨fun _ => k _ (RCr.ok h'), fun z => absurd rfl z⟩
    · have e : fr.lp = p :: q := e
      rw [e] at k
      dsimp only at k
      rw [if_neg e1] at k
      have t2 : TopC g ρ (Ab.set_cs A (⟨fr.w, fr.nx + 1, (p.1 + 1, p.2) :: q⟩ :: l)) S' ⟨fr.w, fr.nx + 1, (p.1 + 1, p.2) :: q⟩ l a b x y fl fc' := t'
      exact ⟨fun z => absurd z (by decide), fun _ => ⟨_, t'.q2.1, t'.q2.2.2, (show 1 < 5 by decide), k _ (RCr.ok (t2.next h' hv))⟩⟩
theorem c_fin {g : Gm} {ρ : Nat → Nat × Nat} {post : Int32 → StC → Prop} : ∀ (n : Nat) (A : Ab) (S : StC) (j : Nat), RC g ρ A S → CO A → mea A ≤ n → j + n ≤ 2390 → (∀ S', RCr g ρ (finA n A) S' → post (finA n A).1 S') → wq_Ma_finishCalls_4 g post (n + 1) S 0 (Int32.ofNat j) := by
  intro n
  induction n with
  | zero =>
    intro A S j h hC hm hj k
    have e : A.cs = [] := List.eq_nil_of_length_eq_zero (by unfold mea at hm; omega)
    rw [finA_nil _ e] at k
    have e5 : S.1 5 ≤ 0 := by rw [h.kCs, e]; decide
    refine ⟨fun z => ?_, fun _ => ⟨fun _ => ⟨fun _ => k _ (RCr.ok h), fun z => absurd e5 z⟩, fun z => absurd rfl z⟩⟩
    rw [r_le (by decide) (by omega)] at z
    omega
  | succ n ih =>
    intro A S j h hC hm hj k
    refine ⟨fun z => ?_, fun _ => ⟨fun _ => ?_, fun z => absurd rfl z⟩⟩
    · rw [r_le (by decide) (by omega)] at z
      omega
    match hc : A.cs with
    | [] =>
      rw [finA_nil _ hc] at k
      have e5 : S.1 5 ≤ 0 := by rw [h.kCs, hc]; decide
      exact ⟨fun _ => k _ (RCr.ok h), fun z => absurd e5 z⟩
    | fr :: l =>
      obtain ⟨d1, d2, d3, d4, d5⟩ := c_depth h hc
      obtain ⟨a, b, x, y, fl, fc, t⟩ := h.top hc
      obtain ⟨w, hw, hnx⟩ := hC.cw fr (by rw [hc]; exact List.mem_cons_self ..)
      have hS := stepA_ok hC hc hw hnx
      have hWok := hC.ws w (List.mem_of_getElem? hw)
      have hlen := hWok.len
      have hwl := hC.wl
      obtain ⟨a', ea, hWd⟩ := h.kWs fr.w w hw
      have eaa : a' = a := by
        have := t.q0
        rw [ea] at this
        cases this
        rfl
      subst eaa
      have e1 : finA (n + 1) A = if (stepA A).1 = 0 then finA n (stepA A).2 else stepA A := by rw [finA, hc]
      rw [e1] at k
      -- behind the step
      have leaf : ∀ (r : Int32) (S' : StC), RCr g ρ (stepA A) S' → r = (stepA A).1 → wq_Ma_finishCalls_4 g post (n + 1) S' r (Int32.ofNat j + 1) := by
        intro r S' h' er
        rw [of_succ]
        by_cases e0 : (stepA A).1 = 0
        · rw [if_pos e0] at k
          rw [er, e0]
          obtain ⟨q1, q2⟩ := hS.1 e0
          exact ih _ S' (j + 1) (h'.1 e0) q1 (by omega) (by omega) k
        · rw [if_neg e0] at k
          rw [er]
          exact ⟨fun _ => k _ h', fun _ => ⟨fun z => absurd z e0, fun _ => k _ h'⟩⟩
      have hle : ¬ S.1 5 ≤ 0 := by
        rw [t.q10, l_le (by omega) (by decide)]
        omega
      rw [stepA, hc] at leaf
      simp only [hw] at leaf
      refine ⟨fun z => absurd z hle, fun _ => ⟨d2, b, by rw [d3]; exact t.q1, _, _, t.q2.1, t.q2.2.2, rfl, _, _, t.q2.1, t.q2.2.2, rfl, fun z => (by cases z), fun y13 ey => ?_⟩⟩
      cases ey
      obtain ⟨s, wx, wy, fk, fv, p1, p2, p3, p4, p5, p6⟩ := hWd
      refine ⟨_, _, p1.1, p1.2.2, rfl, ?_⟩
      rw [n_lt (by omega) (by omega)]
      refine ⟨fun z => ?_, fun z => ?_⟩
      · obtain ⟨p, hp⟩ : ∃ p, w.it[fr.nx]? = some p := ⟨_, List.getElem?_eq_getElem z⟩
        have hit := hWok.it _ _ hp
        obtain ⟨i1, i2⟩ := p6 _ _ hp
        simp only [hp] at leaf
        refine c_burn h hC.fu (fun hz => ⟨fun _ => ?_, fun q => absurd rfl q⟩) (fun hz h1 => ⟨fun q => absurd q (by decide), fun _ => ?_⟩)
        · rw [stepA, hc] at k
          simp only [hw, hp] at k
          rw [if_pos hz, if_neg (show ¬ (7 : Int32) = 0 by decide)] at k
          exact k _ (RCr.no (by decide) h.toRCw)
        · rw [if_neg (by omega)] at leaf
          refine ⟨_, _, t.q2.1, t.q2.2.2, rfl, _, t.q2.1, t.q2.2.2, (show 1 < 5 by decide), ?_⟩
          have t1 : TopC g ρ (Ab.set_fu A (A.fu - 1)) (upd S.1 7 (S.1 7 - 1), S.2) fr l a' b x y fl fc := TopC.mk t.q0 t.q1 t.q2 t.q3 t.q4 t.q5 t.q6 t.q7 t.q8 t.q9 t.q10
          have h2 := t1.next h1 (v := Int32.ofNat fr.nx + 1) (n := fr.nx + 1) (of_succ _)
          have v1 := p1.ne t.q2 (e2 := .inr (9, [va_rf (some a'), .int (Int32.ofNat fr.nx + 1), .ref x, .ref y, .int (Int32.ofNat fr.lp.length)])) (n_pair (by decide))
          have v2 := p2.ne t.q2 (e2 := .inr (9, [va_rf (some a'), .int (Int32.ofNat fr.nx + 1), .ref x, .ref y, .int (Int32.ofNat fr.lp.length)])) (n_pair (by decide))
          have v3 := p3.ne t.q2 (e2 := .inr (9, [va_rf (some a'), .int (Int32.ofNat fr.nx + 1), .ref x, .ref y, .int (Int32.ofNat fr.lp.length)])) (n_pair (by decide))
          have hin : vp_in (Int32.ofNat fr.nx) 60 := n_in (by omega) (by omega)
          have eN : (Int32.ofNat fr.nx).toNatClampNeg = fr.nx := n_cl (by omega)
          obtain ⟨kd, num⟩ := p
          have i1 : fk fr.nx = Int32.ofNat (kC kd) := i1
          have i2 : fv fr.nx = num := i2
          have hpr := h.kPrB
          refine ⟨_, _, v1.1, v1.2.2, rfl, 60, fk, v2.1, v2.2.2, hin, ?_⟩
          rw [eN, i1]
          obtain ⟨a2, b2, x2, y2, fl2, fc2, t2⟩ := h2.top rfl
          have eb : b2 = b := by
            have q := t2.q1
            have q' : S.2.2.2.2.1 1 l.length = some b2 := q
            rw [t.q1] at q'
            cases q'
            rfl
          subst eb
          have jump : (kd = 2 ∨ kd = 3 ∨ kd = 4 ∨ kd = 5) → ∀ m, (kd ≠ 4 → num = Int32.ofNat m ∧ m < 1000) → _ := fun hk m hm => c_jump (post := fun r S' => wq_Ma_finishCalls_4 g post (n + 1) S' r (Int32.ofNat j + 1)) h2 rfl t2 hk num hm (fun S' h' => leaf _ S' h' rfl)
          match kd, hit with
          | 0, hit =>
            obtain ⟨-, tt, e, ht⟩ := hit
            have e : num = Int32.ofNat tt := e
            subst e
            refine ⟨fun q => absurd q (by decide), fun _ => ⟨_, _, v1.1, v1.2.2, rfl, 60, fk, v2.1, v2.2.2, hin, ?_⟩⟩
            rw [i1]
            refine ⟨fun _ => ⟨_, _, v1.1, v1.2.2, rfl, 60, fv, v3.1, v3.2.2, hin, ?_⟩, fun q => absurd rfl q⟩
            rw [i2]
            have et : (Int32.ofNat tt).toNatClampNeg = tt := n_cl (by unfold okT at ht; omega)
            refine c_start h2 (show A.pr + (A.fu - 1) < A.pb by omega) ht (fun S' h' => leaf _ S' ?_ ?_)
            · show RCr g ρ (doP (Int32.ofNat tt).toNatClampNeg _) S'
              rw [et]
              exact h'
            · show _ = (doP (Int32.ofNat tt).toNatClampNeg _).1
              rw [et]
          | 1, hit =>
            refine ⟨fun _ => ⟨_, _, v1.1, v1.2.2, rfl, 60, fv, v3.1, v3.2.2, hin, ?_⟩, fun q => absurd rfl q⟩
            rw [i2]
            exact c_put h2 (fun S' h' => leaf _ S' h' rfl)
          | 2, hit =>
            obtain ⟨-, qq, hq, e, -⟩ := hit
            have e : num = Int32.ofNat qq := e
            refine ⟨fun q => absurd q (by decide), fun _ => ⟨_, _, v1.1, v1.2.2, rfl, 60, fk, v2.1, v2.2.2, hin, ?_⟩⟩
            rw [i1]
            refine ⟨fun q => absurd q (by decide), fun _ => ⟨_, _, v1.1, v1.2.2, rfl, 60, fk, v2.1, v2.2.2, hin, _, _, v1.1, v1.2.2, rfl, 60, fv, v3.1, v3.2.2, hin, ?_⟩⟩
            rw [i1, i2]
            exact jump (by decide) qq (fun _ => ⟨e, by omega⟩)
          | 3, hit =>
            obtain ⟨qq, hq, e, -⟩ := hit
            have e : num = Int32.ofNat qq := e
            refine ⟨fun q => absurd q (by decide), fun _ => ⟨_, _, v1.1, v1.2.2, rfl, 60, fk, v2.1, v2.2.2, hin, ?_⟩⟩
            rw [i1]
            refine ⟨fun q => absurd q (by decide), fun _ => ⟨_, _, v1.1, v1.2.2, rfl, 60, fk, v2.1, v2.2.2, hin, _, _, v1.1, v1.2.2, rfl, 60, fv, v3.1, v3.2.2, hin, ?_⟩⟩
            rw [i1, i2]
            exact jump (by decide) qq (fun _ => ⟨e, by omega⟩)
          | 4, hit =>
            refine ⟨fun q => absurd q (by decide), fun _ => ⟨_, _, v1.1, v1.2.2, rfl, 60, fk, v2.1, v2.2.2, hin, ?_⟩⟩
            rw [i1]
            refine ⟨fun q => absurd q (by decide), fun _ => ⟨_, _, v1.1, v1.2.2, rfl, 60, fk, v2.1, v2.2.2, hin, _, _, v1.1, v1.2.2, rfl, 60, fv, v3.1, v3.2.2, hin, ?_⟩⟩
            rw [i1, i2]
            exact jump (by decide) 0 (fun q => absurd rfl q)
          | 5, hit =>
            obtain ⟨qq, hq, e, -⟩ := hit
            have e : num = Int32.ofNat qq := e
            refine ⟨fun q => absurd q (by decide), fun _ => ⟨_, _, v1.1, v1.2.2, rfl, 60, fk, v2.1, v2.2.2, hin, ?_⟩⟩
            rw [i1]
            refine ⟨fun q => absurd q (by decide), fun _ => ⟨_, _, v1.1, v1.2.2, rfl, 60, fk, v2.1, v2.2.2, hin, _, _, v1.1, v1.2.2, rfl, 60, fv, v3.1, v3.2.2, hin, ?_⟩⟩
            rw [i1, i2]
            exact jump (by decide) qq (fun _ => ⟨e, by omega⟩)
      · have hp : w.it[fr.nx]? = none := List.getElem?_eq_none (by omega)
        simp only [hp] at leaf
        refine leaf 0 _ (RCr.ok (RC.mk (h.kHere) (h.kHereB) (h.kMem) (h.kPr) (h.kPrB) (h.kPbB) (h.kOut) (h.kFu) (h.kHas) (h.kHasB) (h.kUp) (h.kUpB) (h.kTold) (h.kToldB) (h.kToldH) (h.kMade) (h.kMadeB) (h.kWs) (h.kRows) (h.kLay) (h.kPos) (h.kTk) (h.kTx) (h.kBt) (h.kG) (h.kDs) (h.kDsB) (h.kDsS) (h.kRs) (h.kRsB) (h.kRsS) (?_) (?_) (t.q8) (h.kDr0) (h.kDr) (h.kOp) (h.kOpB) (h.kOpK) (h.kOpA))) rfl
        · show S.1 5 - 1 = _
          exact d5
        · show l.length ≤ 16
          omega
