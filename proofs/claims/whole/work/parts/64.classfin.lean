/-! the items of a call -/
theorem c_begLoop {g : Gm} {ρ : Nat → Nat × Nat} {A : Ab} {S : StC} {post : Int32 → StC → Prop} {fr : Fr} {l : List Fr} {a b x y : Nat} {fl fc : Nat → Int32} (h : RC g ρ A S) (hc : A.cs = fr :: l) (t : TopC g ρ A S fr l a b x y fl fc) (k : ∀ S', RCr g ρ (w2 A fun c b r => if fr.lp.length < 4 then (0, (Ab.set_cs (Ab.set_ds A (r)) (⟨fr.w, fr.nx, (c, b) :: fr.lp⟩ :: l))) else (3, A)) S' → post (w2 A fun c b r => if fr.lp.length < 4 then (0, (Ab.set_cs (Ab.set_ds A (r)) (⟨fr.w, fr.nx, (c, b) :: fr.lp⟩ :: l))) else (3, A)).1 S') : wp_Ma_beginLoop g post S b := by
  have hB := h.kDsB
  have h7 := t.q7
  unfold wp_Ma_beginLoop
  refine c_nd2 h k (fun c b' r hd k => ⟨_, _, t.q2.1, t.q2.2.2, rfl, ?_⟩)
  rw [l_lt (by omega) (by decide)]
  refine ⟨fun z => ?_, fun z => ?_⟩
  · rw [if_pos z] at k
    refine c_from (i := 1) h (by decide) (c_from (i := 0) h (by decide) ?_)
    rw [show A.ds.getD 1 0 = b' by rw [hd]; rfl, show A.ds.getD 0 0 = c by rw [hd]; rfl]
    refine ⟨_, t.q2.1, t.q2.2.2, ?_⟩
    have n21 : ((1, l.length) : Nat × Nat) ≠ (2, l.length) := fun z => absurd (congrArg Prod.fst z) (show ¬ (1 : Nat) = 2 by decide)
    have n31 : ((1, l.length) : Nat × Nat) ≠ (3, l.length) := fun z => absurd (congrArg Prod.fst z) (show ¬ (1 : Nat) = 3 by decide)
    have n32 : ((3, l.length) : Nat × Nat) ≠ (2, l.length) := fun z => absurd (congrArg Prod.fst z) (show ¬ (3 : Nat) = 2 by decide)
    have n23 : ((2, l.length) : Nat × Nat) ≠ (3, l.length) := fun z => absurd (congrArg Prod.fst z) (show ¬ (2 : Nat) = 3 by decide)
    have n12 : ((2, l.length) : Nat × Nat) ≠ (1, l.length) := fun z => absurd (congrArg Prod.fst z) (show ¬ (2 : Nat) = 1 by decide)
    have n13 : ((3, l.length) : Nat × Nat) ≠ (1, l.length) := fun z => absurd (congrArg Prod.fst z) (show ¬ (3 : Nat) = 1 by decide)
    have eN : (Int32.ofNat fr.lp.length).toNatClampNeg = fr.lp.length := n_cl (by omega)
    have hin : vp_in (Int32.ofNat fr.lp.length) 4 := n_in z (by omega)
    -- limits first, then counts, then the number of loops
    have u2 := t.q2.ne t.q3 (e2 := .inl (g.2.1 0, 4, .inl (upd fl fr.lp.length b'))) n21
    have u3 := t.q3.put (e' := .inl (g.2.1 0, 4, .inl (upd fl fr.lp.length b')))
    have u4 := t.q4.ne t.q3 (e2 := .inl (g.2.1 0, 4, .inl (upd fl fr.lp.length b'))) n32
    have v2 := u2.ne u4 (e2 := .inl (g.2.1 0, 4, .inl (upd fc fr.lp.length c))) n31
    have v3 := u3.ne u4 (e2 := .inl (g.2.1 0, 4, .inl (upd fc fr.lp.length c))) n23
    have v4 := u4.put (e' := .inl (g.2.1 0, 4, .inl (upd fc fr.lp.length c)))
    have w2' := v2.put (e' := .inr (9, [va_rf (some a), .int (Int32.ofNat fr.nx), .ref x, .ref y, .int (Int32.ofNat (fr.lp.length + 1))]))
    have w3' := v3.ne v2 (e2 := .inr (9, [va_rf (some a), .int (Int32.ofNat fr.nx), .ref x, .ref y, .int (Int32.ofNat (fr.lp.length + 1))])) n12
    have w4' := v4.ne v2 (e2 := .inr (9, [va_rf (some a), .int (Int32.ofNat fr.nx), .ref x, .ref y, .int (Int32.ofNat (fr.lp.length + 1))])) n13
    have X2 : Xc l.length (ρ x) := by rw [t.q3.2.1]; exact ⟨Or.inr (Or.inl rfl), rfl⟩
    have X3 : Xc l.length (ρ y) := by rw [t.q4.2.1]; exact ⟨Or.inr (Or.inr rfl), rfl⟩
    have X1 : Xc l.length (ρ b) := by rw [t.q2.2.1]; exact ⟨Or.inl rfl, rfl⟩
    have hCh := Chg.put (e := .inr (9, [va_rf (some a), .int (Int32.ofNat fr.nx), .ref x, .ref y, .int (Int32.ofNat (fr.lp.length + 1))])) (Chg.put (e := .inl (g.2.1 0, 4, .inl (upd fc fr.lp.length c))) (Chg.put (e := .inl (g.2.1 0, 4, .inl (upd fl fr.lp.length b'))) (Chg.refl ρ (Xc l.length) S.2.2.2.2.2.2) X2) X3) X1
    unfold wp_Ca_beginLoop wq_Ca_beginLoop_38
    refine ⟨_, _, t.q2.1, t.q2.2.2, rfl, fun q => ?_, fun _ => ⟨_, _, t.q2.1, t.q2.2.2, rfl, _, _, t.q2.1, t.q2.2.2, rfl, 4, fl, t.q3.1, t.q3.2.2, hin, ?_⟩⟩
    · rw [r_le (by decide) (by omega)] at q
      omega
    rw [eN]
    refine ⟨_, _, u2.1, u2.2.2, rfl, _, _, u2.1, u2.2.2, rfl, 4, fc, u4.1, u4.2.2, hin, ?_⟩
    rw [eN]
    refine ⟨_, _, v2.1, v2.2.2, rfl, _, v2.1, v2.2.2, (show 4 < 5 by decide), ?_⟩
    rw [of_succ]
    have hC : CallAt g (S.2.2.2.2.1 1) S.2.2.2.2.2.1 _ ρ l.length (some a) (Int32.ofNat fr.nx) (Int32.ofNat (fr.lp.length + 1)) (upd fl fr.lp.length b') (upd fc fr.lp.length c) := ⟨b, x, y, t.q1, w2', w3', w4'⟩
    have h1 := h.calls (l' := ⟨fr.w, fr.nx, (c, b') :: fr.lp⟩ :: l) hCh ⟨_, _, _, _, _, hC⟩ t.q10 (show l.length + 1 ≤ 16 by have := t.q9; omega) ⟨⟨a, _, _, t.q0, hC, ⟨?_, t.q5.put (by simp)⟩, ⟨?_, t.q6.put (by simp)⟩, (show fr.lp.length + 1 ≤ 4 by omega)⟩, t.q8.chg hCh (fun c hc => ⟨Xc_ne (by omega), Xc_ne (by omega), Xc_ne (by omega)⟩)⟩
    · refine c_drop (n := 2) h1 (show 2 ≤ A.ds.length by rw [hd]; simp) (fun S2 h2 => k _ (RCr.ok ?_))
      have e2 : A.ds.drop 2 = r := by rw [hd]; rfl
      have h2 : RC g ρ (Ab.set_cs (Ab.set_ds A (A.ds.drop 2)) (⟨fr.w, fr.nx, (c, b') :: fr.lp⟩ :: l)) S2 := h2
      rw [e2] at h2
      exact h2
    · rw [List.length_map]
      exact upd_at _ _ _
    · rw [List.length_map]
      exact upd_at _ _ _
  · rw [if_neg z] at k
    exact k _ (RCr.no (by decide) h.toRCw)
