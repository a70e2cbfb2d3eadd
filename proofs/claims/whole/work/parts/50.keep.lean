/-- the place of the token and the builder's text -/
def tb (A : Ab) : Nat × List Int32 := (A.tk, A.bt)
/-- what doing a word leaves as it is -/
def Kp (A A' : Ab) : Prop := (A'.ws = A.ws) ∧ (A'.dr = A.dr) ∧ (A'.op = A.op) ∧ (A'.fu = A.fu) ∧ (A'.tx = A.tx) ∧ (A'.pos = A.pos) ∧ (A'.pb = A.pb) ∧ (tb A' = tb A) ∧ (A'.cs = A.cs ∨ (∃ fr, A.cs = fr :: A'.cs) ∨ ∃ w, w < A.ws.length ∧ A'.cs = ⟨w, 0, []⟩ :: A.cs)
theorem Kp.ws {A A' : Ab} (h : Kp A A') : A'.ws = A.ws := h.1
theorem Kp.dr {A A' : Ab} (h : Kp A A') : A'.dr = A.dr := h.2.1
theorem Kp.op {A A' : Ab} (h : Kp A A') : A'.op = A.op := h.2.2.1
theorem Kp.fu {A A' : Ab} (h : Kp A A') : A'.fu = A.fu := h.2.2.2.1
theorem Kp.tx {A A' : Ab} (h : Kp A A') : A'.tx = A.tx := h.2.2.2.2.1
theorem Kp.ps {A A' : Ab} (h : Kp A A') : A'.pos = A.pos := h.2.2.2.2.2.1
theorem Kp.pb {A A' : Ab} (h : Kp A A') : A'.pb = A.pb := h.2.2.2.2.2.2.1
theorem Kp.tk {A A' : Ab} (h : Kp A A') : tb A' = tb A := h.2.2.2.2.2.2.2.1
theorem Kp.cs {A A' : Ab} (h : Kp A A') : A'.cs = A.cs ∨ (∃ fr, A.cs = fr :: A'.cs) ∨ ∃ w, w < A.ws.length ∧ A'.cs = ⟨w, 0, []⟩ :: A.cs := h.2.2.2.2.2.2.2.2
theorem Kp.mk {A A' : Ab} (ws0 : A'.ws = A.ws) (dr0 : A'.dr = A.dr) (op0 : A'.op = A.op) (fu0 : A'.fu = A.fu) (tx0 : A'.tx = A.tx) (ps0 : A'.pos = A.pos) (pb0 : A'.pb = A.pb) (tk0 : tb A' = tb A) (cs0 : A'.cs = A.cs ∨ (∃ fr, A.cs = fr :: A'.cs) ∨ ∃ w, w < A.ws.length ∧ A'.cs = ⟨w, 0, []⟩ :: A.cs) : Kp A A' := ⟨ws0, dr0, op0, fu0, tx0, ps0, pb0, tk0, cs0⟩
theorem Kp.refl (A : Ab) : Kp A A := ⟨rfl, rfl, rfl, rfl, rfl, rfl, rfl, rfl, Or.inl rfl⟩
theorem kp_w1 {A : Ab} {f : Int32 → List Int32 → Int32 × Ab} (h : ∀ c r, A.ds = c :: r → Kp A (f c r).2) : Kp A (w1 A f).2 := by
  unfold w1
  split
  · exact h _ _ ‹_›
  · exact Kp.refl A
theorem kp_w2 {A : Ab} {f : Int32 → Int32 → List Int32 → Int32 × Ab} (h : ∀ c b r, A.ds = c :: b :: r → Kp A (f c b r).2) : Kp A (w2 A f).2 := by
  unfold w2
  split
  · exact h _ _ _ ‹_›
  · exact Kp.refl A
theorem kp_w3 {A : Ab} {f : Int32 → Int32 → Int32 → List Int32 → Int32 × Ab} (h : ∀ c b a r, A.ds = c :: b :: a :: r → Kp A (f c b a r).2) : Kp A (w3 A f).2 := by
  unfold w3
  split
  · exact h _ _ _ _ ‹_›
  · exact Kp.refl A
theorem kp_push (A : Ab) (v : Int32) : Kp A (pushR A v).2 := by
  unfold pushR
  split
  · exact ⟨rfl, rfl, rfl, rfl, rfl, rfl, rfl, rfl, Or.inl rfl⟩
  · exact Kp.refl A
theorem kp_lp (A : Ab) (i : Nat) : Kp A (lpR A i).2 := by
  unfold lpR
  split
  · exact Kp.refl A
  · split
    · exact Kp.refl A
    · exact kp_push A _
theorem kp_get (A : Ab) (n : Nat) : (getB A n).ws = A.ws ∧ (getB A n).dr = A.dr ∧ (getB A n).op = A.op ∧ (getB A n).fu = A.fu ∧ (getB A n).tx = A.tx ∧ (getB A n).pos = A.pos ∧ (getB A n).pb = A.pb ∧ tb (getB A n) = tb A ∧ (getB A n).cs = A.cs ∧ (getB A n).ds = A.ds ∧ (getB A n).rs = A.rs ∧ (getB A n).pr = A.pr := by
  unfold getB
  split
  · exact ⟨rfl, rfl, rfl, rfl, rfl, rfl, rfl, rfl, rfl, rfl, rfl, rfl⟩
  · exact ⟨rfl, rfl, rfl, rfl, rfl, rfl, rfl, rfl, rfl, rfl, rfl, rfl⟩

theorem kp_0 (A : Ab) : Kp A (do0 A).2 := by
  unfold do0
  exact kp_w2 (fun c b r _ => ⟨rfl, rfl, rfl, rfl, rfl, rfl, rfl, rfl, Or.inl rfl⟩)
theorem kp_1 (A : Ab) : Kp A (do1 A).2 := by
  unfold do1
  exact kp_w2 (fun c b r _ => ⟨rfl, rfl, rfl, rfl, rfl, rfl, rfl, rfl, Or.inl rfl⟩)
theorem kp_2 (A : Ab) : Kp A (do2 A).2 := by
  unfold do2
  exact kp_w2 (fun c b r _ => ⟨rfl, rfl, rfl, rfl, rfl, rfl, rfl, rfl, Or.inl rfl⟩)
theorem kp_3 (A : Ab) : Kp A (do3 A).2 := by
  unfold do3
  refine kp_w2 (fun c b r _ => ?_)
  split
  · exact Kp.refl A
  · exact ⟨rfl, rfl, rfl, rfl, rfl, rfl, rfl, rfl, Or.inl rfl⟩
theorem kp_4 (A : Ab) : Kp A (do4 A).2 := by
  unfold do4
  refine kp_w2 (fun c b r _ => ?_)
  split
  · exact Kp.refl A
  · exact ⟨rfl, rfl, rfl, rfl, rfl, rfl, rfl, rfl, Or.inl rfl⟩
theorem kp_5 (A : Ab) : Kp A (do5 A).2 := by
  unfold do5
  exact kp_w2 (fun c b r _ => ⟨rfl, rfl, rfl, rfl, rfl, rfl, rfl, rfl, Or.inl rfl⟩)
theorem kp_6 (A : Ab) : Kp A (do6 A).2 := by
  unfold do6
  exact kp_w2 (fun c b r _ => ⟨rfl, rfl, rfl, rfl, rfl, rfl, rfl, rfl, Or.inl rfl⟩)
theorem kp_7 (A : Ab) : Kp A (do7 A).2 := by
  unfold do7
  exact kp_w2 (fun c b r _ => ⟨rfl, rfl, rfl, rfl, rfl, rfl, rfl, rfl, Or.inl rfl⟩)
theorem kp_8 (A : Ab) : Kp A (do8 A).2 := by
  unfold do8
  exact kp_w2 (fun c b r _ => ⟨rfl, rfl, rfl, rfl, rfl, rfl, rfl, rfl, Or.inl rfl⟩)
theorem kp_9 (A : Ab) : Kp A (do9 A).2 := by
  unfold do9
  exact kp_w2 (fun c b r _ => ⟨rfl, rfl, rfl, rfl, rfl, rfl, rfl, rfl, Or.inl rfl⟩)
theorem kp_10 (A : Ab) : Kp A (do10 A).2 := by
  unfold do10
  exact kp_w1 (fun c r _ => ⟨rfl, rfl, rfl, rfl, rfl, rfl, rfl, rfl, Or.inl rfl⟩)
theorem kp_11 (A : Ab) : Kp A (do11 A).2 := by
  unfold do11
  exact kp_w1 (fun c r _ => ⟨rfl, rfl, rfl, rfl, rfl, rfl, rfl, rfl, Or.inl rfl⟩)
theorem kp_13 (A : Ab) : Kp A (do13 A).2 := by
  unfold do13
  exact kp_w1 (fun c r _ => ⟨rfl, rfl, rfl, rfl, rfl, rfl, rfl, rfl, Or.inl rfl⟩)
theorem kp_18 (A : Ab) : Kp A (do18 A).2 := by
  unfold do18
  exact kp_w1 (fun c r _ => ⟨rfl, rfl, rfl, rfl, rfl, rfl, rfl, rfl, Or.inl rfl⟩)
theorem kp_12 (A : Ab) : Kp A (do12 A).2 := by
  unfold do12
  exact kp_w1 (fun c r _ => kp_push A _)
theorem kp_14 (A : Ab) : Kp A (do14 A).2 := by
  unfold do14
  exact kp_w2 (fun c b r _ => ⟨rfl, rfl, rfl, rfl, rfl, rfl, rfl, rfl, Or.inl rfl⟩)
theorem kp_15 (A : Ab) : Kp A (do15 A).2 := by
  unfold do15
  exact kp_w2 (fun c b r _ => kp_push A _)
theorem kp_16 (A : Ab) : Kp A (do16 A).2 := by
  unfold do16
  exact kp_w3 (fun c b a r _ => ⟨rfl, rfl, rfl, rfl, rfl, rfl, rfl, rfl, Or.inl rfl⟩)
theorem kp_17 (A : Ab) : Kp A (do17 A).2 := by
  unfold do17
  exact kp_push A _
theorem kp_22 (A : Ab) : Kp A (do22 A).2 := by
  unfold do22
  exact kp_push A _
theorem kp_19 (A : Ab) : Kp A (do19 A).2 := by
  unfold do19
  refine kp_w1 (fun c r _ => ?_)
  split
  · exact ⟨rfl, rfl, rfl, rfl, rfl, rfl, rfl, rfl, Or.inl rfl⟩
  · exact Kp.refl A
theorem kp_23 (A : Ab) : Kp A (do23 A).2 := by
  unfold do23
  refine kp_w1 (fun c r _ => ?_)
  split
  · exact ⟨rfl, rfl, rfl, rfl, rfl, rfl, rfl, rfl, Or.inl rfl⟩
  · exact Kp.refl A
theorem kp_24 (A : Ab) : Kp A (do24 A).2 := by
  unfold do24
  refine kp_w1 (fun c r _ => ?_)
  split
  · exact ⟨rfl, rfl, rfl, rfl, rfl, rfl, rfl, rfl, Or.inl rfl⟩
  · exact Kp.refl A
theorem kp_25 (A : Ab) : Kp A (do25 A).2 := by
  unfold do25
  refine kp_w1 (fun c r _ => ?_)
  split
  · exact ⟨rfl, rfl, rfl, rfl, rfl, rfl, rfl, rfl, Or.inl rfl⟩
  · exact Kp.refl A
theorem kp_20 (A : Ab) : Kp A (do20 A).2 := by
  unfold do20
  refine kp_w2 (fun c b r _ => ?_)
  split
  · exact ⟨rfl, rfl, rfl, rfl, rfl, rfl, rfl, rfl, Or.inl rfl⟩
  · exact Kp.refl A
theorem kp_21 (A : Ab) : Kp A (do21 A).2 := by
  unfold do21
  refine kp_w2 (fun c b r _ => ?_)
  split
  · exact ⟨rfl, rfl, rfl, rfl, rfl, rfl, rfl, rfl, Or.inl rfl⟩
  · exact Kp.refl A
theorem kp_26 (A : Ab) : Kp A (do26 A).2 := by
  unfold do26
  split
  · exact Kp.refl A
  · split
    · exact ⟨rfl, rfl, rfl, rfl, rfl, rfl, rfl, rfl, Or.inl rfl⟩
    · exact Kp.refl A
theorem kp_27 (A : Ab) : Kp A (do27 A).2 := by
  unfold do27
  split
  · exact Kp.refl A
  · exact kp_push A _
theorem kp_28 (A : Ab) : Kp A (do28 A).2 := by
  unfold do28
  exact kp_lp A 0
theorem kp_29 (A : Ab) : Kp A (do29 A).2 := by
  unfold do29
  exact kp_lp A 1
theorem kp_30 (A : Ab) : Kp A (do30 A).2 := by
  unfold do30
  split
  · exact Kp.refl A
  · exact ⟨rfl, rfl, rfl, rfl, rfl, rfl, rfl, rfl, Or.inr (Or.inl ⟨_, ‹_›⟩)⟩
theorem kp_37 (A : Ab) : Kp A (do37 A).2 := by
  unfold do37
  refine kp_w1 (fun c r _ => ?_)
  split
  · obtain ⟨h1, h2, h3, h4, h5, h6, h8, h9, h7, -⟩ := kp_get A c.toNatClampNeg
    exact ⟨h1, h2, h3, h4, h5, h6, h8, h9, Or.inl h7⟩
  · exact Kp.refl A
theorem kp_38 (A : Ab) : Kp A (do38 A).2 := by
  unfold do38
  show Kp A (match A.told with
    | none => A
    | some b => setU A b)
  split
  · exact Kp.refl A
  · exact ⟨rfl, rfl, rfl, rfl, rfl, rfl, rfl, rfl, Or.inl rfl⟩
theorem kp_39 (A : Ab) : Kp A (do39 A).2 := by
  unfold do39
  exact ⟨rfl, rfl, rfl, rfl, rfl, rfl, rfl, rfl, Or.inl rfl⟩
theorem kp_W {t : Nat} {A : Ab} (ht : okT A.ws.length t) : Kp A (doW t A).2 := by
  rcases ht with h1 | h1 | h1 | h1 | h1
  · match t, h1 with
    | 0, _ => exact kp_0 A
    | 1, _ => exact kp_1 A
    | 2, _ => exact kp_2 A
    | 3, _ => exact kp_3 A
    | 4, _ => exact kp_4 A
    | 5, _ => exact kp_5 A
    | 6, _ => exact kp_6 A
    | 7, _ => exact kp_7 A
    | 8, _ => exact kp_8 A
    | 9, _ => exact kp_9 A
    | 10, _ => exact kp_10 A
    | 11, _ => exact kp_11 A
    | 12, _ => exact kp_12 A
    | 13, _ => exact kp_13 A
    | 14, _ => exact kp_14 A
    | 15, _ => exact kp_15 A
    | 16, _ => exact kp_16 A
    | 17, _ => exact kp_17 A
    | 18, _ => exact kp_18 A
    | 19, _ => exact kp_19 A
    | 20, _ => exact kp_20 A
    | 21, _ => exact kp_21 A
    | 22, _ => exact kp_22 A
    | 23, _ => exact kp_23 A
    | 24, _ => exact kp_24 A
    | 25, _ => exact kp_25 A
    | 26, _ => exact kp_26 A
    | 27, _ => exact kp_27 A
    | 28, _ => exact kp_28 A
    | 29, _ => exact kp_29 A
    | 30, _ => exact kp_30 A
    | n + 31, h1 => omega
  · subst h1
    exact kp_37 A
  · subst h1
    exact kp_38 A
  · subst h1
    exact kp_39 A
  · rw [doW_C h1.1, doC]
    split
    · exact ⟨rfl, rfl, rfl, rfl, rfl, rfl, rfl, rfl, Or.inr (Or.inr ⟨_, by omega, rfl⟩)⟩
    · exact Kp.refl A
theorem kp_X {m : Nat} : ∀ (n : Nat) (A : Ab), A.ws.length = m → Kp A (doX m n A).2
  | 0, A, _ => Kp.refl A
  | n + 1, A, hm => by
    rw [doX]
    split
    · exact Kp.refl A
    · split
      · exact Kp.refl A
      · split
        · rename_i c r _ _ _
          obtain ⟨h1, h2, h3, h4, h6, h7, h8, h9, h5⟩ := kp_X n (Ab.set_ds A (r)) hm
          exact ⟨h1, h2, h3, h4, h6, h7, h8, h9, h5⟩
        · split
          · rename_i c r _ _ _ h
            obtain ⟨h1, h2, h3, h4, h6, h7, h8, h9, h5⟩ := kp_W (A := (Ab.set_ds A (r))) (by show okT A.ws.length _; rw [hm]; exact h)
            exact ⟨h1, h2, h3, h4, h6, h7, h8, h9, h5⟩
          · exact Kp.refl A
theorem kp_P {t : Nat} {A : Ab} (ht : t = 31 ∨ okT A.ws.length t) : Kp A (doP t A).2 := by
  unfold doP
  split
  · exact kp_X _ A rfl
  · exact kp_W (ht.resolve_left ‹_›)
theorem CO.kp {A A' : Ab} (h : CO A) (k : Kp A A') : CO A' := by
  obtain ⟨e1, -, -, e4, -, -, -, -, e5⟩ := k
  refine ⟨fun w hw => ?_, fun fr hf w hw => ?_, by rw [e4]; exact h.fu, by rw [e1]; exact h.wl, fun fr hf => ?_⟩
  · rw [e1] at hw ⊢
    exact h.ws w hw
  · rw [e1] at hw
    rcases e5 with e | ⟨fr', e⟩ | ⟨w', hw', e⟩
    · rw [e] at hf
      exact h.cs fr hf w hw
    · exact h.cs fr (by rw [e]; exact List.mem_cons_of_mem _ hf) w hw
    · rw [e] at hf
      rcases List.mem_cons.mp hf with e | e
      · subst e
        exact (h.ws w (List.mem_of_getElem? hw)).nd0
      · exact h.cs fr e w hw
  · rw [e1]
    rcases e5 with e | ⟨fr', e⟩ | ⟨w', hw', e⟩
    · rw [e] at hf
      exact h.cw fr hf
    · exact h.cw fr (by rw [e]; exact List.mem_cons_of_mem _ hf)
    · rw [e] at hf
      rcases List.mem_cons.mp hf with e | e
      · subst e
        exact ⟨A.ws[w'], List.getElem?_eq_getElem hw', Nat.zero_le _⟩
      · exact h.cw fr e
def mea (A : Ab) : Nat := 2 * A.fu + A.cs.length
theorem Kp.mle {A A' : Ab} (k : Kp A A') : mea A' ≤ mea A + 1 := by
  obtain ⟨-, -, -, e4, -, -, -, -, e5⟩ := k
  unfold mea
  rw [e4]
  rcases e5 with e | ⟨fr', e⟩ | ⟨w', hw', e⟩
  · rw [e]; omega
  · rw [e]; simp; omega
  · rw [e]; simp; omega
def StpR (A : Ab) (r : Int32 × Ab) : Prop := (r.1 = 0 → CO r.2 ∧ mea r.2 < mea A) ∧ r.2.ws = A.ws ∧ r.2.dr = A.dr ∧ r.2.op = A.op ∧ r.2.tx = A.tx ∧ r.2.pos = A.pos
/-- a step keeps the code sound, and comes nearer to the end -/
theorem stepA_ok {A : Ab} {fr : Fr} {l : List Fr} {w : Wd} (h : CO A) (hc : A.cs = fr :: l) (hw : A.ws[fr.w]? = some w) (hnx : fr.nx ≤ w.it.length) : StpR A (stepA A) := by
  have hB := h.wl
  have hnd := h.cs fr (by rw [hc]; exact List.mem_cons_self ..) w hw
  have hW := h.ws w (List.mem_of_getElem? hw)
  have hl : ∀ fr' ∈ l, ∀ w, A.ws[fr'.w]? = some w → w.nd fr'.nx = fr'.lp.length := fun fr' hf => h.cs fr' (by rw [hc]; exact List.mem_cons_of_mem _ hf)
  have hA : mea A = 2 * A.fu + (l.length + 1) := by unfold mea; rw [hc]; rfl
  have nw : ∀ (ds : List Int32) (n : Nat) (lp : List (Int32 × Int32)), w.nd n = lp.length → n ≤ w.it.length → CO (Ab.set_cs (Ab.set_fu (Ab.set_ds A (ds)) (A.fu - 1)) (⟨fr.w, n, lp⟩ :: l)) := by
    intro ds n lp hn hle
    refine ⟨h.ws, fun fr' hf w' hw' => ?_, by have := h.fu; show A.fu - 1 ≤ 600; omega, h.wl, fun fr' hf => ?_⟩
    rcases List.mem_cons.mp hf with e | e
    · subst e
      have : w' = w := by
        have hw' : A.ws[fr.w]? = some w' := hw'
        rw [hw] at hw'
        cases hw'
        rfl
      rw [this]
      exact hn
    · exact hl fr' e w' hw'
    · rcases List.mem_cons.mp hf with e | e
      · subst e
        exact ⟨w, hw, hle⟩
      · exact h.cw fr' (by rw [hc]; exact List.mem_cons_of_mem _ e)
  rw [stepA, hc]
  simp only [hw]
  match hp : w.it[fr.nx]? with
  | none =>
    refine ⟨fun _ => ⟨⟨h.ws, hl, h.fu, h.wl, fun fr' hf => h.cw fr' (by rw [hc]; exact List.mem_cons_of_mem _ hf)⟩, ?_⟩, rfl, rfl, rfl, rfl, rfl⟩
    rw [hA]
    show 2 * A.fu + l.length < _
    omega
  | some p =>
    have hi := hW.it _ _ hp
    have hlt : fr.nx < w.it.length := by
      rcases Nat.lt_or_ge fr.nx w.it.length with h' | h'
      · exact h'
      · simp [List.getElem?_eq_none h'] at hp
    dsimp only
    by_cases hf : A.fu = 0
    · rw [if_pos hf]
      exact ⟨fun z => absurd z (show (7 : Int32) ≠ 0 by decide), rfl, rfl, rfl, rfl, rfl⟩
    rw [if_neg hf]
    obtain ⟨kd, num⟩ := p
    have me : ∀ A2 : Ab, A2.fu = A.fu - 1 → A2.cs.length = l.length + 1 → mea A2 < mea A := by
      intro A2 e1 e2
      rw [hA]
      unfold mea
      rw [e1, e2]
      omega
    match kd, hi with
    | 0, hi =>
      obtain ⟨h1, t, e, ht⟩ := hi
      have e : num = Int32.ofNat t := e
      have et : num.toNatClampNeg = t := by rw [e]; exact n_cl (by unfold okT at ht; omega)
      show StpR A (doP num.toNatClampNeg _)
      rw [et]
      have kk := kp_P (A := (Ab.set_cs (Ab.set_fu A (A.fu - 1)) (⟨fr.w, fr.nx + 1, fr.lp⟩ :: l))) ht
      refine ⟨fun _ => ⟨(nw A.ds _ _ (by rw [h1]; exact hnd) hlt).kp kk, ?_⟩, kk.ws, kk.dr, kk.op, kk.tx, kk.ps⟩
      have h3 := kk.mle
      have h4 : mea (Ab.set_cs (Ab.set_fu A (A.fu - 1)) (⟨fr.w, fr.nx + 1, fr.lp⟩ :: l)) = 2 * (A.fu - 1) + (l.length + 1) := rfl
      rw [hA]
      omega
    | 1, hi =>
      have hi : w.nd (fr.nx + 1) = w.nd fr.nx := hi
      have kk := kp_push (Ab.set_cs (Ab.set_fu A (A.fu - 1)) (⟨fr.w, fr.nx + 1, fr.lp⟩ :: l)) num
      refine ⟨fun _ => ⟨(nw A.ds _ _ (by rw [hi]; exact hnd) hlt).kp kk, ?_⟩, kk.ws, kk.dr, kk.op, kk.tx, kk.ps⟩
      have h3 := kk.mle
      have h4 : mea (Ab.set_cs (Ab.set_fu A (A.fu - 1)) (⟨fr.w, fr.nx + 1, fr.lp⟩ :: l)) = 2 * (A.fu - 1) + (l.length + 1) := rfl
      show mea (pushR _ num).2 < _
      rw [hA]
      omega
    | 2, hi =>
      obtain ⟨h1, q, hq, e, h2⟩ := hi
      have e : num = Int32.ofNat q := e
      have et : num.toNatClampNeg = q := by rw [e]; exact n_cl (by have := hW.len; omega)
      show StpR A (w1 _ _)
      unfold w1
      split
      · refine ⟨fun _ => ⟨?_, ?_⟩, rfl, rfl, rfl, rfl, rfl⟩
        · dsimp only
          split
          · exact nw _ _ _ (by rw [et, h2]; exact hnd) (by rw [et]; exact hq)
          · exact nw _ _ _ (by rw [h1]; exact hnd) hlt
        · refine me _ rfl ?_
          dsimp only
          split <;> rfl
      · exact ⟨fun z => absurd z (show (2 : Int32) ≠ 0 by decide), rfl, rfl, rfl, rfl, rfl⟩
    | 3, hi =>
      obtain ⟨q, hq, e, h2⟩ := hi
      have e : num = Int32.ofNat q := e
      have et : num.toNatClampNeg = q := by rw [e]; exact n_cl (by have := hW.len; omega)
      exact ⟨fun _ => ⟨nw _ _ _ (by rw [et, h2]; exact hnd) (by rw [et]; exact hq), me _ rfl rfl⟩, rfl, rfl, rfl, rfl, rfl⟩
    | 4, hi =>
      have hi : w.nd (fr.nx + 1) = w.nd fr.nx + 1 := hi
      show StpR A (w2 _ _)
      unfold w2
      split
      · dsimp only
        by_cases h4 : fr.lp.length < 4
        · rw [if_pos h4]
          exact ⟨fun _ => ⟨nw _ _ _ (by rw [hi, hnd]; rfl) hlt, me _ rfl rfl⟩, rfl, rfl, rfl, rfl, rfl⟩
        · rw [if_neg h4]
          exact ⟨fun z => absurd z (show (3 : Int32) ≠ 0 by decide), rfl, rfl, rfl, rfl, rfl⟩
      · exact ⟨fun z => absurd z (show (2 : Int32) ≠ 0 by decide), rfl, rfl, rfl, rfl, rfl⟩
    | 5, hi =>
      obtain ⟨q, hq, e, h1, h2⟩ := hi
      have e : num = Int32.ofNat q := e
      have et : num.toNatClampNeg = q := by rw [e]; exact n_cl (by have := hW.len; omega)
      rw [doI_5]
      match hlp : fr.lp with
      | [] => rw [hlp] at hnd; simp at hnd; omega
      | x :: ql =>
        rw [hlp] at hnd
        simp at hnd
        dsimp only
        split
        · exact ⟨fun _ => ⟨nw _ _ _ (by omega) hlt, me _ rfl rfl⟩, rfl, rfl, rfl, rfl, rfl⟩
        · exact ⟨fun _ => ⟨nw _ _ _ (by rw [et, h2, hnd]; rfl) (by rw [et]; exact hq), me _ rfl rfl⟩, rfl, rfl, rfl, rfl, rfl⟩
/-- the calls that were begun, done to their end -/
def finA : Nat → Ab → Int32 × Ab
  | 0, A => (0, A)
  | n + 1, A => match A.cs with
    | [] => (0, A)
    | _ :: _ => if (stepA A).1 = 0 then finA n (stepA A).2 else stepA A
theorem m_fin {Q : StM → Prop} : ∀ (n : Nat) (A : Ab) (T : StM), RM A T → CO A → mea A ≤ n → (∀ T', RMr (finA n A) T' → Q T') → wq_M_read_127 Q (n + 1) T
  | n, A, T, h, hC, hm, k => by
    have hb := h.csB
    refine ⟨fun _ => ⟨fun z => ?_, fun z => ?_⟩, fun z => absurd h.err z⟩
    · rw [h.csE, l_le (by omega) (by decide)] at z
      have e : A.cs = [] := List.eq_nil_of_length_eq_zero (by omega)
      refine k _ ?_
      have : finA n A = (0, A) := by
        cases n with
        | zero => rfl
        | succ n => rw [finA, e]
      rw [this]
      exact RMr.ok h
    · rw [h.csE, l_le (by omega) (by decide)] at z
      match n, hc : A.cs with
      | _, [] => rw [hc] at z; simp at z
      | 0, fr :: l =>
        unfold mea at hm
        rw [hc] at hm
        simp at hm
      | n + 1, fr :: l =>
        refine m_step h hC hc (fun T1 h1 => ?_)
        obtain ⟨w, hw, hn⟩ := hC.cw fr (by rw [hc]; exact List.mem_cons_self ..)
        have hS := stepA_ok hC hc hw hn
        rw [finA, hc] at k
        dsimp only at k
        by_cases e : (stepA A).1 = 0
        · rw [if_pos e] at k
          exact m_fin n _ T1 (h1.1 e) (hS.1 e).1 (by have := (hS.1 e).2; omega) k
        · rw [if_neg e] at k
          have h2 := (h1.2 e).2
          exact ⟨fun z => absurd (h2.symm.trans z) e, fun _ => k _ h1⟩
theorem finA_co : ∀ (n : Nat) (A : Ab), CO A → mea A ≤ n → ((finA n A).1 = 0 → CO (finA n A).2 ∧ (finA n A).2.cs = []) ∧ (finA n A).2.ws = A.ws ∧ (finA n A).2.dr = A.dr ∧ (finA n A).2.op = A.op ∧ (finA n A).2.tx = A.tx ∧ (finA n A).2.pos = A.pos
  | 0, A, hC, hm => by
    have e : A.cs = [] := List.eq_nil_of_length_eq_zero (by unfold mea at hm; omega)
    exact ⟨fun _ => ⟨hC, e⟩, rfl, rfl, rfl, rfl, rfl⟩
  | n + 1, A, hC, hm => by
    match hc : A.cs with
    | [] =>
      have : finA (n + 1) A = (0, A) := by rw [finA, hc]
      rw [this]
      exact ⟨fun _ => ⟨hC, hc⟩, rfl, rfl, rfl, rfl, rfl⟩
    | fr :: l =>
      obtain ⟨w, hw, hn⟩ := hC.cw fr (by rw [hc]; exact List.mem_cons_self ..)
      have hS := stepA_ok hC hc hw hn
      have e1 : finA (n + 1) A = if (stepA A).1 = 0 then finA n (stepA A).2 else stepA A := by rw [finA, hc]
      rw [e1]
      by_cases e : (stepA A).1 = 0
      · rw [if_pos e]
        have ih := finA_co n _ (hS.1 e).1 (by have := (hS.1 e).2; omega)
        exact ⟨ih.1, ih.2.1.trans hS.2.1, ih.2.2.1.trans hS.2.2.1, ih.2.2.2.1.trans hS.2.2.2.1, ih.2.2.2.2.1.trans hS.2.2.2.2.1, ih.2.2.2.2.2.trans hS.2.2.2.2.2⟩
      · rw [if_neg e]
        exact ⟨fun z => absurd z e, hS.2⟩

