theorem CD.of {A : Ab} (hcs : A.cs = []) (h1 : ∀ w ∈ A.ws, WdOK A.ws.length w) (h2 : A.fu ≤ 600) (h3 : A.ws.length ≤ 24) (h4 : ∀ w ∈ A.ws, nmOK w.nm) (h5 : ∀ w, A.dr = some w → DrOK A.ws.length w A.op ∧ nmOK w.nm ∧ A.ws.length < 24) : CD A :=
  (CD.mk (h1) ((fun fr hf => by rw [hcs] at hf; cases hf)) (h2) (h3) (fun fr hf => (by rw [hcs] at hf; cases hf)) (h4) (h5))
theorem CD.kp {A A' : Ab} (h : CD A) (k : Kp A A') : CD A' :=
  (CD.mk ((h.toCO.kp k).ws) ((h.toCO.kp k).cs) ((h.toCO.kp k).fu) ((h.toCO.kp k).wl) ((h.toCO.kp k).cw) (by rw [k.ws]; exact h.nms) (by rw [k.ws, k.dr, k.op]; exact h.dr))
theorem compR_cd {A : Ab} {w : Wd} {kd : Nat} {num : Int32} (h : CD A) (hcs : A.cs = []) (hd : A.dr = some w) (hi : ∀ nd : Nat → Nat, nd (w.it.length + 1) = nd w.it.length → itOK (A.ws.length + 1) (w.it.length + 1) nd w.it.length (kd, num)) (hk : ∀ d, ndN kd d = d) (h0 : (compR A w kd num A.op id).1 = 0) : CD (compR A w kd num A.op id).2 := by
  obtain ⟨hD, hn, hm⟩ := h.dr w hd
  unfold compR at h0 ⊢
  by_cases e : w.it.length < 60
  · rw [if_pos e]
    refine CD.of hcs h.ws h.fu h.wl h.nms (fun v hv => ?_)
    cases hv
    refine ⟨(hD.dx.add (kd := kd) (num := num) e (Or.inl (hi _ ?_)) (fun i _ q => q)).dr ?_ hD.ops.add, hn, hm⟩
    · rw [add_nd1, add_nd (Nat.le_refl _), hk]
    · show (addIt w kd num).nd (addIt w kd num).it.length = _
      rw [nd_len, hk]
      exact hD.ndl
  · rw [if_neg e] at h0
    exact absurd h0 (show (3 : Int32) ≠ 0 by decide)
theorem mkW_ok (m : Nat) (l : List Int32) (v : Int32) : WdOK m (mkW l v) := by
  refine ⟨rfl, by simp [mkW, addIt, wd0, Wd.it], fun i p hp => ?_⟩
  have hp : [(1, v)][i]? = some p := hp
  match i with
  | 0 =>
    simp at hp
    subst hp
    exact rfl
  | i + 1 => simp at hp
theorem ws_add {A : Ab} {w : Wd} (h : CD A) (hw : WdOK (A.ws.length + 1) w) : ∀ v ∈ A.ws ++ [w], WdOK (A.ws ++ [w]).length v := by
  intro v hv
  have e : (A.ws ++ [w]).length = A.ws.length + 1 := by simp
  rw [e]
  rcases List.mem_append.mp hv with q | q
  · exact (h.ws v q).mono
  · simp at q
    subst q
    exact hw
theorem nms_add {A : Ab} {w : Wd} (h : CD A) (hw : nmOK w.nm) : ∀ v ∈ A.ws ++ [w], nmOK v.nm := by
  intro v hv
  rcases List.mem_append.mp hv with q | q
  · exact h.nms v q
  · simp at q
    subst q
    exact hw
theorem parA_cd {A : Ab} {t : Nat} (h : CD A) (hcs : A.cs = []) (hX : ∀ c ∈ A.tx, okB c) (h0 : (parA t A).1 = 0) : CD (parA t A).2 := by
  unfold parA at h0 ⊢
  split at h0
  · exact absurd h0 (show (6 : Int32) ≠ 0 by decide)
  · rename_i hd
    have hdn : ∀ {B : Ab}, B.dr = A.dr → ∀ w, B.dr = some w → DrOK B.ws.length w B.op ∧ nmOK w.nm ∧ B.ws.length < 24 := by
      intro B e w hw
      rw [e, hd] at hw
      cases hw
    split at h0
    · split at h0
      · exact absurd h0 (show (6 : Int32) ≠ 0 by decide)
      · rename_i c1 c2
        rw [if_pos c1, if_neg c2]
        have hlast : A.ws.length - 1 < A.ws.length := by omega
        have el : (setIm A.ws).length = A.ws.length := by simp [setIm]
        have hmem : ∀ v ∈ setIm A.ws, v ∈ A.ws ∨ ∃ u ∈ A.ws, v = imW u := by
          intro v hv
          rcases List.mem_or_eq_of_mem_set hv with q | q
          · exact Or.inl q
          · refine Or.inr ⟨A.ws[A.ws.length - 1], List.getElem_mem hlast, ?_⟩
            rw [q, List.getD_eq_getElem?_getD, List.getElem?_eq_getElem hlast]
            rfl
        refine CD.of hcs (fun v hv => ?_) h.fu (by show (setIm A.ws).length ≤ 24; rw [el]; exact h.wl) (fun v hv => ?_) (fun w hw => by rw [show A.dr = some w from hw] at hd; cases hd)
        · show WdOK (setIm A.ws).length v
          rw [el]
          rcases hmem v hv with q | ⟨u, q, e⟩
          · exact h.ws v q
          · subst e
            exact ⟨(h.ws u q).nd0, (h.ws u q).len, (h.ws u q).it⟩
        · rcases hmem v hv with q | ⟨u, q, e⟩
          · exact h.nms v q
          · subst e
            exact h.nms u q
    · rename_i c1
      rw [if_neg c1]
      split at h0
      · rename_i c2
        rw [if_pos c2]
        have hnm : nmOK (tokL (nextT A)) := by
          obtain ⟨h1, h2, -⟩ := isNameL_len c2
          refine ⟨h1, h2, fun c hc => hX c (List.mem_of_mem_drop (List.mem_of_mem_take hc))⟩
        have hN : CD (nextP A) := CD.of hcs h.ws h.fu h.wl h.nms (fun w hw => by rw [show A.dr = some w from hw] at hd; cases hd)
        generalize tokL (nextT A) = l at h0 hnm ⊢
        have push : ∀ v, CD (pushR (nextP A) v).2 := fun v => hN.kp (kp_push _ v)
        unfold parB at h0 ⊢
        split at h0
        · split at h0
          · exact absurd h0 (show (1 : Int32) ≠ 0 by decide)
          · exact push _
        · split at h0
          · split at h0
            · rename_i c3 c4
              rw [if_pos c3, if_pos c4]
              have c3 : A.ws.length < 24 := c3
              refine CD.of hcs (ws_add hN (mkW_ok ..)) h.fu (by show (A.ws ++ [_]).length ≤ 24; simp; omega) (nms_add hN hnm) (fun w hw => by rw [show A.dr = some w from hw] at hd; cases hd)
            · exact absurd h0 (show (3 : Int32) ≠ 0 by decide)
          · exact absurd h0 (show (3 : Int32) ≠ 0 by decide)
        · unfold w1 at h0 ⊢
          split at h0
          · rename_i hds
            dsimp only at h0 ⊢
            split at h0
            · rename_i c3
              rw [if_pos c3]
              have c3 : A.ws.length < 24 := c3
              refine CD.of hcs (ws_add hN (mkW_ok ..)) h.fu (by show (A.ws ++ [_]).length ≤ 24; simp; omega) (nms_add hN hnm) (fun w hw => by rw [show A.dr = some w from hw] at hd; cases hd)
            · exact absurd h0 (show (3 : Int32) ≠ 0 by decide)
          · exact absurd h0 (show (2 : Int32) ≠ 0 by decide)
        · split at h0
          · rename_i c3
            rw [if_pos c3]
            have c3 : A.ws.length < 24 := c3
            refine CD.of hcs h.ws h.fu h.wl h.nms (fun w hw => ?_)
            cases hw
            exact ⟨⟨rfl, Nat.zero_le _, rfl, rfl, trivial, fun i p hp => by simp [wd0, Wd.it] at hp⟩, hnm, c3⟩
          · exact absurd h0 (show (3 : Int32) ≠ 0 by decide)
      · exact absurd h0 (show (6 : Int32) ≠ 0 by decide)
theorem ctl_cd {A : Ab} {t : Nat} (h : CD A) (hcs : A.cs = []) (ht : 40 ≤ t ∧ t ≤ 51) (h0 : (ctl t A).1 = 0) : CD (ctl t A).2 := by
  unfold ctl at h0 ⊢
  split at h0
  · exact absurd h0 (show (6 : Int32) ≠ 0 by decide)
  · rename_i w hd
    obtain ⟨hD, hn, hm⟩ := h.dr w hd
    by_cases e : t = 40
    · subst e
      have e : ctlW 40 A w = match A.op with
        | [] => (0, (Ab.set_dr (Ab.set_ws A (A.ws ++ [w])) (none)))
        | _ => (6, A) := rfl
      rw [e] at h0 ⊢
      split at h0
      · rename_i ho
        refine CD.of hcs (ws_add h ⟨hD.nd0, hD.len, fun i p hp => ?_⟩) h.fu (by show (A.ws ++ [_]).length ≤ 24; simp; omega) (nms_add h hn) (fun w hw => by cases hw)
        rcases hD.it i p hp with q | ⟨x, hx, -⟩
        · exact q
        · rw [ho] at hx
          cases hx
      · exact absurd h0 (show (6 : Int32) ≠ 0 by decide)
    · obtain ⟨w', e1, e2, e3, e4, e5, e6⟩ := ctlW_dr (by omega) hd hD h0
      refine CD.of (e5.trans hcs) (by rw [e4]; exact h.ws) (by rw [e6]; exact h.fu) (by rw [e4]; exact h.wl) (by rw [e4]; exact h.nms) (fun v hv => ?_)
      rw [e1] at hv
      cases hv
      rw [e4, e2]
      exact ⟨e3, hn, hm⟩
theorem rdT_cd {A : Ab} {l : List Int32} (h : CD A) (hcs : A.cs = []) (hX : ∀ c ∈ A.tx, okB c) (h0 : (rdT A l).1 = 0) : CD (rdT A l).2 := by
  unfold rdT at h0 ⊢
  split at h0
  · rename_i c1
    rw [if_pos c1]
    split at h0
    · rename_i w hd
      exact compR_cd h hcs hd (fun nd e => e) (fun d => rfl) h0
    · exact h.kp (kp_push _ _)
  · rename_i c1
    rw [if_neg c1]
    split at h0
    · exact absurd h0 (show (1 : Int32) ≠ 0 by decide)
    · rename_i t ef
      have ht := findA_lt ef
      split at h0
      · rename_i c2
        rw [if_pos c2]
        exact parA_cd h hcs hX h0
      · rename_i c2
        rw [if_neg c2]
        split at h0
        · rename_i c3
          rw [if_pos c3]
          exact ctl_cd h hcs c3 h0
        · rename_i c3
          rw [if_neg c3]
          have hT : t = 31 ∨ okT A.ws.length t := by unfold okT; omega
          split at h0
          · rename_i w hd
            split at h0
            · rename_i c4
              rw [if_pos c4]
              exact h.kp (kp_P hT)
            · rename_i c4
              rw [if_neg c4]
              exact compR_cd h hcs hd (fun nd e => itOK_w e (hT.imp id okT.mono)) (fun d => rfl) h0
          · exact h.kp (kp_P hT)
theorem readA_cd {A : Ab} (h : CD A) (hcs : A.cs = []) (hX : ∀ c ∈ A.tx, okB c) (h0 : (readA A).1 = 0) : CD (readA A).2 := by
  unfold readA at h0 ⊢
  split at h0
  · exact absurd h0 (show (7 : Int32) ≠ 0 by decide)
  · rename_i c
    rw [if_neg c]
    have h1 : CD (Ab.set_fu A (A.fu - 1)) := CD.of hcs h.ws (by have := h.fu; show A.fu - 1 ≤ 600; omega) h.wl h.nms h.dr
    exact rdT_cd h1 hcs hX h0
theorem finA_cd {A : Ab} {n : Nat} (h : CD A) (hm : mea A ≤ n) (h0 : (finA n A).1 = 0) : CD (finA n A).2 ∧ (finA n A).2.cs = [] := by
  obtain ⟨h1, h2, h3, h4, -⟩ := finA_co n A h.toCO hm
  obtain ⟨h5, h6⟩ := h1 h0
  exact ⟨(CD.mk (h5.ws) (h5.cs) (h5.fu) (h5.wl) (h5.cw) (by rw [h2]; exact h.nms) (by rw [h2, h3, h4]; exact h.dr)), h6⟩
/-- the text read to its end -/
def runA : Nat → Ab → Int32 × Ab
  | 0, A => (0, A)
  | n + 1, A => if (nextT A).tl = 0 then (0, nextT A) else if (tokA (nextT A)).1 = 0 then runA n (tokA (nextT A)).2 else tokA (nextT A)
