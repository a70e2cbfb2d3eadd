def wd0 (l : List Int32) : Wd := ⟨l, [], false, fun _ => 0⟩
def mkW (l : List Int32) (v : Int32) : Wd := addIt (wd0 l) 1 v
def setIm (ws : List Wd) : List Wd := ws.set (ws.length - 1) (imW (ws.getD (ws.length - 1) (wd0 [])))
def parB (k : Nat) (A : Ab) (l : List Int32) : Int32 × Ab := match k with
  | 32 => match findA A.ws l with
    | none => (1, A)
    | some t => pushR A (Int32.ofNat t)
  | 33 => if A.ws.length < 24 then if A.here < 64 then (0, (Ab.set_ws (Ab.set_here (Ab.set_mem A (upd A.mem A.here 0)) (A.here + 1)) (A.ws ++ [mkW l (Int32.ofNat A.here)]))) else (3, A) else (3, A)
  | 34 => w1 A fun c r => if A.ws.length < 24 then (0, (Ab.set_ws (Ab.set_ds A (r)) (A.ws ++ [mkW l c]))) else (3, A)
  | _ => if A.ws.length < 24 then (0, (Ab.set_op (Ab.set_dr A (some (wd0 l))) ([]))) else (3, A)
def nextP (A : Ab) : Ab := (Ab.set_tl (Ab.set_pos A (tkO A + tlO A)) (tlO A))
def parA (k : Nat) (A : Ab) : Int32 × Ab := match A.dr with
  | some _ => (6, A)
  | none => if k = 36 then (if A.ws.length = 0 then (6, A) else (0, (Ab.set_ws A (setIm A.ws)))) else if isNameL (tokL (nextT A)) = true then parB k (nextP A) (tokL (nextT A)) else (6, (nextP A))
theorem m_open {A : Ab} {T : StM} {Q : StM → Prop} {l : List Int32} (h : RM A T) (hd : A.dr = none) (hm : A.ws.length < 24) (ht : TkM T l) (k : ∀ T', RM A T' → WdM T' A.ws.length (wd0 l) → T'.1 = T.1 → Q T') : wp_M_open Q T := by
  unfold wp_M_open
  refine m_key ht ?_
  have e1 : 52 + T.1 20 = Int32.ofNat (52 + A.ws.length) := by
    rw [h.madeE]
    exact n_add 52 A.ws.length
  have en : (T.1 20).toNatClampNeg = A.ws.length := by rw [h.madeE, n_cl (by omega)]
  have hin : vp_in (T.1 20) 25 := by
    rw [h.madeE]
    exact n_in (by omega) (by omega)
  rw [e1, n_cl (by omega), en]
  refine ⟨n_in (by omega) (by omega), hin, hin, k _ (RM.mk (h.hereE) (h.hereB) (h.memE) (h.prE) (h.prB) (h.pbB) (h.outE) (h.fuE) (h.blkE) (h.hasE) (h.hasB) (h.upE) (h.toldE) (h.toldB) (h.upB) (h.toldH) (h.madeE) (h.madeB) (fun j v hj => ?_) (fun j hj => ?_) (h.txE) (h.txB) (h.txC) (h.txO) (h.posE) (h.posB) (h.tkE) (h.tlE) (h.err) (h.dsE) (h.dsB) (h.dsS) (h.rsE) (h.rsB) (h.rsS) (h.csE) (h.csB) (h.csS) (h.csW) (h.drE) (fun w hw => by rw [hd] at hw; cases hw) (h.opE) (h.opB) (h.opK) (h.opA)) ?_ rfl⟩
  · have hjl : j < A.ws.length := by
      rcases Nat.lt_or_ge j A.ws.length with h' | h'
      · exact h'
      · simp [List.getElem?_eq_none h'] at hj
    refine (h.wsE j v hj).low (upd_ne _ _ (by omega)) (upd_ne _ _ (by omega)) (fun _ _ => rfl) (fun _ _ => rfl) ?_
    show vp_updL T.2.2 (52 + A.ws.length) (keyN l) (52 + j) = _
    unfold vp_updL
    rw [if_neg (by omega)]
  · show vp_updL T.2.2 (52 + A.ws.length) (keyN l) j = _
    unfold vp_updL
    rw [if_neg (by omega)]
    exact h.namE j hj
  · refine (WdA.mk (?_) (upd_at _ _ _) (Nat.zero_le _) (fun i p hp => ?_) (?_))
    · show vp_updL T.2.2 (52 + A.ws.length) (keyN l) (52 + A.ws.length) = _
      unfold vp_updL
      rw [if_pos rfl]
      rfl
    · simp [wd0, Wd.it] at hp
    · show upd (T.2.1 16) A.ws.length (vp_nar .boolean 0) A.ws.length = _
      rw [upd_at]
      rfl
theorem m_comp0 {A : Ab} {T : StM} {Q : StM → Prop} {l : List Int32} {v : Int32} (h : RM A T) (hd : A.dr = none) (hm : A.ws.length < 24) (hw : WdM T A.ws.length (wd0 l)) (k : ∀ T', RM A T' → WdM T' A.ws.length (mkW l v) → T'.1 = T.1 → Q T') : wp_M_compile Q T 1 v := by
  have hin : vp_in (T.1 20) 25 := by
    rw [h.madeE]
    exact n_in (by omega) (by omega)
  have em : T.2.1 17 A.ws.length = Int32.ofNat 0 := hw.many
  have ei : 60 * T.1 20 + Int32.ofNat 0 = Int32.ofNat (60 * A.ws.length) := by
    rw [h.madeE, show (60 : Int32) = Int32.ofNat 60 from rfl, n_mul, n_add]
    rfl
  have en : (T.1 20).toNatClampNeg = A.ws.length := by rw [h.madeE, n_cl (by omega)]
  have hx : vp_in (Int32.ofNat (60 * A.ws.length)) 1500 := n_in (by omega) (by omega)
  unfold wp_M_compile
  rw [en, em, ei, n_cl (by omega)]
  refine ⟨hin, fun _ => ⟨hin, hx, hin, hx, hin, hin, k _ (RM.mk (h.hereE) (h.hereB) (h.memE) (h.prE) (h.prB) (h.pbB) (h.outE) (h.fuE) (h.blkE) (h.hasE) (h.hasB) (h.upE) (h.toldE) (h.toldB) (h.upB) (h.toldH) (h.madeE) (h.madeB) (fun j v hj => ?_) (h.namE) (h.txE) (h.txB) (h.txC) (h.txO) (h.posE) (h.posB) (h.tkE) (h.tlE) (h.err) (h.dsE) (h.dsB) (h.dsS) (h.rsE) (h.rsB) (h.rsS) (h.csE) (h.csB) (h.csS) (h.csW) (h.drE) (fun w hw => by rw [hd] at hw; cases hw) (h.opE) (h.opB) (h.opK) (h.opA)) ?_ rfl⟩, fun z => absurd (by decide) z⟩
  · have hjl : j < A.ws.length := by
      rcases Nat.lt_or_ge j A.ws.length with h' | h'
      · exact h'
      · simp [List.getElem?_eq_none h'] at hj
    exact (h.wsE j v hj).low rfl (upd_ne _ _ (by omega)) (fun i hi => upd_ne _ _ (by omega)) (fun i hi => upd_ne _ _ (by omega)) rfl
  · refine (WdA.mk (hw.nm) (?_) (by simp [mkW, addIt, wd0, Wd.it]) (fun i p hp => ?_) (hw.im))
    · show upd (T.2.1 17) A.ws.length (Int32.ofNat 0 + 1) A.ws.length = _
      rw [upd_at]
      rfl
    · have hp : [(1, v)][i]? = some p := hp
      match i with
      | 0 =>
        simp at hp
        subst hp
        exact ⟨upd_at _ _ _, upd_at _ _ _⟩
      | i + 1 => simp at hp
theorem RM.made {A : Ab} {T : StM} {w : Wd} (h : RM A T) (hd : A.dr = none) (hm : A.ws.length < 24) (hw : WdM T A.ws.length w) : RM (Ab.set_ws A (A.ws ++ [w])) (upd T.1 20 (T.1 20 + 1), T.2) := by
  refine (RM.mk (h.hereE) (h.hereB) (h.memE) (h.prE) (h.prB) (h.pbB) (h.outE) (h.fuE) (h.blkE) (h.hasE) (h.hasB) (h.upE) (h.toldE) (h.toldB) (h.upB) (h.toldH) (?_) (?_) (fun k v hk => ?_) (h.namE) (h.txE) (h.txB) (h.txC) (h.txO) (h.posE) (h.posB) (h.tkE) (h.tlE) (h.err) (h.dsE) (h.dsB) (h.dsS) (h.rsE) (h.rsB) (h.rsS) (h.csE) (h.csB) (h.csS) (?_) (h.drE) (fun w hw => by rw [show A.dr = some w from hw] at hd; cases hd) (h.opE) (h.opB) (h.opK) (h.opA))
  · show T.1 20 + 1 = Int32.ofNat (A.ws ++ [w]).length
    rw [h.madeE, of_succ]
    simp
  · show (A.ws ++ [w]).length ≤ 24
    simp
    omega
  · have hk : (A.ws ++ [w])[k]? = some v := hk
    by_cases e : k = A.ws.length
    · subst e
      rw [List.getElem?_append_right (Nat.le_refl _)] at hk
      simp at hk
      subst hk
      exact hw
    · have hi : k < A.ws.length := by
        rcases Nat.lt_or_ge k A.ws.length with h' | h'
        · exact h'
        · rw [List.getElem?_eq_none (by simp; omega)] at hk
          cases hk
      rw [List.getElem?_append_left hi] at hk
      exact h.wsE k v hk
  · intro fr hf
    obtain ⟨v, hv, hx⟩ := h.csW fr hf
    refine ⟨v, ?_, hx⟩
    have hi : fr.w < A.ws.length := by
      rcases Nat.lt_or_ge fr.w A.ws.length with h' | h'
      · exact h'
      · simp [List.getElem?_eq_none h'] at hv
    show (A.ws ++ [w])[fr.w]? = _
    rw [List.getElem?_append_left hi]
    exact hv
theorem RM.tk {A : Ab} {T : StM} {v : Int32} {n : Nat} (h : RM A T) (hv : v = Int32.ofNat n) : RM (Ab.set_tk A (n)) (upd T.1 3 v, T.2) := (RM.mk (h.hereE) (h.hereB) (h.memE) (h.prE) (h.prB) (h.pbB) (h.outE) (h.fuE) (h.blkE) (h.hasE) (h.hasB) (h.upE) (h.toldE) (h.toldB) (h.upB) (h.toldH) (h.madeE) (h.madeB) (h.wsE) (h.namE) (h.txE) (h.txB) (h.txC) (h.txO) (h.posE) (h.posB) (hv) (h.tlE) (h.err) (h.dsE) (h.dsB) (h.dsS) (h.rsE) (h.rsB) (h.rsS) (h.csE) (h.csB) (h.csS) (h.csW) (h.drE) (h.drW) (h.opE) (h.opB) (h.opK) (h.opA))
theorem RMw.tk {A : Ab} {T : StM} {v : Int32} {n : Nat} (h : RMw A T) (hv : v = Int32.ofNat n) : RMw (Ab.set_tk A (n)) (upd T.1 3 v, T.2) := (RMw.mk (h.hereE) (h.hereB) (h.memE) (h.prE) (h.prB) (h.pbB) (h.outE) (h.fuE) (h.blkE) (h.hasE) (h.hasB) (h.upE) (h.toldE) (h.toldB) (h.upB) (h.toldH) (h.madeE) (h.madeB) (h.wsE) (h.namE) (h.txE) (h.txB) (h.txC) (h.txO) (h.posE) (h.posB) (hv) (h.tlE))
theorem m_par36 {A : Ab} {T : StM} {Q : StM → Prop} (h : RM A T) (k : ∀ T', RMr (parA 36 A) T' → Q T') : wp_M_parsing Q T 36 := by
  simp (config := {decide := true}) only [wp_M_in, wq_M_in_14, wq_M_in_15, wq_M_parsing_181, wq_M_parsing_176, wq_M_parsing_167, wq_M_parsing_159, wq_M_parsing_135, wq_M_parsing_99, wq_M_parsing_34, wq_M_parsing_25, wp_M_parsing, wq_M_begin_75, wq_M_begin_36, wp_M_begin, true_implies, false_implies, not_true_eq_false, not_false_eq_true, and_true, true_and]
  have hB := h.madeB
  refine ⟨fun z => ⟨fun y => ?_, fun y => ?_⟩, fun z => ?_⟩
  · match hd : A.dr with
    | some w => exact absurd z ((ctl_dr h).2 w hd)
    | none =>
      refine m_fail h (by decide) (fun T' h1 h2 => k _ ?_)
      rw [h.madeE, l_eq (by omega) (by decide)] at y
      have e : parA 36 A = (6, A) := by rw [parA, hd]; simp [y]
      rw [e]
      exact RMr.no (by decide) h1 h2
  · match hd : A.dr with
    | some w => exact absurd z ((ctl_dr h).2 w hd)
    | none =>
      rw [h.madeE, l_eq (by omega) (by decide)] at y
      have e : parA 36 A = (0, (Ab.set_ws A (setIm A.ws))) := by
        rw [parA]
        split
        · rename_i q
          rw [hd] at q
          cases q
        · rw [if_pos rfl, if_neg y]
      have e1 : T.1 20 - 1 = Int32.ofNat (A.ws.length - 1) := by
        rw [h.madeE]
        exact n_sub (a := A.ws.length) (b := 1) (by omega)
      have hlast : A.ws.length - 1 < A.ws.length := by omega
      have el : (setIm A.ws).length = A.ws.length := by simp [setIm]
      rw [e1, n_cl (by omega)]
      refine ⟨n_in (by omega) (by omega), k _ ?_⟩
      rw [e]
      refine RMr.ok (RM.mk (h.hereE) (h.hereB) (h.memE) (h.prE) (h.prB) (h.pbB) (h.outE) (h.fuE) (h.blkE) (h.hasE) (h.hasB) (h.upE) (h.toldE) (h.toldB) (h.upB) (h.toldH) (by show T.1 20 = Int32.ofNat (setIm A.ws).length; rw [el]; exact h.madeE) (by show (setIm A.ws).length ≤ 24; rw [el]; exact hB) (fun j v hj => ?_) (h.namE) (h.txE) (h.txB) (h.txC) (h.txO) (h.posE) (h.posB) (h.tkE) (h.tlE) (h.err) (h.dsE) (h.dsB) (h.dsS) (h.rsE) (h.rsB) (h.rsS) (h.csE) (h.csB) (h.csS) (fun fr hf => ?_) (h.drE) (fun w hw => by rw [show A.dr = some w from hw] at hd; cases hd) (h.opE) (h.opB) (h.opK) (h.opA))
      · have hj : (A.ws.set (A.ws.length - 1) (imW (A.ws.getD (A.ws.length - 1) (wd0 []))))[j]? = some v := hj
        rw [List.getElem?_set] at hj
        by_cases q : A.ws.length - 1 = j
        · rw [if_pos q, if_pos hlast] at hj
          simp at hj
          subst hj
          subst q
          have h0 := h.wsE (A.ws.length - 1) A.ws[A.ws.length - 1] (List.getElem?_eq_getElem hlast)
          rw [List.getElem?_eq_getElem hlast]
          exact (WdA.mk (h0.nm) (h0.many) (h0.len) (h0.it) (upd_at _ _ _))
        · rw [if_neg q] at hj
          exact (h.wsE j v hj).low (upd_ne _ _ (fun z => q z.symm)) rfl (fun _ _ => rfl) (fun _ _ => rfl) rfl
      · obtain ⟨v, hv, hx⟩ := h.csW fr hf
        show ∃ w, (A.ws.set (A.ws.length - 1) (imW (A.ws.getD (A.ws.length - 1) (wd0 []))))[fr.w]? = some w ∧ _
        rw [List.getElem?_set]
        by_cases q : A.ws.length - 1 = fr.w
        · rw [if_pos q, if_pos hlast]
          refine ⟨_, rfl, ?_⟩
          rw [← q] at hv
          rw [List.getD_eq_getElem?_getD, hv]
          exact hx
        · rw [if_neg q]
          exact ⟨v, hv, hx⟩
  · match hd : A.dr with
    | none => exact absurd ((ctl_dr h).1 hd) z
    | some w =>
      refine m_fail h (by decide) (fun T' h1 h2 => k _ ?_)
      rw [parA, hd]
      exact RMr.no (by decide) h1 h2
theorem m_par32 {A : Ab} {T : StM} {Q : StM → Prop} (h : RM A T) (hw : ∀ w ∈ A.ws, nmOK w.nm) (k : ∀ T', RMr (parA 32 A) T' → Q T') : wp_M_parsing Q T 32 := by
  simp (config := {decide := true}) only [wp_M_in, wq_M_in_14, wq_M_in_15, wq_M_parsing_181, wq_M_parsing_176, wq_M_parsing_167, wq_M_parsing_159, wq_M_parsing_135, wq_M_parsing_99, wq_M_parsing_34, wq_M_parsing_25, wp_M_parsing, wq_M_begin_75, wq_M_begin_36, wp_M_begin, true_implies, false_implies, not_true_eq_false, not_false_eq_true, and_true, true_and]
  have hB := h.madeB
  refine ⟨fun z => ?_, fun z => ?_⟩
  · match hd : A.dr with
    | some w => exact absurd z ((ctl_dr h).2 w hd)
    | none =>
      have ep : parA 32 A = if isNameL (tokL (nextT A)) = true then parB 32 (nextP A) (tokL (nextT A)) else (6, (nextP A)) := by
        rw [parA]
        split
        · rename_i q
          rw [hd] at q
          cases q
        · rw [if_neg (by decide)]
      rw [ep] at k
      refine m_next h (fun T1 h1 => ?_)
      have htk : TkM T1 (tokL (nextT A)) := tok_tk h1.toRMw (nextT_le h.posB)
      have hok := tok_ok h1.toRMw
      have eMd : T1.1 20 = Int32.ofNat A.ws.length := h1.madeE
      refine m_find h1 hw htk hok (m_isName htk ?_)
      cases ei : isNameL (tokL (nextT A)) with
      | false =>
        rw [ei, if_neg (by decide)] at k
        exact ⟨fun _ => m_fail h1 (by decide) (fun T2 h3 h4 => k _ (RMr.no (by decide) (h3.tk h.tkE) h4)), fun z => absurd rfl z⟩
      | true =>
        rw [ei, if_pos rfl] at k
        refine ⟨fun z => absurd z (by decide), fun _ => ?_⟩
        rw [parB] at k
        have k : ∀ T', RMr (match findA A.ws (tokL (nextT A)) with
          | none => (1, nextP A)
          | some t => pushR (nextP A) (Int32.ofNat t)) T' → Q T' := k
        show (0 ≤ fE (findA A.ws (tokL (nextT A))) → wp_M_push _ _ (fE (findA A.ws (tokL (nextT A))))) ∧ (¬ 0 ≤ fE (findA A.ws (tokL (nextT A))) → _)
        refine ⟨fun y => ?_, fun y => ?_⟩
        · cases ef : findA A.ws (tokL (nextT A)) with
          | none =>
            rw [ef] at y
            exact absurd y (by decide)
          | some t =>
            rw [ef] at k
            show wp_M_push _ _ (Int32.ofNat t)
            refine m_push h1 (fun T2 h2 => k _ ?_)
            show RMr (pushR (nextP A) (Int32.ofNat t)) _
            unfold pushR at h2 ⊢
            by_cases hn : A.ds.length < 24
            · rw [if_pos (show (nextT A).ds.length < 24 from hn)] at h2
              rw [if_pos (show (nextP A).ds.length < 24 from hn)]
              exact RMr.ok ((h2.1 rfl).tk h.tkE)
            · rw [if_neg (show ¬ (nextT A).ds.length < 24 from hn)] at h2
              rw [if_neg (show ¬ (nextP A).ds.length < 24 from hn)]
              obtain ⟨h3, h4⟩ := h2.2 (show (3 : Int32) ≠ 0 by decide)
              exact RMr.no (by decide) (h3.tk h.tkE) h4
        · cases ef : findA A.ws (tokL (nextT A)) with
          | none =>
            rw [ef] at k
            exact m_fail h1 (by decide) (fun T2 h3 h4 => k _ (RMr.no (by decide) (h3.tk h.tkE) h4))
          | some t =>
            rw [ef] at y
            refine absurd ?_ y
            have := findA_lt ef
            show 0 ≤ Int32.ofNat t
            rw [r_le (by decide) (by omega)]
            exact Nat.zero_le _
  · match hd : A.dr with
    | none => exact absurd ((ctl_dr h).1 hd) z
    | some w =>
      refine m_fail h (by decide) (fun T' h1 h2 => k _ ?_)
      rw [parA, hd]
      exact RMr.no (by decide) h1 h2
theorem m_par33 {A : Ab} {T : StM} {Q : StM → Prop} (h : RM A T) (hw : ∀ w ∈ A.ws, nmOK w.nm) (k : ∀ T', RMr (parA 33 A) T' → Q T') : wp_M_parsing Q T 33 := by
  simp (config := {decide := true}) only [wp_M_in, wq_M_in_14, wq_M_in_15, wq_M_parsing_181, wq_M_parsing_176, wq_M_parsing_167, wq_M_parsing_159, wq_M_parsing_135, wq_M_parsing_99, wq_M_parsing_34, wq_M_parsing_25, wp_M_parsing, wq_M_begin_75, wq_M_begin_36, wp_M_begin, true_implies, false_implies, not_true_eq_false, not_false_eq_true, and_true, true_and]
  have hB := h.madeB
  refine ⟨fun z => ?_, fun z => ?_⟩
  · match hd : A.dr with
    | some w => exact absurd z ((ctl_dr h).2 w hd)
    | none =>
      have ep : parA 33 A = if isNameL (tokL (nextT A)) = true then parB 33 (nextP A) (tokL (nextT A)) else (6, (nextP A)) := by
        rw [parA]
        split
        · rename_i q
          rw [hd] at q
          cases q
        · rw [if_neg (by decide)]
      rw [ep] at k
      refine m_next h (fun T1 h1 => ?_)
      have htk : TkM T1 (tokL (nextT A)) := tok_tk h1.toRMw (nextT_le h.posB)
      have hok := tok_ok h1.toRMw
      have eMd : T1.1 20 = Int32.ofNat A.ws.length := h1.madeE
      refine m_find h1 hw htk hok (m_isName htk ?_)
      cases ei : isNameL (tokL (nextT A)) with
      | false =>
        rw [ei, if_neg (by decide)] at k
        exact ⟨fun _ => m_fail h1 (by decide) (fun T2 h3 h4 => k _ (RMr.no (by decide) (h3.tk h.tkE) h4)), fun z => absurd rfl z⟩
      | true =>
        rw [ei, if_pos rfl] at k
        refine ⟨fun z => absurd z (by decide), fun _ => ?_⟩
        rw [parB] at k
        have hH := h1.hereB
        have eH : T1.1 10 = Int32.ofNat A.here := h1.hereE
        have hH : A.here ≤ 64 := hH
        rw [eMd, eH, r_le (by decide) (by omega), l_lt (by omega) (by decide)]
        refine ⟨fun y => m_fail h1 (by decide) (fun T2 h3 h4 => k _ ?_), fun y => ⟨fun x => ?_, fun x => m_fail h1 (by decide) (fun T2 h3 h4 => k _ ?_)⟩⟩
        · show RMr (if A.ws.length < 24 then _ else _) _
          rw [if_neg (by omega)]
          exact RMr.no (by decide) (h3.tk h.tkE) h4
        · refine m_open h1 hd (by show A.ws.length < 24; omega) htk (fun T2 h2 w2 e2 => ?_)
          have eH2 : T2.1 10 = Int32.ofNat A.here := h2.hereE
          refine m_comp0 h2 hd (by show A.ws.length < 24; omega) w2 (fun T3 h3 w3 e3 => ⟨?_, k _ ?_⟩)
          · rw [e3, eH2]
            exact n_in (by omega) (by omega)
          · show RMr (if A.ws.length < 24 then if A.here < 64 then _ else _ else _) _
            rw [if_pos (by omega), if_pos x]
            have h5 := (h3.made hd (by show A.ws.length < 24; omega) w3).tk h.tkE
            rw [eH2] at h5
            have em := h5.memE
            have eH3 : T3.1 10 = Int32.ofNat A.here := h3.hereE
            refine RMr.ok (RM.mk ((congrArg (fun v => v + 1) eH3).trans (of_succ _)) (by show A.here + 1 ≤ 64; omega) (fun i hi => ?_) (h5.prE) (h5.prB) (h5.pbB) (h5.outE) (h5.fuE) (h5.blkE) (h5.hasE) (h5.hasB) (h5.upE) (h5.toldE) (h5.toldB) (h5.upB) (h5.toldH) (h5.madeE) (h5.madeB) (h5.wsE) (h5.namE) (h5.txE) (h5.txB) (h5.txC) (h5.txO) (h5.posE) (h5.posB) (h5.tkE) (h5.tlE) (h5.err) (h5.dsE) (h5.dsB) (h5.dsS) (h5.rsE) (h5.rsB) (h5.rsS) (h5.csE) (h5.csB) (h5.csS) (h5.csW) (h5.drE) (h5.drW) (h5.opE) (h5.opB) (h5.opK) (h5.opA))
            show upd (T3.2.1 9) (T3.1 10).toNatClampNeg 0 i = upd A.mem A.here 0 i
            rw [eH3, n_cl (by omega)]
            by_cases e : i = A.here
            · rw [e, upd_at, upd_at]
            · rw [upd_ne _ _ e, upd_ne _ _ e]
              exact em i hi
        · show RMr (if A.ws.length < 24 then if A.here < 64 then _ else _ else _) _
          rw [if_pos (by omega), if_neg x]
          exact RMr.no (by decide) (h3.tk h.tkE) h4
  · match hd : A.dr with
    | none => exact absurd ((ctl_dr h).1 hd) z
    | some w =>
      refine m_fail h (by decide) (fun T' h1 h2 => k _ ?_)
      rw [parA, hd]
      exact RMr.no (by decide) h1 h2
theorem m_par34 {A : Ab} {T : StM} {Q : StM → Prop} (h : RM A T) (hw : ∀ w ∈ A.ws, nmOK w.nm) (k : ∀ T', RMr (parA 34 A) T' → Q T') : wp_M_parsing Q T 34 := by
  simp (config := {decide := true}) only [wp_M_in, wq_M_in_14, wq_M_in_15, wq_M_parsing_181, wq_M_parsing_176, wq_M_parsing_167, wq_M_parsing_159, wq_M_parsing_135, wq_M_parsing_99, wq_M_parsing_34, wq_M_parsing_25, wp_M_parsing, wq_M_begin_75, wq_M_begin_36, wp_M_begin, true_implies, false_implies, not_true_eq_false, not_false_eq_true, and_true, true_and]
  have hB := h.madeB
  refine ⟨fun z => ?_, fun z => ?_⟩
  · match hd : A.dr with
    | some w => exact absurd z ((ctl_dr h).2 w hd)
    | none =>
      have ep : parA 34 A = if isNameL (tokL (nextT A)) = true then parB 34 (nextP A) (tokL (nextT A)) else (6, (nextP A)) := by
        rw [parA]
        split
        · rename_i q
          rw [hd] at q
          cases q
        · rw [if_neg (by decide)]
      rw [ep] at k
      refine m_next h (fun T1 h1 => ?_)
      have htk : TkM T1 (tokL (nextT A)) := tok_tk h1.toRMw (nextT_le h.posB)
      have hok := tok_ok h1.toRMw
      have eMd : T1.1 20 = Int32.ofNat A.ws.length := h1.madeE
      refine m_find h1 hw htk hok (m_isName htk ?_)
      cases ei : isNameL (tokL (nextT A)) with
      | false =>
        rw [ei, if_neg (by decide)] at k
        exact ⟨fun _ => m_fail h1 (by decide) (fun T2 h3 h4 => k _ (RMr.no (by decide) (h3.tk h.tkE) h4)), fun z => absurd rfl z⟩
      | true =>
        rw [ei, if_pos rfl] at k
        refine ⟨fun z => absurd z (by decide), fun _ => ?_⟩
        rw [parB] at k
        have k : ∀ T', RMr (w1 (nextP A) fun c r => if A.ws.length < 24 then (0, (Ab.set_ws (Ab.set_ds (nextP A) (r)) (A.ws ++ [mkW (tokL (nextT A)) c]))) else (3, (nextP A))) T' → Q T' := k
        refine m_needs (n := 1) h1 (by decide) (fun hn => ⟨fun z => absurd z (by decide), fun _ => ?_⟩) (fun hn T2 h3 h4 => ⟨fun _ => k _ ?_, fun z => absurd rfl z⟩)
        · match hs : A.ds with
          | [] => rw [show (nextT A).ds = A.ds from rfl, hs] at hn; simp at hn
          | c :: r =>
            have kk : ∀ T', RMr (if A.ws.length < 24 then (0, (Ab.set_ws (Ab.set_ds (nextP A) (r)) (A.ws ++ [mkW (tokL (nextT A)) c]))) else (3, (nextP A))) T' → Q T' := by
              intro T' h'
              refine k T' ?_
              rw [w1]
              show RMr (match A.ds with
                | c :: r => _
                | [] => _) T'
              rw [hs]
              exact h'
            rw [eMd, r_le (by decide) (by omega)]
            refine ⟨fun y => m_fail h1 (by decide) (fun T2 h3 h4 => kk _ ?_), fun y => ?_⟩
            · rw [if_neg (by omega)]
              exact RMr.no (by decide) (h3.tk h.tkE) h4
            · rw [if_pos (by omega)] at kk
              refine m_open h1 hd (by show A.ws.length < 24; omega) htk (fun T2 h2 w2 e2 => ?_)
              refine m_popE h2 hs (fun h3 => ?_)
              refine m_comp0 h3 hd (by show A.ws.length < 24; omega) w2 (fun T4 h4 w4 e4 => kk _ ?_)
              exact RMr.ok ((h4.made hd (by show A.ws.length < 24; omega) w4).tk h.tkE)
        · rw [w1]
          have hn : A.ds.length < 1 := hn
          have e : A.ds = [] := List.eq_nil_of_length_eq_zero (by omega)
          show RMr (match A.ds with
            | c :: r => _
            | [] => _) _
          rw [e]
          have e2 : upd (upd T2.1 3 (T.1 3)) 3 (T.1 3) = upd T2.1 3 (T.1 3) := by
            funext i
            by_cases q : i = 3
            · rw [q, upd_at, upd_at]
            · rw [upd_ne _ _ q]
          rw [e2]
          exact RMr.no (by decide) (h3.tk h.tkE) h4
  · match hd : A.dr with
    | none => exact absurd ((ctl_dr h).1 hd) z
    | some w =>
      refine m_fail h (by decide) (fun T' h1 h2 => k _ ?_)
      rw [parA, hd]
      exact RMr.no (by decide) h1 h2
theorem m_par35 {A : Ab} {T : StM} {Q : StM → Prop} (h : RM A T) (hw : ∀ w ∈ A.ws, nmOK w.nm) (k : ∀ T', RMr (parA 35 A) T' → Q T') : wp_M_parsing Q T 35 := by
  simp (config := {decide := true}) only [wp_M_in, wq_M_in_14, wq_M_in_15, wq_M_parsing_181, wq_M_parsing_176, wq_M_parsing_167, wq_M_parsing_159, wq_M_parsing_135, wq_M_parsing_99, wq_M_parsing_34, wq_M_parsing_25, wp_M_parsing, wq_M_begin_75, wq_M_begin_36, wp_M_begin, true_implies, false_implies, not_true_eq_false, not_false_eq_true, and_true, true_and]
  have hB := h.madeB
  refine ⟨fun z => ?_, fun z => ?_⟩
  · match hd : A.dr with
    | some w => exact absurd z ((ctl_dr h).2 w hd)
    | none =>
      have ep : parA 35 A = if isNameL (tokL (nextT A)) = true then parB 35 (nextP A) (tokL (nextT A)) else (6, (nextP A)) := by
        rw [parA]
        split
        · rename_i q
          rw [hd] at q
          cases q
        · rw [if_neg (by decide)]
      rw [ep] at k
      refine m_next h (fun T1 h1 => ?_)
      have htk : TkM T1 (tokL (nextT A)) := tok_tk h1.toRMw (nextT_le h.posB)
      have hok := tok_ok h1.toRMw
      have eMd : T1.1 20 = Int32.ofNat A.ws.length := h1.madeE
      refine m_find h1 hw htk hok (m_isName htk ?_)
      cases ei : isNameL (tokL (nextT A)) with
      | false =>
        rw [ei, if_neg (by decide)] at k
        exact ⟨fun _ => m_fail h1 (by decide) (fun T2 h3 h4 => k _ (RMr.no (by decide) (h3.tk h.tkE) h4)), fun z => absurd rfl z⟩
      | true =>
        rw [ei, if_pos rfl] at k
        refine ⟨fun z => absurd z (by decide), fun _ => ?_⟩

        rw [eMd, r_le (by decide) (by omega)]
        refine ⟨fun y => m_fail h1 (by decide) (fun T2 h3 h4 => k _ ?_), fun y => ?_⟩
        · show RMr (if A.ws.length < 24 then _ else _) _
          rw [if_neg (by omega)]
          exact RMr.no (by decide) (h3.tk h.tkE) h4
        · refine m_open h1 hd (by show A.ws.length < 24; omega) htk (fun T2 h2 w2 e2 => k _ ?_)
          show RMr (if A.ws.length < 24 then _ else _) _
          rw [if_pos (by omega)]
          have h3 := h2.tk h.tkE
          exact RMr.ok (RM.mk (h3.hereE) (h3.hereB) (h3.memE) (h3.prE) (h3.prB) (h3.pbB) (h3.outE) (h3.fuE) (h3.blkE) (h3.hasE) (h3.hasB) (h3.upE) (h3.toldE) (h3.toldB) (h3.upB) (h3.toldH) (h3.madeE) (h3.madeB) (h3.wsE) (h3.namE) (h3.txE) (h3.txB) (h3.txC) (h3.txO) (h3.posE) (h3.posB) (h3.tkE) (h3.tlE) (h3.err) (h3.dsE) (h3.dsB) (h3.dsS) (h3.rsE) (h3.rsB) (h3.rsS) (h3.csE) (h3.csB) (h3.csS) (h3.csW) (rfl) (fun w hw => by
              cases hw
              exact ⟨by show A.ws.length < 24; omega, w2⟩) (fun _ => rfl) (Nat.zero_le _) (fun _ => trivial) (fun _ => trivial))
  · match hd : A.dr with
    | none => exact absurd ((ctl_dr h).1 hd) z
    | some w =>
      refine m_fail h (by decide) (fun T' h1 h2 => k _ ?_)
      rw [parA, hd]
      exact RMr.no (by decide) h1 h2
