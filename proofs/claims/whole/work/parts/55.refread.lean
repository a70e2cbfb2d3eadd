theorem q_32 {A : Ab} {T : StM} {Q : StM → Prop} (h : RM A T) (hw : ∀ w ∈ A.ws, nmOK w.nm) (k : ∀ T', RMr (parA 32 A) T' → Q T') : wp_M_perform Q T 32 := by
  refine ⟨1, fun _ => ⟨fun z => absurd z (by decide), fun _ => ?_⟩, fun z => absurd h.err z⟩
  unfold wq_M_perform_23
  rw [h.err]
  simp (config := {decide := true}) only [wq_M_perform_224, true_implies, false_implies, not_true_eq_false, not_false_eq_true, and_true, true_and]
  exact m_par32 h hw k
theorem q_33 {A : Ab} {T : StM} {Q : StM → Prop} (h : RM A T) (hw : ∀ w ∈ A.ws, nmOK w.nm) (k : ∀ T', RMr (parA 33 A) T' → Q T') : wp_M_perform Q T 33 := by
  refine ⟨1, fun _ => ⟨fun z => absurd z (by decide), fun _ => ?_⟩, fun z => absurd h.err z⟩
  unfold wq_M_perform_23
  rw [h.err]
  simp (config := {decide := true}) only [wq_M_perform_224, true_implies, false_implies, not_true_eq_false, not_false_eq_true, and_true, true_and]
  exact m_par33 h hw k
theorem q_34 {A : Ab} {T : StM} {Q : StM → Prop} (h : RM A T) (hw : ∀ w ∈ A.ws, nmOK w.nm) (k : ∀ T', RMr (parA 34 A) T' → Q T') : wp_M_perform Q T 34 := by
  refine ⟨1, fun _ => ⟨fun z => absurd z (by decide), fun _ => ?_⟩, fun z => absurd h.err z⟩
  unfold wq_M_perform_23
  rw [h.err]
  simp (config := {decide := true}) only [wq_M_perform_224, true_implies, false_implies, not_true_eq_false, not_false_eq_true, and_true, true_and]
  exact m_par34 h hw k
theorem q_35 {A : Ab} {T : StM} {Q : StM → Prop} (h : RM A T) (hw : ∀ w ∈ A.ws, nmOK w.nm) (k : ∀ T', RMr (parA 35 A) T' → Q T') : wp_M_perform Q T 35 := by
  refine ⟨1, fun _ => ⟨fun z => absurd z (by decide), fun _ => ?_⟩, fun z => absurd h.err z⟩
  unfold wq_M_perform_23
  rw [h.err]
  simp (config := {decide := true}) only [wq_M_perform_224, true_implies, false_implies, not_true_eq_false, not_false_eq_true, and_true, true_and]
  exact m_par35 h hw k
theorem q_36 {A : Ab} {T : StM} {Q : StM → Prop} (h : RM A T) (k : ∀ T', RMr (parA 36 A) T' → Q T') : wp_M_perform Q T 36 := by
  refine ⟨1, fun _ => ⟨fun z => absurd z (by decide), fun _ => ?_⟩, fun z => absurd h.err z⟩
  unfold wq_M_perform_23
  rw [h.err]
  simp (config := {decide := true}) only [wq_M_perform_224, true_implies, false_implies, not_true_eq_false, not_false_eq_true, and_true, true_and]
  exact m_par36 h k
theorem q_40 {A : Ab} {T : StM} {Q : StM → Prop} (h : RM A T) (hO : ∀ w, A.dr = some w → OpOK w A.op) (k : ∀ T', RMr (ctl 40 A) T' → Q T') : wp_M_perform Q T 40 := by
  refine ⟨1, fun _ => ⟨fun z => absurd z (by decide), fun _ => ?_⟩, fun z => absurd h.err z⟩
  unfold wq_M_perform_23
  rw [h.err]
  simp (config := {decide := true}) only [wq_M_perform_224, true_implies, false_implies, not_true_eq_false, not_false_eq_true, and_true, true_and]
  exact m_c40 h hO k
theorem q_41 {A : Ab} {T : StM} {Q : StM → Prop} (h : RM A T) (hO : ∀ w, A.dr = some w → OpOK w A.op) (k : ∀ T', RMr (ctl 41 A) T' → Q T') : wp_M_perform Q T 41 := by
  refine ⟨1, fun _ => ⟨fun z => absurd z (by decide), fun _ => ?_⟩, fun z => absurd h.err z⟩
  unfold wq_M_perform_23
  rw [h.err]
  simp (config := {decide := true}) only [wq_M_perform_224, true_implies, false_implies, not_true_eq_false, not_false_eq_true, and_true, true_and]
  exact m_c41 h hO k
theorem q_42 {A : Ab} {T : StM} {Q : StM → Prop} (h : RM A T) (hO : ∀ w, A.dr = some w → OpOK w A.op) (k : ∀ T', RMr (ctl 42 A) T' → Q T') : wp_M_perform Q T 42 := by
  refine ⟨1, fun _ => ⟨fun z => absurd z (by decide), fun _ => ?_⟩, fun z => absurd h.err z⟩
  unfold wq_M_perform_23
  rw [h.err]
  simp (config := {decide := true}) only [wq_M_perform_224, true_implies, false_implies, not_true_eq_false, not_false_eq_true, and_true, true_and]
  exact m_c42 h hO k
theorem q_43 {A : Ab} {T : StM} {Q : StM → Prop} (h : RM A T) (hO : ∀ w, A.dr = some w → OpOK w A.op) (k : ∀ T', RMr (ctl 43 A) T' → Q T') : wp_M_perform Q T 43 := by
  refine ⟨1, fun _ => ⟨fun z => absurd z (by decide), fun _ => ?_⟩, fun z => absurd h.err z⟩
  unfold wq_M_perform_23
  rw [h.err]
  simp (config := {decide := true}) only [wq_M_perform_224, true_implies, false_implies, not_true_eq_false, not_false_eq_true, and_true, true_and]
  exact m_c43 h hO k
theorem q_44 {A : Ab} {T : StM} {Q : StM → Prop} (h : RM A T) (hO : ∀ w, A.dr = some w → OpOK w A.op) (k : ∀ T', RMr (ctl 44 A) T' → Q T') : wp_M_perform Q T 44 := by
  refine ⟨1, fun _ => ⟨fun z => absurd z (by decide), fun _ => ?_⟩, fun z => absurd h.err z⟩
  unfold wq_M_perform_23
  rw [h.err]
  simp (config := {decide := true}) only [wq_M_perform_224, true_implies, false_implies, not_true_eq_false, not_false_eq_true, and_true, true_and]
  exact m_c44 h hO k
theorem q_45 {A : Ab} {T : StM} {Q : StM → Prop} (h : RM A T) (hO : ∀ w, A.dr = some w → OpOK w A.op) (k : ∀ T', RMr (ctl 45 A) T' → Q T') : wp_M_perform Q T 45 := by
  refine ⟨1, fun _ => ⟨fun z => absurd z (by decide), fun _ => ?_⟩, fun z => absurd h.err z⟩
  unfold wq_M_perform_23
  rw [h.err]
  simp (config := {decide := true}) only [wq_M_perform_224, true_implies, false_implies, not_true_eq_false, not_false_eq_true, and_true, true_and]
  exact m_c45 h hO k
theorem q_46 {A : Ab} {T : StM} {Q : StM → Prop} (h : RM A T) (hO : ∀ w, A.dr = some w → OpOK w A.op) (k : ∀ T', RMr (ctl 46 A) T' → Q T') : wp_M_perform Q T 46 := by
  refine ⟨1, fun _ => ⟨fun z => absurd z (by decide), fun _ => ?_⟩, fun z => absurd h.err z⟩
  unfold wq_M_perform_23
  rw [h.err]
  simp (config := {decide := true}) only [wq_M_perform_224, true_implies, false_implies, not_true_eq_false, not_false_eq_true, and_true, true_and]
  exact m_c46 h hO k
theorem q_47 {A : Ab} {T : StM} {Q : StM → Prop} (h : RM A T) (hO : ∀ w, A.dr = some w → OpOK w A.op) (k : ∀ T', RMr (ctl 47 A) T' → Q T') : wp_M_perform Q T 47 := by
  refine ⟨1, fun _ => ⟨fun z => absurd z (by decide), fun _ => ?_⟩, fun z => absurd h.err z⟩
  unfold wq_M_perform_23
  rw [h.err]
  simp (config := {decide := true}) only [wq_M_perform_224, true_implies, false_implies, not_true_eq_false, not_false_eq_true, and_true, true_and]
  exact m_c47 h hO k
theorem q_48 {A : Ab} {T : StM} {Q : StM → Prop} (h : RM A T) (hO : ∀ w, A.dr = some w → OpOK w A.op) (k : ∀ T', RMr (ctl 48 A) T' → Q T') : wp_M_perform Q T 48 := by
  refine ⟨1, fun _ => ⟨fun z => absurd z (by decide), fun _ => ?_⟩, fun z => absurd h.err z⟩
  unfold wq_M_perform_23
  rw [h.err]
  simp (config := {decide := true}) only [wq_M_perform_224, true_implies, false_implies, not_true_eq_false, not_false_eq_true, and_true, true_and]
  exact m_c48 h hO k
theorem q_49 {A : Ab} {T : StM} {Q : StM → Prop} (h : RM A T) (hO : ∀ w, A.dr = some w → OpOK w A.op) (k : ∀ T', RMr (ctl 49 A) T' → Q T') : wp_M_perform Q T 49 := by
  refine ⟨1, fun _ => ⟨fun z => absurd z (by decide), fun _ => ?_⟩, fun z => absurd h.err z⟩
  unfold wq_M_perform_23
  rw [h.err]
  simp (config := {decide := true}) only [wq_M_perform_224, true_implies, false_implies, not_true_eq_false, not_false_eq_true, and_true, true_and]
  exact m_c49 h hO k
theorem q_50 {A : Ab} {T : StM} {Q : StM → Prop} (h : RM A T) (hO : ∀ w, A.dr = some w → OpOK w A.op) (k : ∀ T', RMr (ctl 50 A) T' → Q T') : wp_M_perform Q T 50 := by
  refine ⟨1, fun _ => ⟨fun z => absurd z (by decide), fun _ => ?_⟩, fun z => absurd h.err z⟩
  unfold wq_M_perform_23
  rw [h.err]
  simp (config := {decide := true}) only [wq_M_perform_224, true_implies, false_implies, not_true_eq_false, not_false_eq_true, and_true, true_and]
  exact m_c50 h hO k
theorem q_51 {A : Ab} {T : StM} {Q : StM → Prop} (h : RM A T) (hO : ∀ w, A.dr = some w → OpOK w A.op) (k : ∀ T', RMr (ctl 51 A) T' → Q T') : wp_M_perform Q T 51 := by
  refine ⟨1, fun _ => ⟨fun z => absurd z (by decide), fun _ => ?_⟩, fun z => absurd h.err z⟩
  unfold wq_M_perform_23
  rw [h.err]
  simp (config := {decide := true}) only [wq_M_perform_224, true_implies, false_implies, not_true_eq_false, not_false_eq_true, and_true, true_and]
  exact m_c51 h hO k
theorem q_par {A : Ab} {T : StM} {Q : StM → Prop} {t : Nat} (h : RM A T) (ht : 32 ≤ t ∧ t ≤ 36) (hw : ∀ w ∈ A.ws, nmOK w.nm) (k : ∀ T', RMr (parA t A) T' → Q T') : wp_M_perform Q T (Int32.ofNat t) := by
  match t, ht with
  | 32, _ => exact q_32 h hw k
  | 33, _ => exact q_33 h hw k
  | 34, _ => exact q_34 h hw k
  | 35, _ => exact q_35 h hw k
  | 36, _ => exact q_36 h k
  | n + 37, ht => omega
theorem q_ctl {A : Ab} {T : StM} {Q : StM → Prop} {t : Nat} (h : RM A T) (ht : 40 ≤ t ∧ t ≤ 51) (hO : ∀ w, A.dr = some w → OpOK w A.op) (k : ∀ T', RMr (ctl t A) T' → Q T') : wp_M_perform Q T (Int32.ofNat t) := by
  match t, ht with
  | 40, _ => exact q_40 h hO k
  | 41, _ => exact q_41 h hO k
  | 42, _ => exact q_42 h hO k
  | 43, _ => exact q_43 h hO k
  | 44, _ => exact q_44 h hO k
  | 45, _ => exact q_45 h hO k
  | 46, _ => exact q_46 h hO k
  | 47, _ => exact q_47 h hO k
  | 48, _ => exact q_48 h hO k
  | 49, _ => exact q_49 h hO k
  | 50, _ => exact q_50 h hO k
  | 51, _ => exact q_51 h hO k
  | n + 52, ht => omega
def imOf (ws : List Wd) (t : Nat) : Bool := if t < 100 then false else match ws[t - 100]? with
  | some w => w.im
  | none => false
def rdT (A : Ab) (l : List Int32) : Int32 × Ab := if isNumL l = true then (match A.dr with
    | some w => compR A w 1 (numL l) A.op id
    | none => pushR A (numL l)) else match findA A.ws l with
    | none => (1, A)
    | some t => if 32 ≤ t ∧ t ≤ 36 then parA t A else if 40 ≤ t ∧ t ≤ 51 then ctl t A else match A.dr with
      | some w => if imOf A.ws t = true then doP t A else compR A w 0 (Int32.ofNat t) A.op id
      | none => doP t A
def readA (A : Ab) : Int32 × Ab := if A.fu = 0 then (7, A) else rdT (Ab.set_fu A (A.fu - 1)) (tokL A)
def tokA (A : Ab) : Int32 × Ab := if (readA A).1 = 0 then finA 1300 (readA A).2 else readA A
/-- names, draft and code are sound -/
def CD (A : Ab) : Prop := CO A ∧ (∀ w ∈ A.ws, nmOK w.nm) ∧ (∀ w, A.dr = some w → DrOK A.ws.length w A.op ∧ nmOK w.nm ∧ A.ws.length < 24)
theorem CD.toCO {A : Ab} (h : CD A) : CO A := h.1
theorem CD.ws {A : Ab} (h : CD A) : ∀ w ∈ A.ws, WdOK A.ws.length w := h.1.ws
theorem CD.cs {A : Ab} (h : CD A) : ∀ fr ∈ A.cs, ∀ w, A.ws[fr.w]? = some w → w.nd fr.nx = fr.lp.length := h.1.cs
theorem CD.fu {A : Ab} (h : CD A) : A.fu ≤ 600 := h.1.fu
theorem CD.wl {A : Ab} (h : CD A) : A.ws.length ≤ 24 := h.1.wl
theorem CD.cw {A : Ab} (h : CD A) : ∀ fr ∈ A.cs, ∃ w, A.ws[fr.w]? = some w ∧ fr.nx ≤ w.it.length := h.1.cw
theorem CD.nms {A : Ab} (h : CD A) : ∀ w ∈ A.ws, nmOK w.nm := h.2.1
theorem CD.dr {A : Ab} (h : CD A) : ∀ w, A.dr = some w → DrOK A.ws.length w A.op ∧ nmOK w.nm ∧ A.ws.length < 24 := h.2.2
theorem CD.mk {A : Ab} (ws0 : ∀ w ∈ A.ws, WdOK A.ws.length w) (cs0 : ∀ fr ∈ A.cs, ∀ w, A.ws[fr.w]? = some w → w.nd fr.nx = fr.lp.length) (fu0 : A.fu ≤ 600) (wl0 : A.ws.length ≤ 24) (cw0 : ∀ fr ∈ A.cs, ∃ w, A.ws[fr.w]? = some w ∧ fr.nx ≤ w.it.length) (nms0 : ∀ w ∈ A.ws, nmOK w.nm) (dr0 : ∀ w, A.dr = some w → DrOK A.ws.length w A.op ∧ nmOK w.nm ∧ A.ws.length < 24) : CD A := ⟨⟨ws0, cs0, fu0, wl0, cw0⟩, nms0, dr0⟩
theorem finA_nil {A : Ab} (n : Nat) (h : A.cs = []) : finA n A = (0, A) := by
  cases n with
  | zero => rfl
  | succ n => rw [finA, h]
theorem m_stop {A : Ab} {T : StM} {Q : StM → Prop} (h : RM A T) (hc : A.cs = []) (k : Q T) : ∃ nn, wq_M_read_127 Q nn T := by
  refine ⟨1, fun _ => ⟨fun _ => k, fun z => absurd ?_ z⟩, fun z => absurd h.err z⟩
  rw [h.csE, hc]
  decide
theorem m_stopE {T : StM} {Q : StM → Prop} {e : Int32} (h : T.1 14 = e) (he : e ≠ 0) (k : Q T) : ∃ nn, wq_M_read_127 Q nn T :=
  ⟨1, fun z => absurd (h.symm.trans z) he, fun _ => k⟩
/-- what reading a token does to the calls: nothing, but where a word is done -/
theorem parA_cs (t : Nat) (A : Ab) : (parA t A).2.cs = A.cs := by
  unfold parA
  split
  · rfl
  · split
    · split <;> rfl
    · split
      · unfold parB
        split
        · split
          · rfl
          · unfold pushR
            split <;> rfl
        · split
          · split <;> rfl
          · rfl
        · unfold w1
          split
          · dsimp only
            split <;> rfl
          · rfl
        · split <;> rfl
      · rfl
theorem compR_cs (A : Ab) (w : Wd) (kd : Nat) (num : Int32) (op : List (Nat × Nat)) (f : Wd → Wd) : (compR A w kd num op f).2.cs = A.cs := by
  unfold compR
  split <;> rfl
theorem ctl_cs (t : Nat) (A : Ab) : (ctl t A).2.cs = A.cs := by
  unfold ctl
  split
  · rfl
  · unfold ctlW
    split
    · split <;> rfl
    · split
      · exact compR_cs ..
      · rfl
    · split
      · rfl
      · split <;> rfl
    · split
      · rfl
      · split
        · exact compR_cs ..
        · rfl
    · split <;> rfl
    · split
      · rfl
      · split
        · exact compR_cs ..
        · rfl
    · split
      · rfl
      · split
        · exact compR_cs ..
        · rfl
    · split
      · rfl
      · split
        · split
          · exact compR_cs ..
          · rfl
        · rfl
    · split
      · split
        · exact compR_cs ..
        · rfl
      · rfl
    · split
      · exact compR_cs ..
      · rfl
    · split
      · rfl
      · split
        · exact compR_cs ..
        · rfl
    · exact compR_cs ..
theorem m_loop {A : Ab} {T : StM} {Q : StM → Prop} {r : Int32 × Ab} (h : RMr r T) (hr : r.1 = 0 → CO r.2 ∧ mea r.2 ≤ 1300) (k : ∀ T', RMr (if r.1 = 0 then finA 1300 r.2 else r) T' → Q T') : ∃ nn, wq_M_read_127 Q nn T := by
  by_cases e : r.1 = 0
  · rw [if_pos e] at k
    exact ⟨1301, m_fin 1300 _ T (h.1 e) (hr e).1 (hr e).2 k⟩
  · rw [if_neg e] at k
    exact m_stopE (h.2 e).2 e (k _ h)
theorem mea_le {A : Ab} {T : StM} (h : RM A T) (hC : CO A) : mea A ≤ 1300 := by
  have := h.csB
  have := hC.fu
  unfold mea
  omega
theorem m_read {A : Ab} {T : StM} {Q : StM → Prop} (h : RM A T) (hC : CD A) (hcs : A.cs = []) (hB : A.tk + A.tl ≤ A.tx.length) (hl : 0 < A.tl) (k : ∀ T', RMr (tokA A) T' → Q T') : wp_M_read Q T := by
  unfold wp_M_read
  refine m_burn h hC.fu (fun hz T1 h1 h2 => ⟨fun z => absurd z (by rw [h2]; decide), fun _ => k _ ?_⟩) (fun hz T1 h1 => ⟨fun _ => ?_, fun z => absurd (by rw [h1.err]; decide) z⟩)
  · have : tokA A = (7, A) := by
      unfold tokA readA
      rw [if_pos hz]
      rfl
    rw [this]
    exact RMr.no (by decide) h1 h2
  have eR : readA A = rdT (Ab.set_fu A (A.fu - 1)) (tokL A) := by
    unfold readA
    rw [if_neg (by omega)]
  have htk : TkM T1 (tokL A) := tok_tk (A := (Ab.set_fu A (A.fu - 1))) h1.toRMw hB
  have hok : ∀ c ∈ tokL A, okB c := tok_ok h.toRMw
  have hlen := tok_len hB
  have hp : A.pr + A.fu ≤ A.pb := h.prB
  have hp1 : A.pr + (A.fu - 1) < A.pb := by omega
  have hC1 : CO (Ab.set_fu A (A.fu - 1)) := ⟨hC.ws, hC.cs, by have := hC.fu; show A.fu - 1 ≤ 600; omega, hC.wl, hC.cw⟩
  have hB20 := h.madeB
  unfold tokA at k
  rw [eR] at k
  unfold wq_M_read_148
  -- where the calls stay as they are
  have kn : ∀ (r : Int32 × Ab), rdT (Ab.set_fu A (A.fu - 1)) (tokL A) = r → r.2.cs = [] → ∀ T', RMr r T' → Q T' := by
    intro r e hc T' h'
    rw [e] at k
    by_cases e0 : r.1 = 0
    · rw [if_pos e0, finA_nil _ hc] at k
      refine k _ ?_
      exact RMr.ok (h'.1 e0)
    · rw [if_neg e0] at k
      exact k _ h'
  refine m_find h1 hC.nms htk hok (m_isNumber htk ?_)
  cases en : isNumL (tokL A) with
  | true =>
    refine ⟨fun z => absurd z (by decide), fun _ => ⟨fun z => ?_, fun z => ?_⟩⟩
    · match hd : A.dr with
      | some w => exact absurd z ((ctl_dr h1).2 w hd)
      | none =>
        refine m_number htk (by omega) (m_push h1 (fun T2 h2 => kn _ ?_ ?_ T2 h2))
        · rw [rdT, if_pos en]
          show (match A.dr with
            | some w => _
            | none => _) = _
          rw [hd]
        · unfold pushR
          split <;> exact hcs
    · match hd : A.dr with
      | none => exact absurd ((ctl_dr h1).1 hd) z
      | some w =>
        have er : rdT (Ab.set_fu A (A.fu - 1)) (tokL A) = compR (Ab.set_fu A (A.fu - 1)) w 1 (numL (tokL A)) A.op id := by
          rw [rdT, if_pos en]
          show (match A.dr with
            | some w => _
            | none => _) = _
          rw [hd]
          rfl
        refine m_number htk (by omega) (m_compile (kd := 1) h1 hd (fun hl T2 h2 => kn _ er ((compR_cs ..).trans hcs) T2 ?_) (fun hl T2 h2 h3 => kn _ er ((compR_cs ..).trans hcs) T2 ?_))
        · rw [compR, if_pos hl]
          exact RMr.ok h2
        · rw [compR, if_neg hl]
          exact RMr.no (by decide) h2 h3
  | false =>
    refine ⟨fun _ => ?_, fun z => absurd rfl z⟩
    have er0 : rdT (Ab.set_fu A (A.fu - 1)) (tokL A) = match findA A.ws (tokL A) with
        | none => (1, (Ab.set_fu A (A.fu - 1)))
        | some t => if 32 ≤ t ∧ t ≤ 36 then parA t (Ab.set_fu A (A.fu - 1)) else if 40 ≤ t ∧ t ≤ 51 then ctl t (Ab.set_fu A (A.fu - 1)) else match A.dr with
          | some w => if imOf A.ws t = true then doP t (Ab.set_fu A (A.fu - 1)) else compR (Ab.set_fu A (A.fu - 1)) w 0 (Int32.ofNat t) A.op id
          | none => doP t (Ab.set_fu A (A.fu - 1)) := by
      rw [rdT, if_neg (by rw [en]; decide)]
      rfl
    have eWs : ((Ab.set_fu A (A.fu - 1)) : Ab).ws = A.ws := rfl
    rw [eWs]
    cases ef : findA A.ws (tokL A) with
    | none =>
      refine ⟨fun z => absurd z (by decide), fun _ => m_fail h1 (by decide) (fun T2 h2 h3 => kn _ ?_ hcs T2 (RMr.no (A := (Ab.set_fu A (A.fu - 1))) (e := 1) (by decide) h2 h3))⟩
      rw [er0, ef]
    | some t =>
      have ht := findA_lt ef
      rw [ef] at er0
      dsimp only at er0
      refine ⟨fun _ => ?_, fun z => absurd (show 0 ≤ Int32.ofNat t by rw [r_le (by decide) (by omega)]; exact Nat.zero_le _) z⟩
      simp only [fE]
      -- doing it
      have run : (32 ≤ t ∧ t ≤ 36) ∨ (40 ≤ t ∧ t ≤ 51) ∨ (A.dr = none ∨ imOf A.ws t = true) → wq_M_read_122 Q T1 (Int32.ofNat t) := by
        intro hv
        unfold wq_M_read_122
        by_cases c1 : 32 ≤ t ∧ t ≤ 36
        · rw [if_pos c1] at er0
          refine q_par h1 c1 hC.nms (fun T2 h2 => ?_)
          have hc2 : (parA t (Ab.set_fu A (A.fu - 1))).2.cs = [] := (parA_cs ..).trans hcs
          have := kn _ er0 hc2 T2 h2
          by_cases e0 : (parA t (Ab.set_fu A (A.fu - 1))).1 = 0
          · exact m_stop (h2.1 e0) hc2 this
          · exact m_stopE (h2.2 e0).2 e0 this
        rw [if_neg c1] at er0
        by_cases c2 : 40 ≤ t ∧ t ≤ 51
        · rw [if_pos c2] at er0
          refine q_ctl h1 c2 (fun w hw => (hC.dr w hw).1.ops) (fun T2 h2 => ?_)
          have hc2 : (ctl t (Ab.set_fu A (A.fu - 1))).2.cs = [] := (ctl_cs ..).trans hcs
          have := kn _ er0 hc2 T2 h2
          by_cases e0 : (ctl t (Ab.set_fu A (A.fu - 1))).1 = 0
          · exact m_stop (h2.1 e0) hc2 this
          · exact m_stopE (h2.2 e0).2 e0 this
        rw [if_neg c2] at er0
        have er1 : rdT (Ab.set_fu A (A.fu - 1)) (tokL A) = doP t (Ab.set_fu A (A.fu - 1)) := by
          rw [er0]
          split
          · rename_i w q
            rcases hv with hv | hv | hv | hv
            · exact absurd hv c1
            · exact absurd hv c2
            · rw [hv] at q
              cases q
            · rw [if_pos hv]
          · rfl
        have hT : t = 31 ∨ okT A.ws.length t := by unfold okT; omega
        rw [er1] at k
        refine m_perform h1 hp1 hT (fun T2 h2 => m_loop (A := A) h2 (fun e0 => ?_) k)
        have hc2 := hC1.kp (kp_P (A := (Ab.set_fu A (A.fu - 1))) hT)
        exact ⟨hc2, mea_le (h2.1 e0) hc2⟩
      refine ⟨fun z => ?_, fun z => ?_⟩
      · match hd : A.dr with
        | some w => exact absurd z ((ctl_dr h1).2 w hd)
        | none => exact run (Or.inr (Or.inr (Or.inl hd)))
      · match hd : A.dr with
        | none => exact absurd ((ctl_dr h1).1 hd) z
        | some w =>
          have comp : ¬ (32 ≤ t ∧ t ≤ 36) → ¬ (40 ≤ t ∧ t ≤ 51) → imOf A.ws t = false → wq_M_read_113 Q T1 (Int32.ofNat t) := by
            intro c1 c2 c3
            have er1 : rdT (Ab.set_fu A (A.fu - 1)) (tokL A) = compR (Ab.set_fu A (A.fu - 1)) w 0 (Int32.ofNat t) A.op id := by
              rw [er0, if_neg c1, if_neg c2]
              split
              · rename_i w' q
                rw [hd] at q
                cases q
                rw [if_neg (by rw [c3]; decide)]
              · rename_i q
                rw [hd] at q
                cases q
            refine m_compile (kd := 0) h1 hd (fun hl T2 h2 => kn _ er1 ((compR_cs ..).trans hcs) T2 ?_) (fun hl T2 h2 h3 => kn _ er1 ((compR_cs ..).trans hcs) T2 ?_)
            · rw [compR, if_pos hl]
              exact RMr.ok h2
            · rw [compR, if_neg hl]
              exact RMr.no (by decide) h2 h3
          refine wt_in (fun z1 => ⟨fun _ => ?_, fun z => absurd rfl z⟩) (fun z1 z2 => ⟨fun z => absurd z (by decide), fun _ => run (Or.inl ?_)⟩)
          · rw [l_lt (by omega) (by decide), r_lt (by decide) (by omega)] at z1
            refine wt_in (fun y1 => ⟨fun _ => ?_, fun z => absurd rfl z⟩) (fun y1 y2 => ⟨fun z => absurd z (by decide), fun _ => run (Or.inr (Or.inl ?_))⟩)
            · rw [l_lt (by omega) (by decide), r_lt (by decide) (by omega)] at y1
              rw [l_lt (by omega) (by decide)]
              refine ⟨fun x => comp (by omega) (by omega) (by rw [imOf, if_pos x]), fun x => ?_⟩
              have hlt : t - 100 < A.ws.length := by omega
              have ew := h1.wsE (t - 100) A.ws[t - 100] (List.getElem?_eq_getElem hlt)
              rw [show Int32.ofNat t - 100 = Int32.ofNat (t - 100) from n_sub (a := t) (b := 100) (by omega), n_cl (by omega), ew.im]
              have ei : imOf A.ws t = A.ws[t - 100].im := by
                rw [imOf, if_neg x, List.getElem?_eq_getElem hlt]
              refine ⟨n_in (by omega) (by omega), fun y => comp (by omega) (by omega) ?_, fun y => run (Or.inr (Or.inr (Or.inr ?_)))⟩
              · rw [ei]
                cases q : A.ws[t - 100].im with
                | false => rfl
                | true => rw [q] at y; exact absurd y (by decide)
              · rw [ei]
                cases q : A.ws[t - 100].im with
                | true => rfl
                | false => rw [q] at y; exact absurd rfl y
            · rw [l_lt (by omega) (by decide)] at y1
              rw [r_lt (by decide) (by omega)] at y2
              omega
          · rw [l_lt (by omega) (by decide)] at z1
            rw [r_lt (by decide) (by omega)] at z2
            omega
