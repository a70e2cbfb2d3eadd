theorem RMr.err0 {r : Int32 × Ab} {T : StM} (h : RMr r T) : T.1 14 = r.1 := by
  by_cases e : r.1 = 0
  · rw [e]
    exact (h.1 e).err
  · exact (h.2 e).2
theorem FrA.low {wd nx lo ct lm wd' nx' lo' ct' lm' : Nat → Int32} {c : Nat} {fr : Fr} (h : FrA wd nx lo ct lm c fr) (e1 : wd' c = wd c) (e2 : nx' c = nx c) (e3 : lo' c = lo c) (e4 : ∀ j, j < 4 → ct' (4 * c + j) = ct (4 * c + j)) (e5 : ∀ j, j < 4 → lm' (4 * c + j) = lm (4 * c + j)) : FrA wd' nx' lo' ct' lm' c fr :=
  (FrA.mk (e1.trans h.w) (e2.trans h.nx) (e3.trans h.n) (h.len) (h.ct.same (fun i hi => e4 i (by have := h.len; simp at hi; omega))) (h.lm.same (fun i hi => e5 i (by have := h.len; simp at hi; omega))))
theorem FrAS.low {wd nx lo ct lm wd' nx' lo' ct' lm' : Nat → Int32} : ∀ {l : List Fr}, FrAS wd nx lo ct lm l → (∀ c, c < l.length → wd' c = wd c ∧ nx' c = nx c ∧ lo' c = lo c ∧ (∀ j, j < 4 → ct' (4 * c + j) = ct (4 * c + j)) ∧ ∀ j, j < 4 → lm' (4 * c + j) = lm (4 * c + j)) → FrAS wd' nx' lo' ct' lm' l
  | [], _, _ => trivial
  | fr :: l, h, e => by
    obtain ⟨e1, e2, e3, e4, e5⟩ := e l.length (by simp)
    exact ⟨h.1.low e1 e2 e3 e4 e5, h.2.low (fun c hc => e c (by simp; omega))⟩
theorem m_enter {A : Ab} {T : StM} {Q : StM → Prop} {w : Nat} (h : RM A T) (hw : w < A.ws.length) (k : ∀ T', RMr (doC w A) T' → Q T') : wp_M_enter Q T (Int32.ofNat w) := by
  have hb := h.csB
  refine ⟨fun z => ?_, fun z => m_fail h (by decide) (fun T' h1 h2 => k _ ?_)⟩
  · rw [h.csE, l_lt (by omega) (by decide)] at z
    have hin : vp_in (T.1 25) 16 := by
      rw [h.csE]
      exact n_in z (by omega)
    have eN : (T.1 25).toNatClampNeg = A.cs.length := by rw [h.csE, n_cl (by omega)]
    refine ⟨hin, hin, hin, k _ ?_⟩
    rw [doC, if_pos z]
    refine RMr.ok (RM.mk (h.hereE) (h.hereB) (h.memE) (h.prE) (h.prB) (h.pbB) (h.outE) (h.fuE) (h.blkE) (h.hasE) (h.hasB) (h.upE) (h.toldE) (h.toldB) (h.upB) (h.toldH) (h.madeE) (h.madeB) (h.wsE) (h.namE) (h.txE) (h.txB) (h.txC) (h.txO) (h.posE) (h.posB) (h.tkE) (h.tlE) (h.err) (h.dsE) (h.dsB) (h.dsS) (h.rsE) (h.rsB) (h.rsS) (?_) (?_) (?_) (?_) (h.drE) (h.drW) (h.opE) (h.opB) (h.opK) (h.opA))
    · show T.1 25 + 1 = _
      rw [h.csE, of_succ]
      rfl
    · show (_ :: A.cs).length ≤ 16
      simp
      omega
    · show FrAS (upd (T.2.1 26) (T.1 25).toNatClampNeg (Int32.ofNat w)) (upd (T.2.1 27) (T.1 25).toNatClampNeg 0) (upd (T.2.1 28) (T.1 25).toNatClampNeg 0) (T.2.1 29) (T.2.1 30) (_ :: A.cs)
      rw [eN]
      refine ⟨(FrA.mk (upd_at _ _ _) (upd_at _ _ _) (upd_at _ _ _) (Nat.zero_le _) (trivial) (trivial)), FrAS.low h.csS (fun c hc => ?_)⟩
      have hne : c ≠ A.cs.length := by omega
      exact ⟨upd_ne _ _ hne, upd_ne _ _ hne, upd_ne _ _ hne, fun _ _ => rfl, fun _ _ => rfl⟩
    · intro fr hf
      rcases List.mem_cons.mp hf with e | e
      · subst e
        exact ⟨A.ws[w], List.getElem?_eq_getElem hw, Nat.zero_le _⟩
      · exact h.csW fr e
  · rw [h.csE, l_lt (by omega) (by decide)] at z
    rw [doC, if_neg z]
    exact RMr.no (by decide) h1 h2
def doW (t : Nat) (A : Ab) : Int32 × Ab := match t with
  | 0 => do0 A
  | 1 => do1 A
  | 2 => do2 A
  | 3 => do3 A
  | 4 => do4 A
  | 5 => do5 A
  | 6 => do6 A
  | 7 => do7 A
  | 8 => do8 A
  | 9 => do9 A
  | 10 => do10 A
  | 11 => do11 A
  | 12 => do12 A
  | 13 => do13 A
  | 14 => do14 A
  | 15 => do15 A
  | 16 => do16 A
  | 17 => do17 A
  | 18 => do18 A
  | 19 => do19 A
  | 20 => do20 A
  | 21 => do21 A
  | 22 => do22 A
  | 23 => do23 A
  | 24 => do24 A
  | 25 => do25 A
  | 26 => do26 A
  | 27 => do27 A
  | 28 => do28 A
  | 29 => do29 A
  | 30 => do30 A
  | 37 => do37 A
  | 38 => do38 A
  | 39 => do39 A
  | t => doC (t - 100) A
/-- the words that may be done: built in, or made -/
abbrev okT (m t : Nat) : Prop := t < 31 ∨ t = 37 ∨ t = 38 ∨ t = 39 ∨ (100 ≤ t ∧ t < 100 + m)
theorem doW_C {t : Nat} {A : Ab} (h : 100 ≤ t) : doW t A = doC (t - 100) A := by
  unfold doW
  split <;> first | omega | rfl

theorem p_0 {A : Ab} {T : StM} {Q : StM → Prop} (h : RM A T) (hp : A.pr + A.fu < A.pb) (k : ∀ T', RMr (doW 0 A) T' → Q T') : wq_M_perform_23 Q T 0 := by
  unfold wq_M_perform_23
  rw [h.err]
  simp (config := {decide := true}) only [wq_M_perform_224, true_implies, false_implies, not_true_eq_false, not_false_eq_true, and_true, true_and]
  exact m_0 h k
theorem p_1 {A : Ab} {T : StM} {Q : StM → Prop} (h : RM A T) (hp : A.pr + A.fu < A.pb) (k : ∀ T', RMr (doW 1 A) T' → Q T') : wq_M_perform_23 Q T 1 := by
  unfold wq_M_perform_23
  rw [h.err]
  simp (config := {decide := true}) only [wq_M_perform_224, true_implies, false_implies, not_true_eq_false, not_false_eq_true, and_true, true_and]
  exact m_1 h k
theorem p_2 {A : Ab} {T : StM} {Q : StM → Prop} (h : RM A T) (hp : A.pr + A.fu < A.pb) (k : ∀ T', RMr (doW 2 A) T' → Q T') : wq_M_perform_23 Q T 2 := by
  unfold wq_M_perform_23
  rw [h.err]
  simp (config := {decide := true}) only [wq_M_perform_224, true_implies, false_implies, not_true_eq_false, not_false_eq_true, and_true, true_and]
  exact m_2 h k
theorem p_3 {A : Ab} {T : StM} {Q : StM → Prop} (h : RM A T) (hp : A.pr + A.fu < A.pb) (k : ∀ T', RMr (doW 3 A) T' → Q T') : wq_M_perform_23 Q T 3 := by
  unfold wq_M_perform_23
  rw [h.err]
  simp (config := {decide := true}) only [wq_M_perform_224, true_implies, false_implies, not_true_eq_false, not_false_eq_true, and_true, true_and]
  exact m_3 h k
theorem p_4 {A : Ab} {T : StM} {Q : StM → Prop} (h : RM A T) (hp : A.pr + A.fu < A.pb) (k : ∀ T', RMr (doW 4 A) T' → Q T') : wq_M_perform_23 Q T 4 := by
  unfold wq_M_perform_23
  rw [h.err]
  simp (config := {decide := true}) only [wq_M_perform_224, true_implies, false_implies, not_true_eq_false, not_false_eq_true, and_true, true_and]
  exact m_4 h k
theorem p_5 {A : Ab} {T : StM} {Q : StM → Prop} (h : RM A T) (hp : A.pr + A.fu < A.pb) (k : ∀ T', RMr (doW 5 A) T' → Q T') : wq_M_perform_23 Q T 5 := by
  unfold wq_M_perform_23
  rw [h.err]
  simp (config := {decide := true}) only [wq_M_perform_224, true_implies, false_implies, not_true_eq_false, not_false_eq_true, and_true, true_and]
  exact m_5 h k
theorem p_6 {A : Ab} {T : StM} {Q : StM → Prop} (h : RM A T) (hp : A.pr + A.fu < A.pb) (k : ∀ T', RMr (doW 6 A) T' → Q T') : wq_M_perform_23 Q T 6 := by
  unfold wq_M_perform_23
  rw [h.err]
  simp (config := {decide := true}) only [wq_M_perform_224, true_implies, false_implies, not_true_eq_false, not_false_eq_true, and_true, true_and]
  exact m_6 h k
theorem p_7 {A : Ab} {T : StM} {Q : StM → Prop} (h : RM A T) (hp : A.pr + A.fu < A.pb) (k : ∀ T', RMr (doW 7 A) T' → Q T') : wq_M_perform_23 Q T 7 := by
  unfold wq_M_perform_23
  rw [h.err]
  simp (config := {decide := true}) only [wq_M_perform_224, true_implies, false_implies, not_true_eq_false, not_false_eq_true, and_true, true_and]
  exact m_7 h k
theorem p_8 {A : Ab} {T : StM} {Q : StM → Prop} (h : RM A T) (hp : A.pr + A.fu < A.pb) (k : ∀ T', RMr (doW 8 A) T' → Q T') : wq_M_perform_23 Q T 8 := by
  unfold wq_M_perform_23
  rw [h.err]
  simp (config := {decide := true}) only [wq_M_perform_224, true_implies, false_implies, not_true_eq_false, not_false_eq_true, and_true, true_and]
  exact m_8 h k
theorem p_9 {A : Ab} {T : StM} {Q : StM → Prop} (h : RM A T) (hp : A.pr + A.fu < A.pb) (k : ∀ T', RMr (doW 9 A) T' → Q T') : wq_M_perform_23 Q T 9 := by
  unfold wq_M_perform_23
  rw [h.err]
  simp (config := {decide := true}) only [wq_M_perform_224, true_implies, false_implies, not_true_eq_false, not_false_eq_true, and_true, true_and]
  exact m_9 h k
theorem p_10 {A : Ab} {T : StM} {Q : StM → Prop} (h : RM A T) (hp : A.pr + A.fu < A.pb) (k : ∀ T', RMr (doW 10 A) T' → Q T') : wq_M_perform_23 Q T 10 := by
  unfold wq_M_perform_23
  rw [h.err]
  simp (config := {decide := true}) only [wq_M_perform_224, true_implies, false_implies, not_true_eq_false, not_false_eq_true, and_true, true_and]
  exact m_10 h k
theorem p_11 {A : Ab} {T : StM} {Q : StM → Prop} (h : RM A T) (hp : A.pr + A.fu < A.pb) (k : ∀ T', RMr (doW 11 A) T' → Q T') : wq_M_perform_23 Q T 11 := by
  unfold wq_M_perform_23
  rw [h.err]
  simp (config := {decide := true}) only [wq_M_perform_224, true_implies, false_implies, not_true_eq_false, not_false_eq_true, and_true, true_and]
  exact m_11 h k
theorem p_12 {A : Ab} {T : StM} {Q : StM → Prop} (h : RM A T) (hp : A.pr + A.fu < A.pb) (k : ∀ T', RMr (doW 12 A) T' → Q T') : wq_M_perform_23 Q T 12 := by
  unfold wq_M_perform_23
  rw [h.err]
  simp (config := {decide := true}) only [wq_M_perform_224, true_implies, false_implies, not_true_eq_false, not_false_eq_true, and_true, true_and]
  exact m_12 h k
theorem p_13 {A : Ab} {T : StM} {Q : StM → Prop} (h : RM A T) (hp : A.pr + A.fu < A.pb) (k : ∀ T', RMr (doW 13 A) T' → Q T') : wq_M_perform_23 Q T 13 := by
  unfold wq_M_perform_23
  rw [h.err]
  simp (config := {decide := true}) only [wq_M_perform_224, true_implies, false_implies, not_true_eq_false, not_false_eq_true, and_true, true_and]
  exact m_13 h k
theorem p_14 {A : Ab} {T : StM} {Q : StM → Prop} (h : RM A T) (hp : A.pr + A.fu < A.pb) (k : ∀ T', RMr (doW 14 A) T' → Q T') : wq_M_perform_23 Q T 14 := by
  unfold wq_M_perform_23
  rw [h.err]
  simp (config := {decide := true}) only [wq_M_perform_224, true_implies, false_implies, not_true_eq_false, not_false_eq_true, and_true, true_and]
  exact m_14 h k
theorem p_15 {A : Ab} {T : StM} {Q : StM → Prop} (h : RM A T) (hp : A.pr + A.fu < A.pb) (k : ∀ T', RMr (doW 15 A) T' → Q T') : wq_M_perform_23 Q T 15 := by
  unfold wq_M_perform_23
  rw [h.err]
  simp (config := {decide := true}) only [wq_M_perform_224, true_implies, false_implies, not_true_eq_false, not_false_eq_true, and_true, true_and]
  exact m_15 h k
theorem p_16 {A : Ab} {T : StM} {Q : StM → Prop} (h : RM A T) (hp : A.pr + A.fu < A.pb) (k : ∀ T', RMr (doW 16 A) T' → Q T') : wq_M_perform_23 Q T 16 := by
  unfold wq_M_perform_23
  rw [h.err]
  simp (config := {decide := true}) only [wq_M_perform_224, true_implies, false_implies, not_true_eq_false, not_false_eq_true, and_true, true_and]
  exact m_16 h k
theorem p_17 {A : Ab} {T : StM} {Q : StM → Prop} (h : RM A T) (hp : A.pr + A.fu < A.pb) (k : ∀ T', RMr (doW 17 A) T' → Q T') : wq_M_perform_23 Q T 17 := by
  unfold wq_M_perform_23
  rw [h.err]
  simp (config := {decide := true}) only [wq_M_perform_224, true_implies, false_implies, not_true_eq_false, not_false_eq_true, and_true, true_and]
  exact m_17 h k
theorem p_18 {A : Ab} {T : StM} {Q : StM → Prop} (h : RM A T) (hp : A.pr + A.fu < A.pb) (k : ∀ T', RMr (doW 18 A) T' → Q T') : wq_M_perform_23 Q T 18 := by
  unfold wq_M_perform_23
  rw [h.err]
  simp (config := {decide := true}) only [wq_M_perform_224, true_implies, false_implies, not_true_eq_false, not_false_eq_true, and_true, true_and]
  exact m_18 h hp k
theorem p_19 {A : Ab} {T : StM} {Q : StM → Prop} (h : RM A T) (hp : A.pr + A.fu < A.pb) (k : ∀ T', RMr (doW 19 A) T' → Q T') : wq_M_perform_23 Q T 19 := by
  unfold wq_M_perform_23
  rw [h.err]
  simp (config := {decide := true}) only [wq_M_perform_224, true_implies, false_implies, not_true_eq_false, not_false_eq_true, and_true, true_and]
  exact m_19 h k
theorem p_20 {A : Ab} {T : StM} {Q : StM → Prop} (h : RM A T) (hp : A.pr + A.fu < A.pb) (k : ∀ T', RMr (doW 20 A) T' → Q T') : wq_M_perform_23 Q T 20 := by
  unfold wq_M_perform_23
  rw [h.err]
  simp (config := {decide := true}) only [wq_M_perform_224, true_implies, false_implies, not_true_eq_false, not_false_eq_true, and_true, true_and]
  exact m_20 h k
theorem p_21 {A : Ab} {T : StM} {Q : StM → Prop} (h : RM A T) (hp : A.pr + A.fu < A.pb) (k : ∀ T', RMr (doW 21 A) T' → Q T') : wq_M_perform_23 Q T 21 := by
  unfold wq_M_perform_23
  rw [h.err]
  simp (config := {decide := true}) only [wq_M_perform_224, true_implies, false_implies, not_true_eq_false, not_false_eq_true, and_true, true_and]
  exact m_21 h k
theorem p_22 {A : Ab} {T : StM} {Q : StM → Prop} (h : RM A T) (hp : A.pr + A.fu < A.pb) (k : ∀ T', RMr (doW 22 A) T' → Q T') : wq_M_perform_23 Q T 22 := by
  unfold wq_M_perform_23
  rw [h.err]
  simp (config := {decide := true}) only [wq_M_perform_224, true_implies, false_implies, not_true_eq_false, not_false_eq_true, and_true, true_and]
  exact m_22 h k
theorem p_23 {A : Ab} {T : StM} {Q : StM → Prop} (h : RM A T) (hp : A.pr + A.fu < A.pb) (k : ∀ T', RMr (doW 23 A) T' → Q T') : wq_M_perform_23 Q T 23 := by
  unfold wq_M_perform_23
  rw [h.err]
  simp (config := {decide := true}) only [wq_M_perform_224, true_implies, false_implies, not_true_eq_false, not_false_eq_true, and_true, true_and]
  exact m_23 h k
theorem p_24 {A : Ab} {T : StM} {Q : StM → Prop} (h : RM A T) (hp : A.pr + A.fu < A.pb) (k : ∀ T', RMr (doW 24 A) T' → Q T') : wq_M_perform_23 Q T 24 := by
  unfold wq_M_perform_23
  rw [h.err]
  simp (config := {decide := true}) only [wq_M_perform_224, true_implies, false_implies, not_true_eq_false, not_false_eq_true, and_true, true_and]
  exact m_24 h k
theorem p_25 {A : Ab} {T : StM} {Q : StM → Prop} (h : RM A T) (hp : A.pr + A.fu < A.pb) (k : ∀ T', RMr (doW 25 A) T' → Q T') : wq_M_perform_23 Q T 25 := by
  unfold wq_M_perform_23
  rw [h.err]
  simp (config := {decide := true}) only [wq_M_perform_224, true_implies, false_implies, not_true_eq_false, not_false_eq_true, and_true, true_and]
  exact m_25 h k
theorem p_26 {A : Ab} {T : StM} {Q : StM → Prop} (h : RM A T) (hp : A.pr + A.fu < A.pb) (k : ∀ T', RMr (doW 26 A) T' → Q T') : wq_M_perform_23 Q T 26 := by
  unfold wq_M_perform_23
  rw [h.err]
  simp (config := {decide := true}) only [wq_M_perform_224, true_implies, false_implies, not_true_eq_false, not_false_eq_true, and_true, true_and]
  exact m_26 h k
theorem p_27 {A : Ab} {T : StM} {Q : StM → Prop} (h : RM A T) (hp : A.pr + A.fu < A.pb) (k : ∀ T', RMr (doW 27 A) T' → Q T') : wq_M_perform_23 Q T 27 := by
  unfold wq_M_perform_23
  rw [h.err]
  simp (config := {decide := true}) only [wq_M_perform_224, true_implies, false_implies, not_true_eq_false, not_false_eq_true, and_true, true_and]
  exact m_27 h k
theorem p_28 {A : Ab} {T : StM} {Q : StM → Prop} (h : RM A T) (hp : A.pr + A.fu < A.pb) (k : ∀ T', RMr (doW 28 A) T' → Q T') : wq_M_perform_23 Q T 28 := by
  unfold wq_M_perform_23
  rw [h.err]
  simp (config := {decide := true}) only [wq_M_perform_224, true_implies, false_implies, not_true_eq_false, not_false_eq_true, and_true, true_and]
  exact m_28 h k
theorem p_29 {A : Ab} {T : StM} {Q : StM → Prop} (h : RM A T) (hp : A.pr + A.fu < A.pb) (k : ∀ T', RMr (doW 29 A) T' → Q T') : wq_M_perform_23 Q T 29 := by
  unfold wq_M_perform_23
  rw [h.err]
  simp (config := {decide := true}) only [wq_M_perform_224, true_implies, false_implies, not_true_eq_false, not_false_eq_true, and_true, true_and]
  exact m_29 h k
theorem p_30 {A : Ab} {T : StM} {Q : StM → Prop} (h : RM A T) (hp : A.pr + A.fu < A.pb) (k : ∀ T', RMr (doW 30 A) T' → Q T') : wq_M_perform_23 Q T 30 := by
  unfold wq_M_perform_23
  rw [h.err]
  simp (config := {decide := true}) only [wq_M_perform_224, true_implies, false_implies, not_true_eq_false, not_false_eq_true, and_true, true_and]
  have hb := h.csB
  unfold wq_M_perform_123 wq_M_perform_141 wq_M_perform_224
  match hc : A.cs with
  | [] =>
    have e : T.1 25 = 0 := by rw [h.csE, hc]; rfl
    refine ⟨fun _ => m_fail h (by decide) (fun T' h1 h2 => ?_), fun z => absurd e z⟩
    have hk : ∀ v, Q (upd T'.1 25 v, T'.2) := fun v => k _ (by
      show RMr (do30 A) _
      rw [do30, hc]
      exact RMr.no (by decide) (RMw.mk (h1.hereE) (h1.hereB) (h1.memE) (h1.prE) (h1.prB) (h1.pbB) (h1.outE) (h1.fuE) (h1.blkE) (h1.hasE) (h1.hasB) (h1.upE) (h1.toldE) (h1.toldB) (h1.upB) (h1.toldH) (h1.madeE) (h1.madeB) (h1.wsE) (h1.namE) (h1.txE) (h1.txB) (h1.txC) (h1.txO) (h1.posE) (h1.posB) (h1.tkE) (h1.tlE)) h2)
    exact ⟨fun _ => hk _, fun _ => hk _⟩
  | fr :: l =>
    rw [hc] at hb
    simp at hb
    have e : T.1 25 = Int32.ofNat (l.length + 1) := by rw [h.csE, hc]; rfl
    have hs := h.csS
    rw [hc] at hs
    refine ⟨fun z => absurd z ?_, fun _ => ⟨fun z => absurd z ?_, fun _ => k _ ?_⟩⟩
    · rw [e, l_eq (by omega) (by decide)]
      omega
    · rw [e, l_le (by omega) (by decide)]
      omega
    · show RMr (do30 A) _
      rw [do30, hc]
      refine RMr.ok (RM.mk (h.hereE) (h.hereB) (h.memE) (h.prE) (h.prB) (h.pbB) (h.outE) (h.fuE) (h.blkE) (h.hasE) (h.hasB) (h.upE) (h.toldE) (h.toldB) (h.upB) (h.toldH) (h.madeE) (h.madeB) (h.wsE) (h.namE) (h.txE) (h.txB) (h.txC) (h.txO) (h.posE) (h.posB) (h.tkE) (h.tlE) (h.err) (h.dsE) (h.dsB) (h.dsS) (h.rsE) (h.rsB) (h.rsS) (?_) (?_) (hs.2) (?_) (h.drE) (h.drW) (h.opE) (h.opB) (h.opK) (h.opA))
      · show T.1 25 - 1 = _
        rw [e]
        exact n_sub (a := l.length + 1) (b := 1) (by omega)
      · show l.length ≤ 16
        omega
      · intro fr' hf
        exact h.csW fr' (by rw [hc]; exact List.mem_cons_of_mem _ hf)
theorem p_37 {A : Ab} {T : StM} {Q : StM → Prop} (h : RM A T) (hp : A.pr + A.fu < A.pb) (k : ∀ T', RMr (doW 37 A) T' → Q T') : wq_M_perform_23 Q T 37 := by
  unfold wq_M_perform_23
  rw [h.err]
  simp (config := {decide := true}) only [wq_M_perform_224, true_implies, false_implies, not_true_eq_false, not_false_eq_true, and_true, true_and]
  exact m_37 h k
theorem p_38 {A : Ab} {T : StM} {Q : StM → Prop} (h : RM A T) (hp : A.pr + A.fu < A.pb) (k : ∀ T', RMr (doW 38 A) T' → Q T') : wq_M_perform_23 Q T 38 := by
  unfold wq_M_perform_23
  rw [h.err]
  simp (config := {decide := true}) only [wq_M_perform_224, true_implies, false_implies, not_true_eq_false, not_false_eq_true, and_true, true_and]
  have k : ∀ T', RMr (do38 A) T' → Q T' := k
  match ht : A.told with
  | none =>
    have e : T.1 34 = -1 := by rw [h.toldE, ht]; rfl
    rw [e]
    refine ⟨fun _ => k _ ?_, fun z => absurd (by decide) z⟩
    rw [do38, ht]
    exact RMr.ok h
  | some b =>
    have hb := h.toldB b ht
    have e : T.1 34 = Int32.ofNat b := by rw [h.toldE, ht]; rfl
    rw [e]
    refine ⟨fun z => ?_, fun _ => ⟨n_in hb (by omega), k _ ?_⟩⟩
    · rw [l_lt (by omega) (by decide)] at z
      omega
    · rw [do38, ht]
      refine RMr.ok (RM.mk (h.hereE) (h.hereB) (h.memE) (h.prE) (h.prB) (h.pbB) (h.outE) (h.fuE) (h.blkE) (h.hasE) (h.hasB) (fun j hj => ?_) (h.toldE) (h.toldB) (fun j hj hu => ?_) (h.toldH) (h.madeE) (h.madeB) (h.wsE) (h.namE) (h.txE) (h.txB) (h.txC) (h.txO) (h.posE) (h.posB) (h.tkE) (h.tlE) (h.err) (h.dsE) (h.dsB) (h.dsS) (h.rsE) (h.rsB) (h.rsS) (h.csE) (h.csB) (h.csS) (h.csW) (h.drE) (h.drW) (h.opE) (h.opB) (h.opK) (h.opA))
      · show upd (T.2.1 33) (Int32.ofNat b).toNatClampNeg (vp_nar .boolean 1) j = bE (if j = b then true else A.up j)
        rw [n_cl (by omega)]
        by_cases e : j = b
        · rw [e, upd_at, if_pos rfl]
          rfl
        · rw [upd_ne _ _ e, if_neg e]
          exact h.upE j hj
      · have hu : (if j = b then true else A.up j) = true := hu
        by_cases e : j = b
        · rw [e]
          exact h.toldH b ht
        · rw [if_neg e] at hu
          exact h.upB j hj hu
theorem p_39 {A : Ab} {T : StM} {Q : StM → Prop} (h : RM A T) (hp : A.pr + A.fu < A.pb) (k : ∀ T', RMr (doW 39 A) T' → Q T') : wq_M_perform_23 Q T 39 := by
  unfold wq_M_perform_23
  rw [h.err]
  simp (config := {decide := true}) only [wq_M_perform_224, true_implies, false_implies, not_true_eq_false, not_false_eq_true, and_true, true_and]
  exact m_write (b := 0) (by omega) h (fun T1 h1 => m_write (b := 1) (by omega) h1 (fun T2 h2 => k _ (RMr.ok h2)))
theorem p_C {A : Ab} {T : StM} {Q : StM → Prop} {t : Nat} (h : RM A T) (ht : 100 ≤ t) (ht1 : t < 100 + A.ws.length) (k : ∀ T', RMr (doW t A) T' → Q T') : wq_M_perform_23 Q T (Int32.ofNat t) := by
  have hb := h.madeB
  unfold wq_M_perform_23
  rw [h.err]
  refine ⟨fun _ => ⟨fun z => ?_, fun _ => ?_⟩, fun z => absurd (by decide) z⟩
  · rw [l_lt (by omega) (by decide)] at z
    omega
  · rw [show Int32.ofNat t - 100 = Int32.ofNat (t - 100) from n_sub (a := t) (b := 100) ht]
    rw [doW_C ht] at k
    exact m_enter h (by omega) k
theorem p_all {A : Ab} {T : StM} {Q : StM → Prop} {t : Nat} (h : RM A T) (hp : A.pr + A.fu < A.pb) (ht : okT A.ws.length t) (k : ∀ T', RMr (doW t A) T' → Q T') : wq_M_perform_23 Q T (Int32.ofNat t) := by
  rcases ht with h1 | h1 | h1 | h1 | h1
  · match t, h1 with
    | 0, _ => exact p_0 h hp k
    | 1, _ => exact p_1 h hp k
    | 2, _ => exact p_2 h hp k
    | 3, _ => exact p_3 h hp k
    | 4, _ => exact p_4 h hp k
    | 5, _ => exact p_5 h hp k
    | 6, _ => exact p_6 h hp k
    | 7, _ => exact p_7 h hp k
    | 8, _ => exact p_8 h hp k
    | 9, _ => exact p_9 h hp k
    | 10, _ => exact p_10 h hp k
    | 11, _ => exact p_11 h hp k
    | 12, _ => exact p_12 h hp k
    | 13, _ => exact p_13 h hp k
    | 14, _ => exact p_14 h hp k
    | 15, _ => exact p_15 h hp k
    | 16, _ => exact p_16 h hp k
    | 17, _ => exact p_17 h hp k
    | 18, _ => exact p_18 h hp k
    | 19, _ => exact p_19 h hp k
    | 20, _ => exact p_20 h hp k
    | 21, _ => exact p_21 h hp k
    | 22, _ => exact p_22 h hp k
    | 23, _ => exact p_23 h hp k
    | 24, _ => exact p_24 h hp k
    | 25, _ => exact p_25 h hp k
    | 26, _ => exact p_26 h hp k
    | 27, _ => exact p_27 h hp k
    | 28, _ => exact p_28 h hp k
    | 29, _ => exact p_29 h hp k
    | 30, _ => exact p_30 h hp k
    | n + 31, h1 => omega
  · subst h1
    exact p_37 h hp k
  · subst h1
    exact p_38 h hp k
  · subst h1
    exact p_39 h hp k
  · exact p_C h h1.1 h1.2 k
/-- a word, and where it is 'execute' the word that the stack names -/
def doX (m : Nat) : Nat → Ab → Int32 × Ab
  | 0, A => (2, A)
  | n + 1, A => match A.ds with
    | [] => (2, A)
    | c :: r => if c.toInt < 0 then (5, A) else if c.toNatClampNeg = 31 then doX m n (Ab.set_ds A (r)) else if okT m c.toNatClampNeg then doW c.toNatClampNeg (Ab.set_ds A (r)) else (5, A)
def doP (t : Nat) (A : Ab) : Int32 × Ab := if t = 31 then doX A.ws.length (A.ds.length + 1) A else doW t A
theorem p_err {T : StM} {Q : StM → Prop} {x : Int32} {e : Nat} (he : T.1 14 = Int32.ofNat e) (h0 : 0 < e) (h9 : e < 9) (k : Q T) : ∀ n, wq_M_perform_2 Q (n + 1) T x := by
  intro n
  have hne : ¬ T.1 14 = 0 := by rw [he, l_eq (by omega) (by decide)]; omega
  refine ⟨fun z => absurd z hne, fun _ => ⟨fun z => ?_, fun _ => k⟩⟩
  rw [he, l_le (by omega) (by decide)] at z
  omega
theorem p_x {Q : StM → Prop} {m : Nat} (hm : m ≤ 24) : ∀ (n : Nat) (A : Ab) (T : StM), RM A T → A.ws.length = m → A.pr + A.fu < A.pb → A.ds.length ≤ n → (∀ T', RMr (doX m (n + 1) A) T' → Q T') → wq_M_perform_2 Q (n + 2) T 31 := by
  intro n
  induction n with
  | zero =>
    intro A T h hw hp hl k
    refine ⟨fun _ => ⟨fun _ => ?_, fun z => absurd rfl z⟩, fun z => absurd h.err z⟩
    have e : A.ds = [] := List.eq_nil_of_length_eq_zero (by omega)
    unfold wp_M_target
    refine m_needs (n := 1) h (by decide) (fun hn => by rw [e] at hn; simp at hn) (fun hn T' h1 h2 => ⟨fun _ => ?_, fun z => absurd rfl z⟩)
    refine p_err (e := 2) h2 (by omega) (by omega) (k _ ?_) 0
    rw [doX, e]
    exact RMr.no (by decide) h1 h2
  | succ n ih =>
    intro A T h hw hp hl k
    refine ⟨fun _ => ⟨fun _ => ?_, fun z => absurd rfl z⟩, fun z => absurd h.err z⟩
    unfold wp_M_target
    refine m_needs (n := 1) h (by decide) (fun hn => ⟨fun z => absurd z (by decide), fun _ => ?_⟩) (fun hn T' h1 h2 => ⟨fun _ => ?_, fun z => absurd rfl z⟩)
    · match hd : A.ds with
      | [] => rw [hd] at hn; simp at hn
      | c :: r =>
        refine m_top (i := 0) h (by rw [hd]; rfl) ?_
        have k0 : (0 : Int32).toInt = 0 := rfl
        have k31 : (31 : Int32).toInt = 31 := rfl
        have k37 : (37 : Int32).toInt = 37 := rfl
        have k39 : (39 : Int32).toInt = 39 := rfl
        have k100 : (100 : Int32).toInt = 100 := rfl
        have e99 : 99 + T.1 20 = Int32.ofNat (99 + m) := by
          rw [h.madeE, hw]
          exact n_add 99 m
        have k99 : (Int32.ofNat (99 + m)).toInt = ((99 + m : Nat) : Int) := of_small (by omega)
        rw [doX, hd] at k
        dsimp only at k
        have cE : c.toNatClampNeg = c.toInt.toNat := rfl
        have go : 0 ≤ c.toInt → (c.toNatClampNeg = 31 ∨ okT m c.toNatClampNeg) → wq_M_target_60 (fun r13 S12 => wq_M_perform_2 Q (n + 2) S12 r13) T := by
          intro hc hv
          refine m_pop h hd (fun T1 h1 => ?_)
          have ec : Int32.ofNat c.toNatClampNeg = c := of_nn hc
          rw [if_neg (by omega)] at k
          by_cases e31 : c.toNatClampNeg = 31
          · rw [if_pos e31] at k
            have : c = 31 := by rw [← ec, e31]; rfl
            rw [this]
            exact ih _ T1 h1 hw hp (by show r.length ≤ n; rw [hd] at hl; simp at hl; omega) k
          · rw [if_neg e31] at k
            have hv := hv.resolve_left e31
            rw [if_pos hv] at k
            refine ⟨fun _ => ⟨fun z => absurd ?_ e31, fun _ => ?_⟩, fun z => absurd h1.err z⟩
            · rw [z]
              rfl
            · rw [← ec]
              exact p_all h1 hp (by show okT A.ws.length _; rw [hw]; exact hv) k
        refine wt_in (fun z => ⟨fun _ => ?_, fun z => absurd rfl z⟩) (fun z1 z2 => ⟨fun z => absurd z (by decide), fun _ => ?_⟩)
        · refine wt_in (fun y => ⟨fun _ => ?_, fun z => absurd rfl z⟩) (fun z1 z2 => ⟨fun z => absurd z (by decide), fun _ => ?_⟩)
          · rw [e99]
            refine wt_in (fun x => ⟨fun _ => ?_, fun z => absurd rfl z⟩) (fun z1 z2 => ⟨fun z => absurd z (by decide), fun _ => ?_⟩)
            · refine m_fail h (by decide) (fun T' h1 h2 => p_err (e := 5) h2 (by omega) (by omega) (k _ ?_) (n + 1))
              have hno : RMr (5, A) T' := RMr.no (by decide) h1 h2
              simp only [Int32.lt_iff_toInt_lt] at x y z
              by_cases c0 : c.toInt < 0
              · rw [if_pos c0]
                exact hno
              · rw [if_neg c0, if_neg (by omega), if_neg (by unfold okT; omega)]
                exact hno
            · have a1 := i32_nlt z1
              have a2 := i32_nlt z2
              exact go (by omega) (Or.inr (by unfold okT; omega))
          · have a1 := i32_nlt z1
            have a2 := i32_nlt z2
            exact go (by omega) (Or.inr (by unfold okT; omega))
        · have a1 := i32_nlt z1
          have a2 := i32_nlt z2
          refine go (by omega) ?_
          by_cases e : c.toNatClampNeg = 31
          · exact Or.inl e
          · exact Or.inr (by unfold okT; omega)
    · refine p_err (e := 2) h2 (by omega) (by omega) (k _ ?_) (n + 1)
      have e : A.ds = [] := List.eq_nil_of_length_eq_zero (by omega)
      rw [doX, e]
      exact RMr.no (by decide) h1 h2
theorem m_perform {A : Ab} {T : StM} {Q : StM → Prop} {t : Nat} (h : RM A T) (hp : A.pr + A.fu < A.pb) (ht : t = 31 ∨ okT A.ws.length t) (k : ∀ T', RMr (doP t A) T' → Q T') : wp_M_perform Q T (Int32.ofNat t) := by
  by_cases e : t = 31
  · subst e
    exact ⟨A.ds.length + 2, p_x h.madeB A.ds.length A T h rfl hp (Nat.le_refl _) k⟩
  · have ht := ht.resolve_left e
    have hb := h.madeB
    have hlt : t < 124 + 1 := by unfold okT at ht; omega
    rw [doP, if_neg e] at k
    refine ⟨1, fun _ => ⟨fun z => absurd ?_ e, fun _ => p_all h hp ht k⟩, fun z => absurd h.err z⟩
    rwa [l_eq (by omega) (by decide)] at z
