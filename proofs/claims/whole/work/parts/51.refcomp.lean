def ndN (kd d : Nat) : Nat := match kd with
  | 4 => d + 1
  | 5 => d - 1
  | _ => d
def addIt (w : Wd) (kd : Nat) (num : Int32) : Wd := (w.nm, w.it ++ [(kd, num)], w.im, fun j => if j = w.it.length + 1 then ndN kd (w.nd w.it.length) else w.nd j)
def aimW (w : Wd) (q : Nat) : Wd := (w.nm, w.it.set q ((w.it.getD q (0, 0)).1, Int32.ofNat w.it.length), w.im, w.nd)
def imW (w : Wd) : Wd := (w.nm, w.it, true, w.nd)
theorem add_len (w : Wd) (kd : Nat) (num : Int32) : (addIt w kd num).it.length = w.it.length + 1 := by
  show (w.it ++ [(kd, num)]).length = _
  simp
theorem aim_len (w : Wd) (q : Nat) : (aimW w q).it.length = w.it.length := by
  show (w.it.set q _).length = _
  simp
def compR (A : Ab) (w : Wd) (kd : Nat) (num : Int32) (op : List (Nat × Nat)) (f : Wd → Wd) : Int32 × Ab := if w.it.length < 60 then (0, (Ab.set_op (Ab.set_dr A (some (f (addIt w kd num)))) (op))) else (3, A)
def ctlW (k : Nat) (A : Ab) (w : Wd) : Int32 × Ab := match k with
  | 40 => match A.op with
    | [] => (0, (Ab.set_dr (Ab.set_ws A (A.ws ++ [w])) (none)))
    | _ => (6, A)
  | 41 => if A.op.length < 8 then compR A w 2 0 ((41, w.it.length) :: A.op) id else (3, A)
  | 42 => match A.op with
    | [] => (6, A)
    | x :: r => if x.1 = 41 ∨ x.1 = 43 then (0, (Ab.set_op (Ab.set_dr A (some (aimW w x.2))) (r))) else (6, A)
  | 43 => match A.op with
    | [] => (6, A)
    | x :: r => if x.1 = 41 then compR A w 3 0 ((43, w.it.length) :: r) (fun v => aimW v x.2) else (6, A)
  | 44 => if A.op.length < 8 then (0, (Ab.set_op A ((44, w.it.length) :: A.op))) else (3, A)
  | 45 => match A.op with
    | [] => (6, A)
    | x :: r => if x.1 = 44 then compR A w 2 (Int32.ofNat x.2) r id else (6, A)
  | 46 => match A.op with
    | [] => (6, A)
    | x :: r => if x.1 = 44 then compR A w 3 (Int32.ofNat x.2) r id else (6, A)
  | 47 => match A.op with
    | [] => (6, A)
    | x :: r => if x.1 = 44 then if A.op.length < 8 then compR A w 2 0 ((47, w.it.length) :: A.op) id else (3, A) else (6, A)
  | 48 => match A.op with
    | x :: y :: r => if x.1 = 47 then compR A w 3 (Int32.ofNat y.2) r (fun v => aimW v x.2) else (6, A)
    | _ => (6, A)
  | 49 => if A.op.length < 8 then compR A w 4 0 ((49, w.it.length + 1) :: A.op) id else (3, A)
  | 50 => match A.op with
    | [] => (6, A)
    | x :: r => if x.1 = 49 then compR A w 5 (Int32.ofNat x.2) r id else (6, A)
  | _ => compR A w 0 (Int32.ofNat (100 + A.ws.length)) A.op id
def ctl (k : Nat) (A : Ab) : Int32 × Ab := match A.dr with
  | none => (6, A)
  | some w => ctlW k A w
theorem WdA.low {im many kinds nums im' many' kinds' nums' : Nat → Int32} {names names' : Nat → Int64} {k : Nat} {w : Wd} (h : WdA im many kinds nums names k w) (e1 : im' k = im k) (e2 : many' k = many k) (e3 : ∀ i, i < 60 → kinds' (60 * k + i) = kinds (60 * k + i)) (e4 : ∀ i, i < 60 → nums' (60 * k + i) = nums (60 * k + i)) (e5 : names' (52 + k) = names (52 + k)) : WdA im' many' kinds' nums' names' k w :=
  (WdA.mk (e5.trans h.nm) (e2.trans h.many) (h.len) (fun i p hp => by
      have hi : i < 60 := by
        have := h.len
        rcases Nat.lt_or_ge i w.it.length with h' | h'
        · omega
        · simp [List.getElem?_eq_none h'] at hp
      rw [e3 i hi, e4 i hi]
      exact h.it i p hp) (e1.trans h.im))
theorem RM.add {A : Ab} {T : StM} {w : Wd} {kd : Nat} {num : Int32} (h : RM A T) (hd : A.dr = some w) (hl : w.it.length < 60) : RM (Ab.set_dr A (some (addIt w kd num))) (T.1, va_up (va_up (va_up T.2.1 18 (upd (T.2.1 18) (60 * A.ws.length + w.it.length) (Int32.ofNat kd))) 19 (upd (T.2.1 19) (60 * A.ws.length + w.it.length) num)) 17 (upd (T.2.1 17) A.ws.length (T.2.1 17 A.ws.length + 1)), T.2.2) := by
  obtain ⟨hm, hw⟩ := h.drW w hd
  have hne : A.dr ≠ none := by rw [hd]; exact fun z => by cases z
  refine (RM.mk (h.hereE) (h.hereB) (h.memE) (h.prE) (h.prB) (h.pbB) (h.outE) (h.fuE) (h.blkE) (h.hasE) (h.hasB) (h.upE) (h.toldE) (h.toldB) (h.upB) (h.toldH) (h.madeE) (h.madeB) (fun k v hk => ?_) (h.namE) (h.txE) (h.txB) (h.txC) (h.txO) (h.posE) (h.posB) (h.tkE) (h.tlE) (h.err) (h.dsE) (h.dsB) (h.dsS) (h.rsE) (h.rsB) (h.rsS) (h.csE) (h.csB) (h.csS) (h.csW) (?_) (fun v hv => ?_) (fun _ => h.opE hne) (h.opB) (fun _ => h.opK hne) (fun _ => h.opA hne))
  · have hkl : k < A.ws.length := by
      rcases Nat.lt_or_ge k A.ws.length with h' | h'
      · exact h'
      · have hk : A.ws[k]? = some v := hk
        simp [List.getElem?_eq_none h'] at hk
    exact (h.wsE k v hk).low rfl (upd_ne _ _ (by omega)) (fun i hi => upd_ne _ _ (by omega)) (fun i hi => upd_ne _ _ (by omega)) rfl
  · show T.1 21 = bE true
    rw [h.drE, hd]
    rfl
  · cases hv
    refine ⟨hm, (WdA.mk (hw.nm) (?_) (?_) (fun i p hp => ?_) (hw.im))⟩
    · show upd (T.2.1 17) A.ws.length (T.2.1 17 A.ws.length + 1) A.ws.length = _
      rw [upd_at, hw.many, of_succ, add_len]
    · rw [add_len]
      omega
    · have hp : (w.it ++ [(kd, num)])[i]? = some p := hp
      by_cases e : i = w.it.length
      · subst e
        rw [List.getElem?_append_right (Nat.le_refl _)] at hp
        simp at hp
        subst hp
        exact ⟨upd_at _ _ _, upd_at _ _ _⟩
      · have hi : i < w.it.length := by
          rcases Nat.lt_or_ge i w.it.length with h' | h'
          · exact h'
          · rw [List.getElem?_eq_none (by simp; omega)] at hp
            cases hp
        rw [List.getElem?_append_left hi] at hp
        have := hw.it i p hp
        exact ⟨(upd_ne _ _ (by omega)).trans this.1, (upd_ne _ _ (by omega)).trans this.2⟩
theorem m_compile {A : Ab} {T : StM} {Q : StM → Prop} {w : Wd} {kd : Nat} {num : Int32} (h : RM A T) (hd : A.dr = some w) (k0 : w.it.length < 60 → ∀ T', RM (Ab.set_dr A (some (addIt w kd num))) T' → Q T') (k1 : ¬ w.it.length < 60 → ∀ T', RMw A T' → T'.1 14 = 3 → Q T') : wp_M_compile Q T (Int32.ofNat kd) num := by
  obtain ⟨hm, hw⟩ := h.drW w hd
  have hl := hw.len
  have hin : vp_in (T.1 20) 25 := by
    rw [h.madeE]
    exact n_in (by omega) (by omega)
  have ei : 60 * T.1 20 + Int32.ofNat w.it.length = Int32.ofNat (60 * A.ws.length + w.it.length) := by
    rw [h.madeE, show (60 : Int32) = Int32.ofNat 60 from rfl, n_mul, n_add]
  have en : (T.1 20).toNatClampNeg = A.ws.length := by rw [h.madeE, n_cl (by omega)]
  unfold wp_M_compile
  rw [en, hw.many, ei, l_lt (by omega) (by decide), n_cl (by omega)]
  refine ⟨hin, fun z => ?_, fun z => m_fail h (by decide) (fun T' h1 h2 => k1 z T' h1 h2)⟩
  have hx : vp_in (Int32.ofNat (60 * A.ws.length + w.it.length)) 1500 := n_in (by omega) (by omega)
  have := h.add (kd := kd) (num := num) hd z
  rw [hw.many] at this
  exact ⟨hin, hx, hin, hx, hin, hin, k0 z _ this⟩
theorem m_settle {A : Ab} {T : StM} {Q : StM → Prop} {w : Wd} {x : Nat × Nat} {r : List (Nat × Nat)} (h : RM A T) (hd : A.dr = some w) (ho : A.op = x :: r) (hq : x.2 < w.it.length) (k : ∀ T', RM (Ab.set_op (Ab.set_dr A (some (aimW w x.2))) (r)) T' → Q T') : wp_M_settle Q T := by
  obtain ⟨hm, hw⟩ := h.drW w hd
  have hl := hw.len
  have hne : A.dr ≠ none := by rw [hd]; exact fun z => by cases z
  have hoB := h.opB
  have hoE := h.opE hne
  have hoK := h.opK hne
  have hoA := h.opA hne
  rw [ho] at hoB hoE hoK hoA
  simp at hoB
  have e1 : T.1 22 - 1 = Int32.ofNat r.length := by
    rw [hoE]
    exact n_sub (a := r.length + 1) (b := 1) (by omega)
  have en : (T.1 20).toNatClampNeg = A.ws.length := by rw [h.madeE, n_cl (by omega)]
  have ea : T.2.1 24 r.length = Int32.ofNat x.2 := by
    have := hoA.1
    rw [List.length_map] at this
    exact this
  have ei : 60 * T.1 20 + Int32.ofNat x.2 = Int32.ofNat (60 * A.ws.length + x.2) := by
    rw [h.madeE, show (60 : Int32) = Int32.ofNat 60 from rfl, n_mul, n_add]
  unfold wp_M_settle
  rw [e1, n_cl (by omega), ea, ei, n_cl (by omega), en, hw.many]
  refine ⟨n_in (by omega) (by omega), ?_, n_in (by omega) (by omega), k _ (RM.mk (h.hereE) (h.hereB) (h.memE) (h.prE) (h.prB) (h.pbB) (h.outE) (h.fuE) (h.blkE) (h.hasE) (h.hasB) (h.upE) (h.toldE) (h.toldB) (h.upB) (h.toldH) (h.madeE) (h.madeB) (fun k v hk => ?_) (h.namE) (h.txE) (h.txB) (h.txC) (h.txO) (h.posE) (h.posB) (h.tkE) (h.tlE) (h.err) (h.dsE) (h.dsB) (h.dsS) (h.rsE) (h.rsB) (h.rsS) (h.csE) (h.csB) (h.csS) (h.csW) (?_) (fun v hv => ?_) (fun _ => rfl) (by show r.length ≤ 8; omega) (fun _ => hoK.2) (fun _ => hoA.2))⟩
  · rw [h.madeE]
    exact n_in (by omega) (by omega)
  · have hkl : k < A.ws.length := by
      rcases Nat.lt_or_ge k A.ws.length with h' | h'
      · exact h'
      · have hk : A.ws[k]? = some v := hk
        simp [List.getElem?_eq_none h'] at hk
    exact (h.wsE k v hk).low rfl rfl (fun i hi => rfl) (fun i hi => upd_ne _ _ (by omega)) rfl
  · show T.1 21 = bE true
    rw [h.drE, hd]
    rfl
  · cases hv
    refine ⟨hm, (WdA.mk (hw.nm) (?_) (?_) (fun i p hp => ?_) (hw.im))⟩
    · show T.2.1 17 A.ws.length = _
      rw [hw.many, aim_len]
    · rw [aim_len]
      omega
    · have hp : (w.it.set x.2 ((w.it.getD x.2 (0, 0)).1, Int32.ofNat w.it.length))[i]? = some p := hp
      rw [List.getElem?_set] at hp
      by_cases e : x.2 = i
      · subst e
        rw [if_pos rfl, if_pos hq] at hp
        simp at hp
        subst hp
        refine ⟨?_, upd_at _ _ _⟩
        have := hw.it x.2 w.it[x.2] (List.getElem?_eq_getElem hq)
        rw [List.getElem?_eq_getElem hq]
        exact this.1
      · rw [if_neg e] at hp
        have := hw.it i p hp
        exact ⟨this.1, (upd_ne _ _ (show 60 * A.ws.length + i ≠ 60 * A.ws.length + x.2 by omega)).trans this.2⟩
theorem m_openOne {A : Ab} {T : StM} {Q : StM → Prop} {kd p : Nat} (h : RM A T) (hd : A.dr ≠ none) (ho : A.op.length < 8) (k : ∀ T', RM (Ab.set_op A ((kd, p) :: A.op)) T' → Q T') : wp_M_openOne Q T (Int32.ofNat kd) (Int32.ofNat p) := by
  have hoE := h.opE hd
  have hoK := h.opK hd
  have hoA := h.opA hd
  have hin : vp_in (T.1 22) 8 := by
    rw [hoE]
    exact n_in (by omega) (by omega)
  refine ⟨hin, hin, k _ (RM.mk (h.hereE) (h.hereB) (h.memE) (h.prE) (h.prB) (h.pbB) (h.outE) (h.fuE) (h.blkE) (h.hasE) (h.hasB) (h.upE) (h.toldE) (h.toldB) (h.upB) (h.toldH) (h.madeE) (h.madeB) (h.wsE) (h.namE) (h.txE) (h.txB) (h.txC) (h.txO) (h.posE) (h.posB) (h.tkE) (h.tlE) (h.err) (h.dsE) (h.dsB) (h.dsS) (h.rsE) (h.rsB) (h.rsS) (h.csE) (h.csB) (h.csS) (h.csW) (h.drE) (h.drW) (fun _ => ?_) (?_) (fun _ => ?_) (fun _ => ?_))⟩
  · show T.1 22 + 1 = _
    rw [hoE, of_succ]
    rfl
  · show (_ :: A.op).length ≤ 8
    simp
    omega
  · show Stk (upd (T.2.1 23) (T.1 22).toNatClampNeg (Int32.ofNat kd)) _
    rw [hoE, n_cl (by omega)]
    refine ⟨?_, hoK.put (by simp)⟩
    rw [List.length_map, upd_at]
  · show Stk (upd (T.2.1 24) (T.1 22).toNatClampNeg (Int32.ofNat p)) _
    rw [hoE, n_cl (by omega)]
    refine ⟨?_, hoA.put (by simp)⟩
    rw [List.length_map, upd_at]
theorem RM.popop {A : Ab} {T : StM} {x : Nat × Nat} {r : List (Nat × Nat)} (h : RM A T) (hd : A.dr ≠ none) (ho : A.op = x :: r) : RM (Ab.set_op A (r)) (upd T.1 22 (T.1 22 - 1), T.2) := by
  have hoB := h.opB
  have hoE := h.opE hd
  have hoK := h.opK hd
  have hoA := h.opA hd
  rw [ho] at hoB hoE hoK hoA
  simp at hoB
  refine (RM.mk (h.hereE) (h.hereB) (h.memE) (h.prE) (h.prB) (h.pbB) (h.outE) (h.fuE) (h.blkE) (h.hasE) (h.hasB) (h.upE) (h.toldE) (h.toldB) (h.upB) (h.toldH) (h.madeE) (h.madeB) (h.wsE) (h.namE) (h.txE) (h.txB) (h.txC) (h.txO) (h.posE) (h.posB) (h.tkE) (h.tlE) (h.err) (h.dsE) (h.dsB) (h.dsS) (h.rsE) (h.rsB) (h.rsS) (h.csE) (h.csB) (h.csS) (h.csW) (h.drE) (h.drW) (fun _ => ?_) (?_) (fun _ => hoK.2) (fun _ => hoA.2))
  · show T.1 22 - 1 = _
    rw [hoE]
    exact n_sub (a := r.length + 1) (b := 1) (by omega)
  · show r.length ≤ 8
    omega
def dos : List (Nat × Nat) → Nat
  | [] => 0
  | x :: r => if x.1 = 49 then dos r + 1 else dos r
/-- what is open in a draft -/
def OpOK (w : Wd) : List (Nat × Nat) → Prop
  | [] => True
  | x :: r => OpOK w r ∧ ((((x.1 = 41 ∨ x.1 = 47) ∧ (∃ n, w.it[x.2]? = some (2, n)) ∧ w.nd (x.2 + 1) = w.nd x.2) ∨ (x.1 = 43 ∧ ∃ n, w.it[x.2]? = some (3, n))) ∧ w.nd x.2 = dos r ∧ (x.1 = 47 → ∃ q r', r = (44, q) :: r') ∨ x.1 = 44 ∧ x.2 ≤ w.it.length ∧ w.nd x.2 = dos r ∨ x.1 = 49 ∧ x.2 ≤ w.it.length ∧ w.nd x.2 = dos r + 1)
def DrOK (m : Nat) (w : Wd) (op : List (Nat × Nat)) : Prop := (w.im = false) ∧ (w.it.length ≤ 60) ∧ (w.nd 0 = 0) ∧ (w.nd w.it.length = dos op) ∧ (OpOK w op) ∧ (∀ i p, w.it[i]? = some p → itOK (m + 1) w.it.length w.nd i p ∨ ∃ x ∈ op, x.2 = i ∧ (x.1 = 41 ∨ x.1 = 43 ∨ x.1 = 47))
theorem DrOK.im {m : Nat} {w : Wd} {op : List (Nat × Nat)} (h : DrOK m w op) : w.im = false := h.1
theorem DrOK.len {m : Nat} {w : Wd} {op : List (Nat × Nat)} (h : DrOK m w op) : w.it.length ≤ 60 := h.2.1
theorem DrOK.nd0 {m : Nat} {w : Wd} {op : List (Nat × Nat)} (h : DrOK m w op) : w.nd 0 = 0 := h.2.2.1
theorem DrOK.ndl {m : Nat} {w : Wd} {op : List (Nat × Nat)} (h : DrOK m w op) : w.nd w.it.length = dos op := h.2.2.2.1
theorem DrOK.ops {m : Nat} {w : Wd} {op : List (Nat × Nat)} (h : DrOK m w op) : OpOK w op := h.2.2.2.2.1
theorem DrOK.it {m : Nat} {w : Wd} {op : List (Nat × Nat)} (h : DrOK m w op) : ∀ i p, w.it[i]? = some p → itOK (m + 1) w.it.length w.nd i p ∨ ∃ x ∈ op, x.2 = i ∧ (x.1 = 41 ∨ x.1 = 43 ∨ x.1 = 47) := h.2.2.2.2.2
theorem DrOK.mk {m : Nat} {w : Wd} {op : List (Nat × Nat)} (im0 : w.im = false) (len0 : w.it.length ≤ 60) (nd00 : w.nd 0 = 0) (ndl0 : w.nd w.it.length = dos op) (ops0 : OpOK w op) (it0 : ∀ i p, w.it[i]? = some p → itOK (m + 1) w.it.length w.nd i p ∨ ∃ x ∈ op, x.2 = i ∧ (x.1 = 41 ∨ x.1 = 43 ∨ x.1 = 47)) : DrOK m w op := ⟨im0, len0, nd00, ndl0, ops0, it0⟩
theorem OpOK.kind {w : Wd} {x : Nat × Nat} {r : List (Nat × Nat)} (h : OpOK w (x :: r)) : x.1 = 41 ∨ x.1 = 43 ∨ x.1 = 44 ∨ x.1 = 47 ∨ x.1 = 49 := by
  obtain ⟨-, h | h | h⟩ := h
  · rcases h.1 with h | h
    · rcases h.1 with h | h <;> simp [h]
    · simp [h.1]
  · simp [h.1]
  · simp [h.1]

theorem ctl_in {A : Ab} {T : StM} (h : RM A T) : vp_in (T.1 20) 25 := by
  have := h.madeB
  rw [h.madeE]
  exact n_in (by omega) (by omega)
theorem ctl_dr {A : Ab} {T : StM} (h : RM A T) : (A.dr = none → T.1 21 = 0) ∧ (∀ w, A.dr = some w → ¬ T.1 21 = 0) := by
  refine ⟨fun e => ?_, fun w e => ?_⟩
  · rw [h.drE, e]
    rfl
  · rw [h.drE, e]
    show ¬ bE true = 0
    decide
theorem ctl_op {A : Ab} {T : StM} {w : Wd} {x : Nat × Nat} {r : List (Nat × Nat)} (h : RM A T) (hd : A.dr = some w) (hO : OpOK w A.op) (ho : A.op = x :: r) : ¬ T.1 22 ≤ 0 ∧ ¬ T.1 22 = 0 ∧ vp_in (T.1 22 - 1) 8 ∧ T.2.1 23 (T.1 22 - 1).toNatClampNeg = Int32.ofNat x.1 ∧ T.2.1 24 (T.1 22 - 1).toNatClampNeg = Int32.ofNat x.2 ∧ r.length < 8 ∧ x.1 < 52 ∧ T.1 22 = Int32.ofNat (r.length + 1) := by
  have hne : A.dr ≠ none := by rw [hd]; exact fun z => by cases z
  have hoB := h.opB
  have hoE := h.opE hne
  have hoK := h.opK hne
  have hoA := h.opA hne
  rw [ho] at hoB hoE hoK hoA hO
  simp at hoB
  have e1 : T.1 22 - 1 = Int32.ofNat r.length := by
    rw [hoE]
    exact n_sub (a := r.length + 1) (b := 1) (by omega)
  have hk := hO.kind
  rw [e1, n_cl (by omega)]
  refine ⟨?_, ?_, n_in (by omega) (by omega), ?_, ?_, by omega, by omega, hoE⟩
  · rw [hoE]
    show ¬ Int32.ofNat (r.length + 1) ≤ 0
    rw [l_le (by omega) (by decide)]
    omega
  · rw [hoE]
    show ¬ Int32.ofNat (r.length + 1) = 0
    rw [l_eq (by omega) (by decide)]
    omega
  · have := hoK.1
    rw [List.length_map] at this
    exact this
  · have := hoA.1
    rw [List.length_map] at this
    exact this
theorem ctl_nil {A : Ab} {T : StM} {w : Wd} (h : RM A T) (hd : A.dr = some w) (ho : A.op = []) : T.1 22 ≤ 0 ∧ T.1 22 = 0 := by
  have hoE := h.opE (by rw [hd]; exact fun z => by cases z)
  rw [ho] at hoE
  rw [hoE]
  exact ⟨by decide, rfl⟩
theorem OpOK.place {w : Wd} {x : Nat × Nat} {r : List (Nat × Nat)} (h : OpOK w (x :: r)) (hk : x.1 = 41 ∨ x.1 = 43 ∨ x.1 = 47) : x.2 < w.it.length := by
  obtain ⟨-, h | h | h⟩ := h
  · rcases h.1 with ⟨-, ⟨n, h⟩, -⟩ | ⟨-, n, h⟩
    · rcases Nat.lt_or_ge x.2 w.it.length with h' | h'
      · exact h'
      · simp [List.getElem?_eq_none h'] at h
    · rcases Nat.lt_or_ge x.2 w.it.length with h' | h'
      · exact h'
      · simp [List.getElem?_eq_none h'] at h
  · omega
  · omega
theorem m_c40 {A : Ab} {T : StM} {Q : StM → Prop} (h : RM A T) (hO : ∀ w, A.dr = some w → OpOK w A.op) (k : ∀ T', RMr (ctl 40 A) T' → Q T') : wp_M_control Q T 40 := by
  simp (config := {decide := true}) only [wp_M_in, wq_M_in_14, wq_M_in_15, wq_M_control_264, wq_M_control_251, wq_M_control_248, wq_M_control_230, wq_M_control_195, wq_M_control_162, wq_M_control_147, wq_M_control_109, wq_M_control_55, wq_M_control_39, wq_M_control_34, wp_M_control, wq_M_fits_144, wq_M_fits_139, wq_M_fits_106, wq_M_fits_83, wq_M_fits_65, wq_M_fits_60, wq_M_fits_41, wq_M_fits_22, wp_M_fits, wq_M_after_104, wq_M_after_101, wq_M_after_86, wq_M_after_56, wq_M_after_46, wq_M_after_22, wq_M_after_18, wp_M_after, true_implies, false_implies, not_true_eq_false, not_false_eq_true, and_true, true_and]
  have hmB := h.madeB
  refine ⟨ctl_in h, fun z => ?_, fun z => ?_⟩
  · match hd : A.dr with
    | some w => exact absurd z ((ctl_dr h).2 w hd)
    | none =>
      refine m_fail h (by decide) (fun T' h1 h2 => k _ ?_)
      rw [ctl, hd]
      exact RMr.no (by decide) h1 h2
  · match hd : A.dr with
    | none => exact absurd ((ctl_dr h).1 hd) z
    | some w =>
      have hO := hO w hd
      have hne : A.dr ≠ none := by rw [hd]; exact fun z => by cases z
      obtain ⟨hm, hw⟩ := h.drW w hd
      have hl := hw.len
      have eN : (T.1 20).toNatClampNeg = A.ws.length := by rw [h.madeE, n_cl (by omega)]
      have eM : T.2.1 17 (T.1 20).toNatClampNeg = Int32.ofNat w.it.length := by rw [eN, hw.many]
      rw [ctl, hd] at k
      have k : ∀ T', RMr (ctlW 40 A w) T' → Q T' := k
      match ho : A.op with
      | [] =>
        have hn := ctl_nil h hd ho
        have hoE := h.opE hne
        rw [ctlW, ho] at k
        dsimp only at k
        have fin : Q (upd (upd T.1 20 (T.1 20 + 1)) 21 0, T.2) := k _ (RMr.ok (RM.mk (h.hereE) (h.hereB) (h.memE) (h.prE) (h.prB) (h.pbB) (h.outE) (h.fuE) (h.blkE) (h.hasE) (h.hasB) (h.upE) (h.toldE) (h.toldB) (h.upB) (h.toldH) (?_) (?_) (fun k v hk => ?_) (h.namE) (h.txE) (h.txB) (h.txC) (h.txO) (h.posE) (h.posB) (h.tkE) (h.tlE) (h.err) (h.dsE) (h.dsB) (h.dsS) (h.rsE) (h.rsB) (h.rsS) (h.csE) (h.csB) (h.csS) (?_) (rfl) (fun v hv => by cases hv) (fun z => absurd rfl z) ((by show A.op.length ≤ 8; rw [ho]; exact Nat.zero_le _)) (fun z => absurd rfl z) (fun z => absurd rfl z)))
        exact ⟨fun _ => ⟨fun _ => fin, fun z => absurd hn.2 z⟩, fun z => absurd hn.1 z⟩
        · show T.1 20 + 1 = Int32.ofNat (A.ws ++ [w]).length
          rw [h.madeE, of_succ]
          simp
        · show (A.ws ++ [w]).length ≤ 24
          simp
          omega
        · have hk : (A.ws ++ [w])[k]? = some v := hk
          by_cases e : k = A.ws.length
          · subst e
            rw [List.getElem?_append_right (Nat.le_refl _)] at hk
            simp at hk
            subst hk
            exact hw
          · have hi : k < A.ws.length := by
              rcases Nat.lt_or_ge k A.ws.length with h' | h'
              · exact h'
              · rw [List.getElem?_eq_none (by simp; omega)] at hk
                cases hk
            rw [List.getElem?_append_left hi] at hk
            exact h.wsE k v hk
        · intro fr hf
          obtain ⟨v, hv, hx⟩ := h.csW fr hf
          refine ⟨v, ?_, hx⟩
          have hi : fr.w < A.ws.length := by
            rcases Nat.lt_or_ge fr.w A.ws.length with h' | h'
            · exact h'
            · simp [List.getElem?_eq_none h'] at hv
          show (A.ws ++ [w])[fr.w]? = _
          rw [List.getElem?_append_left hi]
          exact hv
      | x :: r =>
        obtain ⟨c1, c2, c3, c4, c5, c6, c7, c8⟩ := ctl_op h hd hO ho
        have hO1 := hO
        rw [ho] at hO1
        refine ⟨fun z => absurd z c1, fun _ => ⟨c3, fun z => absurd z c2, fun _ => ?_⟩⟩
        refine m_fail h (by decide) (fun T' h1 h2 => k _ ?_)
        rw [ctlW, ho]
        exact RMr.no (by decide) h1 h2
theorem m_c41 {A : Ab} {T : StM} {Q : StM → Prop} (h : RM A T) (hO : ∀ w, A.dr = some w → OpOK w A.op) (k : ∀ T', RMr (ctl 41 A) T' → Q T') : wp_M_control Q T 41 := by
  simp (config := {decide := true}) only [wp_M_in, wq_M_in_14, wq_M_in_15, wq_M_control_264, wq_M_control_251, wq_M_control_248, wq_M_control_230, wq_M_control_195, wq_M_control_162, wq_M_control_147, wq_M_control_109, wq_M_control_55, wq_M_control_39, wq_M_control_34, wp_M_control, wq_M_fits_144, wq_M_fits_139, wq_M_fits_106, wq_M_fits_83, wq_M_fits_65, wq_M_fits_60, wq_M_fits_41, wq_M_fits_22, wp_M_fits, wq_M_after_104, wq_M_after_101, wq_M_after_86, wq_M_after_56, wq_M_after_46, wq_M_after_22, wq_M_after_18, wp_M_after, true_implies, false_implies, not_true_eq_false, not_false_eq_true, and_true, true_and]
  have hmB := h.madeB
  refine ⟨ctl_in h, fun z => ?_, fun z => ?_⟩
  · match hd : A.dr with
    | some w => exact absurd z ((ctl_dr h).2 w hd)
    | none =>
      refine m_fail h (by decide) (fun T' h1 h2 => k _ ?_)
      rw [ctl, hd]
      exact RMr.no (by decide) h1 h2
  · match hd : A.dr with
    | none => exact absurd ((ctl_dr h).1 hd) z
    | some w =>
      have hO := hO w hd
      have hne : A.dr ≠ none := by rw [hd]; exact fun z => by cases z
      obtain ⟨hm, hw⟩ := h.drW w hd
      have hl := hw.len
      have eN : (T.1 20).toNatClampNeg = A.ws.length := by rw [h.madeE, n_cl (by omega)]
      have eM : T.2.1 17 (T.1 20).toNatClampNeg = Int32.ofNat w.it.length := by rw [eN, hw.many]
      rw [ctl, hd] at k
      have k : ∀ T', RMr (ctlW 41 A w) T' → Q T' := k
      match ho : A.op with
      | [] =>
        have hn := ctl_nil h hd ho
        have hoE := h.opE hne
        have hoL := h.opE hne
        have hoB := h.opB
        refine ⟨fun _ => ?_, fun z => absurd hn.1 z⟩
        rw [hoL, l_lt (by omega) (by decide)]
        rw [ctlW] at k
        refine ⟨fun z => ?_, fun z => m_fail h (by decide) (fun T' h1 h2 => k _ ?_)⟩
        · rw [if_pos z] at k
          refine m_compile (kd := 2) h hd (fun hl T1 h1 => ⟨fun _ => ?_, fun z => absurd h1.err z⟩) (fun hl T1 h1 h2 => ⟨fun z => absurd (h2.symm.trans z) (by decide), fun _ => k _ ?_⟩)
          · rw [eM]
            refine m_openOne h1 (fun z => by cases z) (by show A.op.length < 8; omega) (fun T2 h2 => k _ ?_)
            rw [compR, if_pos hl]
            exact RMr.ok h2
          · rw [compR, if_neg hl]
            exact RMr.no (by decide) h1 h2
        · rw [if_neg z]
          exact RMr.no (by decide) h1 h2
      | x :: r =>
        obtain ⟨c1, c2, c3, c4, c5, c6, c7, c8⟩ := ctl_op h hd hO ho
        have hO1 := hO
        rw [ho] at hO1
        have hoL := h.opE hne
        have hoB := h.opB
        refine ⟨fun z => absurd z c1, fun _ => ⟨c3, ?_⟩⟩
        rw [hoL, l_lt (by omega) (by decide)]
        rw [ctlW] at k
        refine ⟨fun z => ?_, fun z => m_fail h (by decide) (fun T' h1 h2 => k _ ?_)⟩
        · rw [if_pos z] at k
          refine m_compile (kd := 2) h hd (fun hl T1 h1 => ⟨fun _ => ?_, fun z => absurd h1.err z⟩) (fun hl T1 h1 h2 => ⟨fun z => absurd (h2.symm.trans z) (by decide), fun _ => k _ ?_⟩)
          · rw [eM]
            refine m_openOne h1 (fun z => by cases z) (by show A.op.length < 8; omega) (fun T2 h2 => k _ ?_)
            rw [compR, if_pos hl]
            exact RMr.ok h2
          · rw [compR, if_neg hl]
            exact RMr.no (by decide) h1 h2
        · rw [if_neg z]
          exact RMr.no (by decide) h1 h2
theorem m_c49 {A : Ab} {T : StM} {Q : StM → Prop} (h : RM A T) (hO : ∀ w, A.dr = some w → OpOK w A.op) (k : ∀ T', RMr (ctl 49 A) T' → Q T') : wp_M_control Q T 49 := by
  simp (config := {decide := true}) only [wp_M_in, wq_M_in_14, wq_M_in_15, wq_M_control_264, wq_M_control_251, wq_M_control_248, wq_M_control_230, wq_M_control_195, wq_M_control_162, wq_M_control_147, wq_M_control_109, wq_M_control_55, wq_M_control_39, wq_M_control_34, wp_M_control, wq_M_fits_144, wq_M_fits_139, wq_M_fits_106, wq_M_fits_83, wq_M_fits_65, wq_M_fits_60, wq_M_fits_41, wq_M_fits_22, wp_M_fits, wq_M_after_104, wq_M_after_101, wq_M_after_86, wq_M_after_56, wq_M_after_46, wq_M_after_22, wq_M_after_18, wp_M_after, true_implies, false_implies, not_true_eq_false, not_false_eq_true, and_true, true_and]
  have hmB := h.madeB
  refine ⟨ctl_in h, fun z => ?_, fun z => ?_⟩
  · match hd : A.dr with
    | some w => exact absurd z ((ctl_dr h).2 w hd)
    | none =>
      refine m_fail h (by decide) (fun T' h1 h2 => k _ ?_)
      rw [ctl, hd]
      exact RMr.no (by decide) h1 h2
  · match hd : A.dr with
    | none => exact absurd ((ctl_dr h).1 hd) z
    | some w =>
      have hO := hO w hd
      have hne : A.dr ≠ none := by rw [hd]; exact fun z => by cases z
      obtain ⟨hm, hw⟩ := h.drW w hd
      have hl := hw.len
      have eN : (T.1 20).toNatClampNeg = A.ws.length := by rw [h.madeE, n_cl (by omega)]
      have eM : T.2.1 17 (T.1 20).toNatClampNeg = Int32.ofNat w.it.length := by rw [eN, hw.many]
      rw [ctl, hd] at k
      have k : ∀ T', RMr (ctlW 49 A w) T' → Q T' := k
      match ho : A.op with
      | [] =>
        have hn := ctl_nil h hd ho
        have hoE := h.opE hne
        have hoL := h.opE hne
        have hoB := h.opB
        refine ⟨fun _ => ?_, fun z => absurd hn.1 z⟩
        rw [hoL, l_lt (by omega) (by decide)]
        rw [ctlW] at k
        refine ⟨fun z => ?_, fun z => m_fail h (by decide) (fun T' h1 h2 => k _ ?_)⟩
        · rw [if_pos z] at k
          refine m_compile (kd := 4) h hd (fun hl T1 h1 => ⟨fun _ => ?_, fun z => absurd h1.err z⟩) (fun hl T1 h1 h2 => ⟨fun z => absurd (h2.symm.trans z) (by decide), fun _ => k _ ?_⟩)
          · rw [eM]
            rw [of_succ]
            refine m_openOne h1 (fun z => by cases z) (by show A.op.length < 8; omega) (fun T2 h2 => k _ ?_)
            rw [compR, if_pos hl]
            exact RMr.ok h2
          · rw [compR, if_neg hl]
            exact RMr.no (by decide) h1 h2
        · rw [if_neg z]
          exact RMr.no (by decide) h1 h2
      | x :: r =>
        obtain ⟨c1, c2, c3, c4, c5, c6, c7, c8⟩ := ctl_op h hd hO ho
        have hO1 := hO
        rw [ho] at hO1
        have hoL := h.opE hne
        have hoB := h.opB
        refine ⟨fun z => absurd z c1, fun _ => ⟨c3, ?_⟩⟩
        rw [hoL, l_lt (by omega) (by decide)]
        rw [ctlW] at k
        refine ⟨fun z => ?_, fun z => m_fail h (by decide) (fun T' h1 h2 => k _ ?_)⟩
        · rw [if_pos z] at k
          refine m_compile (kd := 4) h hd (fun hl T1 h1 => ⟨fun _ => ?_, fun z => absurd h1.err z⟩) (fun hl T1 h1 h2 => ⟨fun z => absurd (h2.symm.trans z) (by decide), fun _ => k _ ?_⟩)
          · rw [eM]
            rw [of_succ]
            refine m_openOne h1 (fun z => by cases z) (by show A.op.length < 8; omega) (fun T2 h2 => k _ ?_)
            rw [compR, if_pos hl]
            exact RMr.ok h2
          · rw [compR, if_neg hl]
            exact RMr.no (by decide) h1 h2
        · rw [if_neg z]
          exact RMr.no (by decide) h1 h2
theorem m_c44 {A : Ab} {T : StM} {Q : StM → Prop} (h : RM A T) (hO : ∀ w, A.dr = some w → OpOK w A.op) (k : ∀ T', RMr (ctl 44 A) T' → Q T') : wp_M_control Q T 44 := by
  simp (config := {decide := true}) only [wp_M_in, wq_M_in_14, wq_M_in_15, wq_M_control_264, wq_M_control_251, wq_M_control_248, wq_M_control_230, wq_M_control_195, wq_M_control_162, wq_M_control_147, wq_M_control_109, wq_M_control_55, wq_M_control_39, wq_M_control_34, wp_M_control, wq_M_fits_144, wq_M_fits_139, wq_M_fits_106, wq_M_fits_83, wq_M_fits_65, wq_M_fits_60, wq_M_fits_41, wq_M_fits_22, wp_M_fits, wq_M_after_104, wq_M_after_101, wq_M_after_86, wq_M_after_56, wq_M_after_46, wq_M_after_22, wq_M_after_18, wp_M_after, true_implies, false_implies, not_true_eq_false, not_false_eq_true, and_true, true_and]
  have hmB := h.madeB
  refine ⟨ctl_in h, fun z => ?_, fun z => ?_⟩
  · match hd : A.dr with
    | some w => exact absurd z ((ctl_dr h).2 w hd)
    | none =>
      refine m_fail h (by decide) (fun T' h1 h2 => k _ ?_)
      rw [ctl, hd]
      exact RMr.no (by decide) h1 h2
  · match hd : A.dr with
    | none => exact absurd ((ctl_dr h).1 hd) z
    | some w =>
      have hO := hO w hd
      have hne : A.dr ≠ none := by rw [hd]; exact fun z => by cases z
      obtain ⟨hm, hw⟩ := h.drW w hd
      have hl := hw.len
      have eN : (T.1 20).toNatClampNeg = A.ws.length := by rw [h.madeE, n_cl (by omega)]
      have eM : T.2.1 17 (T.1 20).toNatClampNeg = Int32.ofNat w.it.length := by rw [eN, hw.many]
      rw [ctl, hd] at k
      have k : ∀ T', RMr (ctlW 44 A w) T' → Q T' := k
      match ho : A.op with
      | [] =>
        have hn := ctl_nil h hd ho
        have hoE := h.opE hne
        have hoL := h.opE hne
        have hoB := h.opB
        refine ⟨fun _ => ?_, fun z => absurd hn.1 z⟩
        rw [hoL, l_lt (by omega) (by decide)]
        rw [ctlW] at k
        refine ⟨fun z => ⟨fun _ => ?_, fun q => absurd h.err q⟩, fun z => m_fail h (by decide) (fun T' h1 h2 => k _ ?_)⟩
        · rw [if_pos z] at k
          rw [eM]
          exact m_openOne h hne (by omega) (fun T2 h2 => k _ (RMr.ok h2))
        · rw [if_neg z]
          exact RMr.no (by decide) h1 h2
      | x :: r =>
        obtain ⟨c1, c2, c3, c4, c5, c6, c7, c8⟩ := ctl_op h hd hO ho
        have hO1 := hO
        rw [ho] at hO1
        have hoL := h.opE hne
        have hoB := h.opB
        refine ⟨fun z => absurd z c1, fun _ => ⟨c3, ?_⟩⟩
        rw [hoL, l_lt (by omega) (by decide)]
        rw [ctlW] at k
        refine ⟨fun z => ⟨fun _ => ?_, fun q => absurd h.err q⟩, fun z => m_fail h (by decide) (fun T' h1 h2 => k _ ?_)⟩
        · rw [if_pos z] at k
          rw [eM]
          exact m_openOne h hne (by omega) (fun T2 h2 => k _ (RMr.ok h2))
        · rw [if_neg z]
          exact RMr.no (by decide) h1 h2
theorem m_c42 {A : Ab} {T : StM} {Q : StM → Prop} (h : RM A T) (hO : ∀ w, A.dr = some w → OpOK w A.op) (k : ∀ T', RMr (ctl 42 A) T' → Q T') : wp_M_control Q T 42 := by
  simp (config := {decide := true}) only [wp_M_in, wq_M_in_14, wq_M_in_15, wq_M_control_264, wq_M_control_251, wq_M_control_248, wq_M_control_230, wq_M_control_195, wq_M_control_162, wq_M_control_147, wq_M_control_109, wq_M_control_55, wq_M_control_39, wq_M_control_34, wp_M_control, wq_M_fits_144, wq_M_fits_139, wq_M_fits_106, wq_M_fits_83, wq_M_fits_65, wq_M_fits_60, wq_M_fits_41, wq_M_fits_22, wp_M_fits, wq_M_after_104, wq_M_after_101, wq_M_after_86, wq_M_after_56, wq_M_after_46, wq_M_after_22, wq_M_after_18, wp_M_after, true_implies, false_implies, not_true_eq_false, not_false_eq_true, and_true, true_and]
  have hmB := h.madeB
  refine ⟨ctl_in h, fun z => ?_, fun z => ?_⟩
  · match hd : A.dr with
    | some w => exact absurd z ((ctl_dr h).2 w hd)
    | none =>
      refine m_fail h (by decide) (fun T' h1 h2 => k _ ?_)
      rw [ctl, hd]
      exact RMr.no (by decide) h1 h2
  · match hd : A.dr with
    | none => exact absurd ((ctl_dr h).1 hd) z
    | some w =>
      have hO := hO w hd
      have hne : A.dr ≠ none := by rw [hd]; exact fun z => by cases z
      obtain ⟨hm, hw⟩ := h.drW w hd
      have hl := hw.len
      have eN : (T.1 20).toNatClampNeg = A.ws.length := by rw [h.madeE, n_cl (by omega)]
      have eM : T.2.1 17 (T.1 20).toNatClampNeg = Int32.ofNat w.it.length := by rw [eN, hw.many]
      rw [ctl, hd] at k
      have k : ∀ T', RMr (ctlW 42 A w) T' → Q T' := k
      match ho : A.op with
      | [] =>
        have hn := ctl_nil h hd ho
        have hoE := h.opE hne
        refine ⟨fun _ => ?_, fun z => absurd hn.1 z⟩
        refine m_fail h (by decide) (fun T' h1 h2 => k _ ?_)
        rw [ctlW, ho]
        exact RMr.no (by decide) h1 h2
      | x :: r =>
        obtain ⟨c1, c2, c3, c4, c5, c6, c7, c8⟩ := ctl_op h hd hO ho
        have hO1 := hO
        rw [ho] at hO1
        rw [ctlW, ho] at k
        dsimp only at k
        rw [c4]
        refine ⟨fun z => absurd z c1, fun _ => ⟨c3, fun z => ⟨fun _ => ?_, fun z => absurd h.err z⟩, fun z => ⟨fun z1 => ⟨fun _ => ?_, fun z => absurd h.err z⟩, fun z1 => m_fail h (by decide) (fun T' h1 h2 => k _ ?_)⟩⟩⟩
        · rw [l_eq (by omega) (by decide)] at z
          rw [if_pos (Or.inl z)] at k
          exact m_settle h hd ho (hO1.place (Or.inl z)) (fun T' h' => k _ (RMr.ok h'))
        · rw [l_eq (by omega) (by decide)] at z1
          rw [if_pos (Or.inr z1)] at k
          exact m_settle h hd ho (hO1.place (Or.inr (Or.inl z1))) (fun T' h' => k _ (RMr.ok h'))
        · rw [l_eq (by omega) (by decide)] at z z1
          rw [if_neg (fun q => q.elim z z1)]
          exact RMr.no (by decide) h1 h2
theorem m_c43 {A : Ab} {T : StM} {Q : StM → Prop} (h : RM A T) (hO : ∀ w, A.dr = some w → OpOK w A.op) (k : ∀ T', RMr (ctl 43 A) T' → Q T') : wp_M_control Q T 43 := by
  simp (config := {decide := true}) only [wp_M_in, wq_M_in_14, wq_M_in_15, wq_M_control_264, wq_M_control_251, wq_M_control_248, wq_M_control_230, wq_M_control_195, wq_M_control_162, wq_M_control_147, wq_M_control_109, wq_M_control_55, wq_M_control_39, wq_M_control_34, wp_M_control, wq_M_fits_144, wq_M_fits_139, wq_M_fits_106, wq_M_fits_83, wq_M_fits_65, wq_M_fits_60, wq_M_fits_41, wq_M_fits_22, wp_M_fits, wq_M_after_104, wq_M_after_101, wq_M_after_86, wq_M_after_56, wq_M_after_46, wq_M_after_22, wq_M_after_18, wp_M_after, true_implies, false_implies, not_true_eq_false, not_false_eq_true, and_true, true_and]
  have hmB := h.madeB
  refine ⟨ctl_in h, fun z => ?_, fun z => ?_⟩
  · match hd : A.dr with
    | some w => exact absurd z ((ctl_dr h).2 w hd)
    | none =>
      refine m_fail h (by decide) (fun T' h1 h2 => k _ ?_)
      rw [ctl, hd]
      exact RMr.no (by decide) h1 h2
  · match hd : A.dr with
    | none => exact absurd ((ctl_dr h).1 hd) z
    | some w =>
      have hO := hO w hd
      have hne : A.dr ≠ none := by rw [hd]; exact fun z => by cases z
      obtain ⟨hm, hw⟩ := h.drW w hd
      have hl := hw.len
      have eN : (T.1 20).toNatClampNeg = A.ws.length := by rw [h.madeE, n_cl (by omega)]
      have eM : T.2.1 17 (T.1 20).toNatClampNeg = Int32.ofNat w.it.length := by rw [eN, hw.many]
      rw [ctl, hd] at k
      have k : ∀ T', RMr (ctlW 43 A w) T' → Q T' := k
      match ho : A.op with
      | [] =>
        have hn := ctl_nil h hd ho
        have hoE := h.opE hne
        refine ⟨fun _ => ?_, fun z => absurd hn.1 z⟩
        refine m_fail h (by decide) (fun T' h1 h2 => k _ ?_)
        rw [ctlW, ho]
        exact RMr.no (by decide) h1 h2
      | x :: r =>
        obtain ⟨c1, c2, c3, c4, c5, c6, c7, c8⟩ := ctl_op h hd hO ho
        have hO1 := hO
        rw [ho] at hO1
        rw [ctlW, ho] at k
        dsimp only at k
        rw [c4]
        refine ⟨fun z => absurd z c1, fun _ => ⟨c3, fun z => ?_, fun z => m_fail h (by decide) (fun T' h1 h2 => k _ ?_)⟩⟩
        · rw [l_eq (by omega) (by decide)] at z
          rw [if_pos z] at k
          refine m_compile (kd := 3) h hd (fun hl T1 h1 => ⟨fun _ => ?_, fun z => absurd h1.err z⟩) (fun hl T1 h1 h2 => ⟨fun z => absurd (h2.symm.trans z) (by decide), fun _ => k _ ?_⟩)
          · have hp := hO1.place (Or.inl z)
            refine m_settle h1 rfl ho (by rw [add_len]; omega) (fun T2 h2 => ?_)
            rw [eM]
            refine m_openOne h2 (fun z => by cases z) (by show r.length < 8; omega) (fun T3 h3 => k _ ?_)
            rw [compR, if_pos hl]
            exact RMr.ok h3
          · rw [compR, if_neg hl]
            exact RMr.no (by decide) h1 h2
        · rw [l_eq (by omega) (by decide)] at z
          rw [if_neg z]
          exact RMr.no (by decide) h1 h2
theorem m_c45 {A : Ab} {T : StM} {Q : StM → Prop} (h : RM A T) (hO : ∀ w, A.dr = some w → OpOK w A.op) (k : ∀ T', RMr (ctl 45 A) T' → Q T') : wp_M_control Q T 45 := by
  simp (config := {decide := true}) only [wp_M_in, wq_M_in_14, wq_M_in_15, wq_M_control_264, wq_M_control_251, wq_M_control_248, wq_M_control_230, wq_M_control_195, wq_M_control_162, wq_M_control_147, wq_M_control_109, wq_M_control_55, wq_M_control_39, wq_M_control_34, wp_M_control, wq_M_fits_144, wq_M_fits_139, wq_M_fits_106, wq_M_fits_83, wq_M_fits_65, wq_M_fits_60, wq_M_fits_41, wq_M_fits_22, wp_M_fits, wq_M_after_104, wq_M_after_101, wq_M_after_86, wq_M_after_56, wq_M_after_46, wq_M_after_22, wq_M_after_18, wp_M_after, true_implies, false_implies, not_true_eq_false, not_false_eq_true, and_true, true_and]
  have hmB := h.madeB
  refine ⟨ctl_in h, fun z => ?_, fun z => ?_⟩
  · match hd : A.dr with
    | some w => exact absurd z ((ctl_dr h).2 w hd)
    | none =>
      refine m_fail h (by decide) (fun T' h1 h2 => k _ ?_)
      rw [ctl, hd]
      exact RMr.no (by decide) h1 h2
  · match hd : A.dr with
    | none => exact absurd ((ctl_dr h).1 hd) z
    | some w =>
      have hO := hO w hd
      have hne : A.dr ≠ none := by rw [hd]; exact fun z => by cases z
      obtain ⟨hm, hw⟩ := h.drW w hd
      have hl := hw.len
      have eN : (T.1 20).toNatClampNeg = A.ws.length := by rw [h.madeE, n_cl (by omega)]
      have eM : T.2.1 17 (T.1 20).toNatClampNeg = Int32.ofNat w.it.length := by rw [eN, hw.many]
      rw [ctl, hd] at k
      have k : ∀ T', RMr (ctlW 45 A w) T' → Q T' := k
      match ho : A.op with
      | [] =>
        have hn := ctl_nil h hd ho
        have hoE := h.opE hne
        refine ⟨fun _ => ?_, fun z => absurd hn.1 z⟩
        refine m_fail h (by decide) (fun T' h1 h2 => k _ ?_)
        rw [ctlW, ho]
        exact RMr.no (by decide) h1 h2
      | x :: r =>
        obtain ⟨c1, c2, c3, c4, c5, c6, c7, c8⟩ := ctl_op h hd hO ho
        have hO1 := hO
        rw [ho] at hO1
        rw [ctlW, ho] at k
        dsimp only at k
        rw [c4, c5]
        refine ⟨fun z => absurd z c1, fun _ => ⟨c3, fun z => ⟨c3, ?_⟩, fun z => m_fail h (by decide) (fun T' h1 h2 => k _ ?_)⟩⟩
        · rw [l_eq (by omega) (by decide)] at z
          rw [if_pos z] at k
          refine m_compile (kd := 2) h hd (fun hl T1 h1 => ⟨fun _ => k _ ?_, fun z => absurd h1.err z⟩) (fun hl T1 h1 h2 => ⟨fun z => absurd (h2.symm.trans z) (by decide), fun _ => k _ ?_⟩)
          · rw [compR, if_pos hl]
            exact RMr.ok (h1.popop (fun z => by cases z) ho)
          · rw [compR, if_neg hl]
            exact RMr.no (by decide) h1 h2
        · rw [l_eq (by omega) (by decide)] at z
          rw [if_neg z]
          exact RMr.no (by decide) h1 h2
theorem m_c46 {A : Ab} {T : StM} {Q : StM → Prop} (h : RM A T) (hO : ∀ w, A.dr = some w → OpOK w A.op) (k : ∀ T', RMr (ctl 46 A) T' → Q T') : wp_M_control Q T 46 := by
  simp (config := {decide := true}) only [wp_M_in, wq_M_in_14, wq_M_in_15, wq_M_control_264, wq_M_control_251, wq_M_control_248, wq_M_control_230, wq_M_control_195, wq_M_control_162, wq_M_control_147, wq_M_control_109, wq_M_control_55, wq_M_control_39, wq_M_control_34, wp_M_control, wq_M_fits_144, wq_M_fits_139, wq_M_fits_106, wq_M_fits_83, wq_M_fits_65, wq_M_fits_60, wq_M_fits_41, wq_M_fits_22, wp_M_fits, wq_M_after_104, wq_M_after_101, wq_M_after_86, wq_M_after_56, wq_M_after_46, wq_M_after_22, wq_M_after_18, wp_M_after, true_implies, false_implies, not_true_eq_false, not_false_eq_true, and_true, true_and]
  have hmB := h.madeB
  refine ⟨ctl_in h, fun z => ?_, fun z => ?_⟩
  · match hd : A.dr with
    | some w => exact absurd z ((ctl_dr h).2 w hd)
    | none =>
      refine m_fail h (by decide) (fun T' h1 h2 => k _ ?_)
      rw [ctl, hd]
      exact RMr.no (by decide) h1 h2
  · match hd : A.dr with
    | none => exact absurd ((ctl_dr h).1 hd) z
    | some w =>
      have hO := hO w hd
      have hne : A.dr ≠ none := by rw [hd]; exact fun z => by cases z
      obtain ⟨hm, hw⟩ := h.drW w hd
      have hl := hw.len
      have eN : (T.1 20).toNatClampNeg = A.ws.length := by rw [h.madeE, n_cl (by omega)]
      have eM : T.2.1 17 (T.1 20).toNatClampNeg = Int32.ofNat w.it.length := by rw [eN, hw.many]
      rw [ctl, hd] at k
      have k : ∀ T', RMr (ctlW 46 A w) T' → Q T' := k
      match ho : A.op with
      | [] =>
        have hn := ctl_nil h hd ho
        have hoE := h.opE hne
        refine ⟨fun _ => ?_, fun z => absurd hn.1 z⟩
        refine m_fail h (by decide) (fun T' h1 h2 => k _ ?_)
        rw [ctlW, ho]
        exact RMr.no (by decide) h1 h2
      | x :: r =>
        obtain ⟨c1, c2, c3, c4, c5, c6, c7, c8⟩ := ctl_op h hd hO ho
        have hO1 := hO
        rw [ho] at hO1
        rw [ctlW, ho] at k
        dsimp only at k
        rw [c4, c5]
        refine ⟨fun z => absurd z c1, fun _ => ⟨c3, fun z => ⟨c3, ?_⟩, fun z => m_fail h (by decide) (fun T' h1 h2 => k _ ?_)⟩⟩
        · rw [l_eq (by omega) (by decide)] at z
          rw [if_pos z] at k
          refine m_compile (kd := 3) h hd (fun hl T1 h1 => ⟨fun _ => k _ ?_, fun z => absurd h1.err z⟩) (fun hl T1 h1 h2 => ⟨fun z => absurd (h2.symm.trans z) (by decide), fun _ => k _ ?_⟩)
          · rw [compR, if_pos hl]
            exact RMr.ok (h1.popop (fun z => by cases z) ho)
          · rw [compR, if_neg hl]
            exact RMr.no (by decide) h1 h2
        · rw [l_eq (by omega) (by decide)] at z
          rw [if_neg z]
          exact RMr.no (by decide) h1 h2
theorem m_c50 {A : Ab} {T : StM} {Q : StM → Prop} (h : RM A T) (hO : ∀ w, A.dr = some w → OpOK w A.op) (k : ∀ T', RMr (ctl 50 A) T' → Q T') : wp_M_control Q T 50 := by
  simp (config := {decide := true}) only [wp_M_in, wq_M_in_14, wq_M_in_15, wq_M_control_264, wq_M_control_251, wq_M_control_248, wq_M_control_230, wq_M_control_195, wq_M_control_162, wq_M_control_147, wq_M_control_109, wq_M_control_55, wq_M_control_39, wq_M_control_34, wp_M_control, wq_M_fits_144, wq_M_fits_139, wq_M_fits_106, wq_M_fits_83, wq_M_fits_65, wq_M_fits_60, wq_M_fits_41, wq_M_fits_22, wp_M_fits, wq_M_after_104, wq_M_after_101, wq_M_after_86, wq_M_after_56, wq_M_after_46, wq_M_after_22, wq_M_after_18, wp_M_after, true_implies, false_implies, not_true_eq_false, not_false_eq_true, and_true, true_and]
  have hmB := h.madeB
  refine ⟨ctl_in h, fun z => ?_, fun z => ?_⟩
  · match hd : A.dr with
    | some w => exact absurd z ((ctl_dr h).2 w hd)
    | none =>
      refine m_fail h (by decide) (fun T' h1 h2 => k _ ?_)
      rw [ctl, hd]
      exact RMr.no (by decide) h1 h2
  · match hd : A.dr with
    | none => exact absurd ((ctl_dr h).1 hd) z
    | some w =>
      have hO := hO w hd
      have hne : A.dr ≠ none := by rw [hd]; exact fun z => by cases z
      obtain ⟨hm, hw⟩ := h.drW w hd
      have hl := hw.len
      have eN : (T.1 20).toNatClampNeg = A.ws.length := by rw [h.madeE, n_cl (by omega)]
      have eM : T.2.1 17 (T.1 20).toNatClampNeg = Int32.ofNat w.it.length := by rw [eN, hw.many]
      rw [ctl, hd] at k
      have k : ∀ T', RMr (ctlW 50 A w) T' → Q T' := k
      match ho : A.op with
      | [] =>
        have hn := ctl_nil h hd ho
        have hoE := h.opE hne
        refine ⟨fun _ => ?_, fun z => absurd hn.1 z⟩
        refine m_fail h (by decide) (fun T' h1 h2 => k _ ?_)
        rw [ctlW, ho]
        exact RMr.no (by decide) h1 h2
      | x :: r =>
        obtain ⟨c1, c2, c3, c4, c5, c6, c7, c8⟩ := ctl_op h hd hO ho
        have hO1 := hO
        rw [ho] at hO1
        rw [ctlW, ho] at k
        dsimp only at k
        rw [c4, c5]
        refine ⟨fun z => absurd z c1, fun _ => ⟨c3, fun z => ⟨c3, ?_⟩, fun z => m_fail h (by decide) (fun T' h1 h2 => k _ ?_)⟩⟩
        · rw [l_eq (by omega) (by decide)] at z
          rw [if_pos z] at k
          refine m_compile (kd := 5) h hd (fun hl T1 h1 => ⟨fun _ => k _ ?_, fun z => absurd h1.err z⟩) (fun hl T1 h1 h2 => ⟨fun z => absurd (h2.symm.trans z) (by decide), fun _ => k _ ?_⟩)
          · rw [compR, if_pos hl]
            exact RMr.ok (h1.popop (fun z => by cases z) ho)
          · rw [compR, if_neg hl]
            exact RMr.no (by decide) h1 h2
        · rw [l_eq (by omega) (by decide)] at z
          rw [if_neg z]
          exact RMr.no (by decide) h1 h2
theorem m_c47 {A : Ab} {T : StM} {Q : StM → Prop} (h : RM A T) (hO : ∀ w, A.dr = some w → OpOK w A.op) (k : ∀ T', RMr (ctl 47 A) T' → Q T') : wp_M_control Q T 47 := by
  simp (config := {decide := true}) only [wp_M_in, wq_M_in_14, wq_M_in_15, wq_M_control_264, wq_M_control_251, wq_M_control_248, wq_M_control_230, wq_M_control_195, wq_M_control_162, wq_M_control_147, wq_M_control_109, wq_M_control_55, wq_M_control_39, wq_M_control_34, wp_M_control, wq_M_fits_144, wq_M_fits_139, wq_M_fits_106, wq_M_fits_83, wq_M_fits_65, wq_M_fits_60, wq_M_fits_41, wq_M_fits_22, wp_M_fits, wq_M_after_104, wq_M_after_101, wq_M_after_86, wq_M_after_56, wq_M_after_46, wq_M_after_22, wq_M_after_18, wp_M_after, true_implies, false_implies, not_true_eq_false, not_false_eq_true, and_true, true_and]
  have hmB := h.madeB
  refine ⟨ctl_in h, fun z => ?_, fun z => ?_⟩
  · match hd : A.dr with
    | some w => exact absurd z ((ctl_dr h).2 w hd)
    | none =>
      refine m_fail h (by decide) (fun T' h1 h2 => k _ ?_)
      rw [ctl, hd]
      exact RMr.no (by decide) h1 h2
  · match hd : A.dr with
    | none => exact absurd ((ctl_dr h).1 hd) z
    | some w =>
      have hO := hO w hd
      have hne : A.dr ≠ none := by rw [hd]; exact fun z => by cases z
      obtain ⟨hm, hw⟩ := h.drW w hd
      have hl := hw.len
      have eN : (T.1 20).toNatClampNeg = A.ws.length := by rw [h.madeE, n_cl (by omega)]
      have eM : T.2.1 17 (T.1 20).toNatClampNeg = Int32.ofNat w.it.length := by rw [eN, hw.many]
      rw [ctl, hd] at k
      have k : ∀ T', RMr (ctlW 47 A w) T' → Q T' := k
      match ho : A.op with
      | [] =>
        have hn := ctl_nil h hd ho
        have hoE := h.opE hne
        refine ⟨fun _ => ?_, fun z => absurd hn.1 z⟩
        refine m_fail h (by decide) (fun T' h1 h2 => k _ ?_)
        rw [ctlW, ho]
        exact RMr.no (by decide) h1 h2
      | x :: r =>
        obtain ⟨c1, c2, c3, c4, c5, c6, c7, c8⟩ := ctl_op h hd hO ho
        have hO1 := hO
        rw [ho] at hO1
        rw [ctlW, ho] at k
        dsimp only at k
        rw [c4, c8, l_lt (by omega) (by decide)]
        refine ⟨fun z => absurd z (by rw [← c8]; exact c1), fun _ => ⟨by rw [← c8]; exact c3, fun z => ⟨fun z1 => ?_, fun z1 => m_fail h (by decide) (fun T' h1 h2 => k _ ?_)⟩, fun z => m_fail h (by decide) (fun T' h1 h2 => k _ ?_)⟩⟩
        · rw [l_eq (by omega) (by decide)] at z
          rw [if_pos z, if_pos (by simp; omega)] at k
          refine m_compile (kd := 2) h hd (fun hl T1 h1 => ⟨fun _ => ?_, fun z => absurd h1.err z⟩) (fun hl T1 h1 h2 => ⟨fun z => absurd (h2.symm.trans z) (by decide), fun _ => k _ ?_⟩)
          · rw [eM]
            refine m_openOne h1 (fun z => by cases z) (by show A.op.length < 8; rw [ho]; simp; omega) (fun T2 h2 => k _ ?_)
            rw [compR, if_pos hl, ← ho]
            exact RMr.ok h2
          · rw [compR, if_neg hl]
            exact RMr.no (by decide) h1 h2
        · rw [l_eq (by omega) (by decide)] at z
          rw [if_pos z, if_neg (by simp; omega)]
          exact RMr.no (by decide) h1 h2
        · rw [l_eq (by omega) (by decide)] at z
          rw [if_neg z]
          exact RMr.no (by decide) h1 h2
theorem m_c48 {A : Ab} {T : StM} {Q : StM → Prop} (h : RM A T) (hO : ∀ w, A.dr = some w → OpOK w A.op) (k : ∀ T', RMr (ctl 48 A) T' → Q T') : wp_M_control Q T 48 := by
  simp (config := {decide := true}) only [wp_M_in, wq_M_in_14, wq_M_in_15, wq_M_control_264, wq_M_control_251, wq_M_control_248, wq_M_control_230, wq_M_control_195, wq_M_control_162, wq_M_control_147, wq_M_control_109, wq_M_control_55, wq_M_control_39, wq_M_control_34, wp_M_control, wq_M_fits_144, wq_M_fits_139, wq_M_fits_106, wq_M_fits_83, wq_M_fits_65, wq_M_fits_60, wq_M_fits_41, wq_M_fits_22, wp_M_fits, wq_M_after_104, wq_M_after_101, wq_M_after_86, wq_M_after_56, wq_M_after_46, wq_M_after_22, wq_M_after_18, wp_M_after, true_implies, false_implies, not_true_eq_false, not_false_eq_true, and_true, true_and]
  have hmB := h.madeB
  refine ⟨ctl_in h, fun z => ?_, fun z => ?_⟩
  · match hd : A.dr with
    | some w => exact absurd z ((ctl_dr h).2 w hd)
    | none =>
      refine m_fail h (by decide) (fun T' h1 h2 => k _ ?_)
      rw [ctl, hd]
      exact RMr.no (by decide) h1 h2
  · match hd : A.dr with
    | none => exact absurd ((ctl_dr h).1 hd) z
    | some w =>
      have hO := hO w hd
      have hne : A.dr ≠ none := by rw [hd]; exact fun z => by cases z
      obtain ⟨hm, hw⟩ := h.drW w hd
      have hl := hw.len
      have eN : (T.1 20).toNatClampNeg = A.ws.length := by rw [h.madeE, n_cl (by omega)]
      have eM : T.2.1 17 (T.1 20).toNatClampNeg = Int32.ofNat w.it.length := by rw [eN, hw.many]
      rw [ctl, hd] at k
      have k : ∀ T', RMr (ctlW 48 A w) T' → Q T' := k
      match ho : A.op with
      | [] =>
        have hn := ctl_nil h hd ho
        have hoE := h.opE hne
        refine ⟨fun _ => ?_, fun z => absurd hn.1 z⟩
        refine m_fail h (by decide) (fun T' h1 h2 => k _ ?_)
        rw [ctlW, ho]
        exact RMr.no (by decide) h1 h2
      | x :: r =>
        obtain ⟨c1, c2, c3, c4, c5, c6, c7, c8⟩ := ctl_op h hd hO ho
        have hO1 := hO
        rw [ho] at hO1
        rw [c4]
        refine ⟨fun z => absurd z c1, fun _ => ⟨c3, fun z => ?_, fun z => m_fail h (by decide) (fun T' h1 h2 => k _ ?_)⟩⟩
        · rw [l_eq (by omega) (by decide)] at z
          have hw47 : ∃ q r', r = (44, q) :: r' := by
            obtain ⟨-, q | q | q⟩ := hO1
            · exact q.2.2 z
            · omega
            · omega
          obtain ⟨q, r', hr⟩ := hw47
          subst hr
          rw [ctlW, ho] at k
          dsimp only at k
          rw [if_pos z] at k
          have e2 : T.1 22 - 2 = Int32.ofNat r'.length := by
            rw [c8]
            exact n_sub (a := r'.length + 1 + 1) (b := 2) (by omega)
          have hoA := h.opA hne
          rw [ho] at hoA
          have e3 : T.2.1 24 r'.length = Int32.ofNat q := by
            have := hoA.2.1
            rw [List.length_map] at this
            exact this
          simp at c6
          rw [e2, n_cl (by omega), e3]
          refine ⟨n_in (by omega) (by omega), ?_⟩
          refine m_compile (kd := 3) h hd (fun hl T1 h1 => ⟨fun _ => ?_, fun z => absurd h1.err z⟩) (fun hl T1 h1 h2 => ⟨fun z => absurd (h2.symm.trans z) (by decide), fun _ => k _ ?_⟩)
          · have hp := hO1.place (Or.inr (Or.inr z))
            refine m_settle h1 rfl ho (by rw [add_len]; omega) (fun T2 h2 => k _ ?_)
            rw [compR, if_pos hl]
            exact RMr.ok (h2.popop (fun z => by cases z) rfl)
          · rw [compR, if_neg hl]
            exact RMr.no (by decide) h1 h2
        · rw [l_eq (by omega) (by decide)] at z
          have : ctlW 48 A w = (6, A) := by
            rw [ctlW, ho]
            match r with
            | [] => rfl
            | y :: r => exact if_neg z
          rw [this]
          exact RMr.no (by decide) h1 h2
theorem m_c51 {A : Ab} {T : StM} {Q : StM → Prop} (h : RM A T) (hO : ∀ w, A.dr = some w → OpOK w A.op) (k : ∀ T', RMr (ctl 51 A) T' → Q T') : wp_M_control Q T 51 := by
  simp (config := {decide := true}) only [wp_M_in, wq_M_in_14, wq_M_in_15, wq_M_control_264, wq_M_control_251, wq_M_control_248, wq_M_control_230, wq_M_control_195, wq_M_control_162, wq_M_control_147, wq_M_control_109, wq_M_control_55, wq_M_control_39, wq_M_control_34, wp_M_control, wq_M_fits_144, wq_M_fits_139, wq_M_fits_106, wq_M_fits_83, wq_M_fits_65, wq_M_fits_60, wq_M_fits_41, wq_M_fits_22, wp_M_fits, wq_M_after_104, wq_M_after_101, wq_M_after_86, wq_M_after_56, wq_M_after_46, wq_M_after_22, wq_M_after_18, wp_M_after, true_implies, false_implies, not_true_eq_false, not_false_eq_true, and_true, true_and]
  have hmB := h.madeB
  refine ⟨ctl_in h, fun z => ?_, fun z => ?_⟩
  · match hd : A.dr with
    | some w => exact absurd z ((ctl_dr h).2 w hd)
    | none =>
      refine m_fail h (by decide) (fun T' h1 h2 => k _ ?_)
      rw [ctl, hd]
      exact RMr.no (by decide) h1 h2
  · match hd : A.dr with
    | none => exact absurd ((ctl_dr h).1 hd) z
    | some w =>
      have hO := hO w hd
      have hne : A.dr ≠ none := by rw [hd]; exact fun z => by cases z
      obtain ⟨hm, hw⟩ := h.drW w hd
      have hl := hw.len
      have eN : (T.1 20).toNatClampNeg = A.ws.length := by rw [h.madeE, n_cl (by omega)]
      have eM : T.2.1 17 (T.1 20).toNatClampNeg = Int32.ofNat w.it.length := by rw [eN, hw.many]
      rw [ctl, hd] at k
      have k : ∀ T', RMr (ctlW 51 A w) T' → Q T' := k
      match ho : A.op with
      | [] =>
        have hn := ctl_nil h hd ho
        have hoE := h.opE hne
        have e100 : 100 + T.1 20 = Int32.ofNat (100 + A.ws.length) := by
          rw [h.madeE]
          exact n_add 100 A.ws.length
        rw [e100]
        refine ⟨fun _ => ?_, fun z => absurd hn.1 z⟩
        refine m_compile (kd := 0) h hd (fun hl T1 h1 => ?_) (fun hl T1 h1 h2 => ?_)
        · have := k T1 (by
            show RMr (compR A w 0 _ A.op id) T1
            rw [compR, if_pos hl]
            exact RMr.ok h1)
          exact ⟨fun _ => this, fun _ => this⟩
        · have := k T1 (by
            show RMr (compR A w 0 _ A.op id) T1
            rw [compR, if_neg hl]
            exact RMr.no (by decide) h1 h2)
          exact ⟨fun _ => this, fun _ => this⟩
      | x :: r =>
        obtain ⟨c1, c2, c3, c4, c5, c6, c7, c8⟩ := ctl_op h hd hO ho
        have hO1 := hO
        rw [ho] at hO1
        have e100 : 100 + T.1 20 = Int32.ofNat (100 + A.ws.length) := by
          rw [h.madeE]
          exact n_add 100 A.ws.length
        rw [e100]
        refine ⟨fun z => absurd z c1, fun _ => ⟨c3, ?_⟩⟩
        refine m_compile (kd := 0) h hd (fun hl T1 h1 => ?_) (fun hl T1 h1 h2 => ?_)
        · have := k T1 (by
            show RMr (compR A w 0 _ A.op id) T1
            rw [compR, if_pos hl]
            exact RMr.ok h1)
          exact ⟨fun _ => this, fun _ => this⟩
        · have := k T1 (by
            show RMr (compR A w 0 _ A.op id) T1
            rw [compR, if_neg hl]
            exact RMr.no (by decide) h1 h2)
          exact ⟨fun _ => this, fun _ => this⟩
