def wrF (A : Ab) (b n j : Nat) : Nat → Nat → Int32 := fun m i => if m = n ∧ i < j then A.mem (64 + 16 * b + i) else A.blk m i
def wrB (A : Ab) (b : Nat) : Ab := (Ab.set_up (Ab.set_blk A (if A.up b = true then (match A.has b with | some n => wrF A b n 16 | none => A.blk) else A.blk)) (fun j => if j = b then false else A.up j))
def rdF (A : Ab) (b n j : Nat) : Nat → Int32 := fun a => if 64 + 16 * b ≤ a ∧ a < 64 + 16 * b + j then A.blk n (a - (64 + 16 * b)) else A.mem a
def rdB (A : Ab) (b n : Nat) : Ab := (Ab.set_has (Ab.set_mem A (rdF A b n 16)) (fun j => if j = b then some n else A.has j))
abbrev inB (c : Int32) : Prop := ¬ c < 0 ∧ ¬ 3 < c
def bufO (A : Ab) (n : Nat) : Nat := if A.has 0 = some n then 0 else if A.has 1 = some n then 1 else if A.told = some 0 then 1 else 0
def getB (A : Ab) (n : Nat) : Ab := if A.has (bufO A n) = some n then A else rdB (wrB A (bufO A n)) (bufO A n) n
def do37 (A : Ab) : Int32 × Ab := w1 A fun c r => if inB c then (0, (Ab.set_told (Ab.set_ds (getB A c.toNatClampNeg) (Int32.ofNat (64 + 16 * bufO A c.toNatClampNeg) :: r)) (some (bufO A c.toNatClampNeg)))) else (5, A)
def setU (A : Ab) (b : Nat) : Ab := (Ab.set_up A (fun j => if j = b then true else A.up j))
def do38 (A : Ab) : Int32 × Ab := (0, match A.told with
  | none => A
  | some b => setU A b)
def do39 (A : Ab) : Int32 × Ab := (0, wrB (wrB A 0) 1)
def do30 (A : Ab) : Int32 × Ab := match A.cs with
  | [] => (6, A)
  | _ :: l => (0, (Ab.set_cs A (l)))
def doC (w : Nat) (A : Ab) : Int32 × Ab := if A.cs.length < 16 then (0, (Ab.set_cs A (⟨w, 0, []⟩ :: A.cs))) else (3, A)
theorem oE_eq {o : Option Nat} {n : Nat} (ho : ∀ m, o = some m → m < 100) (hn : n < 100) : (oE o = Int32.ofNat n) ↔ o = some n := by
  match o with
  | none =>
    constructor
    · intro h
      have h1 := congrArg Int32.toInt h
      rw [of_small (by omega)] at h1
      have : (oE none).toInt = -1 := rfl
      omega
    · intro h
      cases h
  | some m =>
    have := ho m rfl
    show (Int32.ofNat m = Int32.ofNat n) ↔ _
    rw [n_eq (by omega) (by omega)]
    constructor
    · intro h
      rw [h]
    · intro h
      cases h
      rfl
theorem m_write_end {A : Ab} {T : StM} {Q : StM → Prop} {b : Nat} (hb : b < 2) (h : RM A T) (k : ∀ T', RM (Ab.set_up A (fun j => if j = b then false else A.up j)) T' → Q T') : wq_M_write_53 Q T (Int32.ofNat b) := by
  refine ⟨n_in hb (by omega), k _ (RM.mk (h.hereE) (h.hereB) (h.memE) (h.prE) (h.prB) (h.pbB) (h.outE) (h.fuE) (h.blkE) (h.hasE) (h.hasB) (fun j hj => ?_) (h.toldE) (h.toldB) (fun j hj hu => ?_) (h.toldH) (h.madeE) (h.madeB) (h.wsE) (h.namE) (h.txE) (h.txB) (h.txC) (h.txO) (h.posE) (h.posB) (h.tkE) (h.tlE) (h.err) (h.dsE) (h.dsB) (h.dsS) (h.rsE) (h.rsB) (h.rsS) (h.csE) (h.csB) (h.csS) (h.csW) (h.drE) (h.drW) (h.opE) (h.opB) (h.opK) (h.opA))⟩
  · show upd (T.2.1 33) (Int32.ofNat b).toNatClampNeg (vp_nar .boolean 0) j = bE (if j = b then false else A.up j)
    rw [n_cl (by omega)]
    by_cases e : j = b
    · rw [e, upd_at, if_pos rfl]
      rfl
    · rw [upd_ne _ _ e, if_neg e]
      exact h.upE j hj
  · have hu : (if j = b then false else A.up j) = true := hu
    by_cases e : j = b
    · rw [if_pos e] at hu
      cases hu
    · rw [if_neg e] at hu
      exact h.upB j hj hu
theorem m_write_loop {A : Ab} {Q : StM → Prop} {b n : Nat} (hb : b < 2) (hu : A.up b = true) (hh : A.has b = some n) (hn : n < 4) (k : ∀ T', RM (wrB A b) T' → Q T') : ∀ (d j : Nat) (T : StM) (B : Nat → Nat → Int32), (∀ m i, B m i = wrF A b n j m i) → j + d = 16 → RM (Ab.set_blk A (B)) T → wq_M_write_2 Q (d + 1) T (Int32.ofNat b) (Int32.ofNat j) := by
  intro d
  induction d with
  | zero =>
    intro j T B hB hj h
    have e : j = 16 := by omega
    subst e
    have eB : B = wrF A b n 16 := funext (fun m => funext (fun i => hB m i))
    subst eB
    refine ⟨fun _ => m_write_end hb h (fun T' h' => k _ ?_), fun z => absurd ?_ z⟩
    · unfold wrB
      rw [if_pos hu, hh]
      exact h'
    · rw [r_le (by decide) (by omega)]
      exact Nat.le_refl _
  | succ d ih =>
    intro j T B hB hj h
    have eU : T.2.1 33 b = 1 := by
      have := h.upE b hb
      rw [this]
      show bE (A.up b) = 1
      rw [hu]
      rfl
    have eH : T.2.1 32 b = Int32.ofNat n := by
      have := h.hasE b hb
      rw [this]
      show oE (A.has b) = _
      rw [hh]
      rfl
    refine ⟨fun z => ?_, fun _ => ⟨n_in hb (by omega), ?_⟩⟩
    · rw [r_le (by decide) (by omega)] at z
      omega
    rw [n_cl (by omega), eU, eH]
    have e1 : 64 + 16 * Int32.ofNat b + Int32.ofNat j = Int32.ofNat (64 + 16 * b + j) := by
      rw [show (64 : Int32) = Int32.ofNat 64 from rfl, show (16 : Int32) = Int32.ofNat 16 from rfl, n_mul, n_add, n_add]
    have e2 : 16 * Int32.ofNat n + Int32.ofNat j = Int32.ofNat (16 * n + j) := by
      rw [show (16 : Int32) = Int32.ofNat 16 from rfl, n_mul, n_add]
    rw [e1, e2, n_cl (by omega), n_cl (by omega), of_succ]
    refine ⟨fun z => absurd z (by decide), fun _ => ⟨n_in hb (by omega), n_in (by omega) (by omega), n_in (by omega) (by omega), ?_⟩⟩
    refine ih (j + 1) _ (wrF A b n (j + 1)) (fun _ _ => rfl) (by omega) (RM.mk (h.hereE) (h.hereB) (h.memE) (h.prE) (h.prB) (h.pbB) (h.outE) (h.fuE) (fun m i hm hi => ?_) (h.hasE) (h.hasB) (h.upE) (h.toldE) (h.toldB) (h.upB) (h.toldH) (h.madeE) (h.madeB) (h.wsE) (h.namE) (h.txE) (h.txB) (h.txC) (h.txO) (h.posE) (h.posB) (h.tkE) (h.tlE) (h.err) (h.dsE) (h.dsB) (h.dsS) (h.rsE) (h.rsB) (h.rsS) (h.csE) (h.csB) (h.csS) (h.csW) (h.drE) (h.drW) (h.opE) (h.opB) (h.opK) (h.opA))
    show upd (T.2.1 31) (16 * n + j) (T.2.1 9 (64 + 16 * b + j)) (16 * m + i) = wrF A b n (j + 1) m i
    have eM : T.2.1 9 (64 + 16 * b + j) = A.mem (64 + 16 * b + j) := h.memE _ (by omega)
    have eB : T.2.1 31 (16 * m + i) = wrF A b n j m i := (h.blkE m i hm hi).trans (hB m i)
    rw [eM]
    by_cases e : m = n ∧ i = j
    · obtain ⟨e3, e4⟩ := e
      subst e3
      subst e4
      rw [upd_at, wrF, if_pos ⟨rfl, by omega⟩]
    · rw [upd_ne _ _ (by
        intro q
        exact e ⟨by omega, by omega⟩), eB, wrF, wrF]
      by_cases c : m = n ∧ i < j
      · rw [if_pos c, if_pos ⟨c.1, by omega⟩]
      · rw [if_neg c, if_neg (fun q => by
          have : ¬ i < j := fun w => c ⟨q.1, w⟩
          exact e ⟨q.1, by omega⟩)]
theorem m_write {A : Ab} {T : StM} {Q : StM → Prop} {b : Nat} (hb : b < 2) (h : RM A T) (k : ∀ T', RM (wrB A b) T' → Q T') : wp_M_write Q T (Int32.ofNat b) := by
  by_cases hu : A.up b = true
  · match hh : A.has b with
    | none => exact absurd hh (h.upB b hb hu)
    | some n =>
      refine ⟨17, m_write_loop hb hu hh (h.hasB b n hb hh) k 16 0 T A.blk (fun m i => ?_) rfl h⟩
      rw [wrF, if_neg (by omega)]
  · refine ⟨1, fun z => absurd z (by decide), fun _ => ⟨n_in hb (by omega), ?_⟩⟩
    have eU : T.2.1 33 b = 0 := by
      rw [h.upE b hb]
      simp only [hu, bE]
      rfl
    rw [n_cl (by omega), eU]
    refine ⟨fun _ => m_write_end hb h (fun T' h' => k _ ?_), fun z => absurd rfl z⟩
    unfold wrB
    rw [if_neg hu]
    exact h'
theorem wrB_ds (A : Ab) (b : Nat) : (wrB A b).ds = A.ds := rfl
theorem m_read_loop {A : Ab} {P : StM → Prop} {b n : Nat} (hb : b < 2) (hn : n < 4) (k : ∀ T', RM (Ab.set_mem A (rdF A b n 16)) T' → wq_M_block_132 P T' (Int32.ofNat b)) : ∀ (d j : Nat) (T : StM) (M : Nat → Int32), (∀ a, M a = rdF A b n j a) → j + d = 16 → RM (Ab.set_mem A (M)) T → wq_M_block_95 P (d + 1) T (Int32.ofNat n) (Int32.ofNat b) (Int32.ofNat j) := by
  intro d
  induction d with
  | zero =>
    intro j T M hM hj h
    have e : j = 16 := by omega
    subst e
    have eM : M = rdF A b n 16 := funext hM
    subst eM
    refine ⟨fun _ => k T h, fun z => absurd ?_ z⟩
    rw [r_le (by decide) (by omega)]
    exact Nat.le_refl _
  | succ d ih =>
    intro j T M hM hj h
    refine ⟨fun z => ?_, fun _ => ?_⟩
    · rw [r_le (by decide) (by omega)] at z
      omega
    have e1 : 64 + 16 * Int32.ofNat b + Int32.ofNat j = Int32.ofNat (64 + 16 * b + j) := by
      rw [show (64 : Int32) = Int32.ofNat 64 from rfl, show (16 : Int32) = Int32.ofNat 16 from rfl, n_mul, n_add, n_add]
    have e2 : 16 * Int32.ofNat n + Int32.ofNat j = Int32.ofNat (16 * n + j) := by
      rw [show (16 : Int32) = Int32.ofNat 16 from rfl, n_mul, n_add]
    rw [e1, e2, n_cl (by omega), n_cl (by omega), of_succ]
    refine ⟨n_in (by omega) (by omega), n_in (by omega) (by omega), ?_⟩
    refine ih (j + 1) _ (rdF A b n (j + 1)) (fun _ => rfl) (by omega) (RM.mk (h.hereE) (h.hereB) (fun i hi => ?_) (h.prE) (h.prB) (h.pbB) (h.outE) (h.fuE) (h.blkE) (h.hasE) (h.hasB) (h.upE) (h.toldE) (h.toldB) (h.upB) (h.toldH) (h.madeE) (h.madeB) (h.wsE) (h.namE) (h.txE) (h.txB) (h.txC) (h.txO) (h.posE) (h.posB) (h.tkE) (h.tlE) (h.err) (h.dsE) (h.dsB) (h.dsS) (h.rsE) (h.rsB) (h.rsS) (h.csE) (h.csB) (h.csS) (h.csW) (h.drE) (h.drW) (h.opE) (h.opB) (h.opK) (h.opA))
    show upd (T.2.1 9) (64 + 16 * b + j) (T.2.1 31 (16 * n + j)) i = rdF A b n (j + 1) i
    have eB : T.2.1 31 (16 * n + j) = A.blk n j := h.blkE n j hn (by omega)
    have eM : T.2.1 9 i = rdF A b n j i := (h.memE i hi).trans (hM i)
    rw [eB]
    by_cases e : i = 64 + 16 * b + j
    · subst e
      rw [upd_at, rdF, if_pos ⟨by omega, by omega⟩]
      congr 1
      omega
    · rw [upd_ne _ _ e, eM, rdF, rdF]
      by_cases c : 64 + 16 * b ≤ i ∧ i < 64 + 16 * b + j
      · rw [if_pos c, if_pos ⟨c.1, by omega⟩]
      · rw [if_neg c, if_neg (by omega)]
theorem m_37 {A : Ab} {T : StM} {Q : StM → Prop} (h : RM A T) (k : ∀ T', RMr (do37 A) T' → Q T') : wp_M_block Q T := by
  unfold wp_M_block
  refine m_nd1 h k (fun T' p => ⟨fun _ => p, fun z => absurd rfl z⟩) (fun c r hd k => ⟨fun z => absurd z (by decide), fun _ => ?_⟩)
  refine m_top (i := 0) h (by rw [hd]; rfl) (wt_in (fun z => ⟨fun _ => m_fail h (by decide) (fun T' h1 h2 => k _ ?_), fun z => absurd rfl z⟩) (fun z y => ⟨fun z => absurd z (by decide), fun _ => ?_⟩))
  · rw [if_neg (fun q => z.elim q.1 q.2)]
    exact RMr.no (by decide) h1 h2
  have hc : inB c := ⟨z, y⟩
  have a0 := i32_nlt z
  have a1 := i32_nlt y
  have k0 : (0 : Int32).toInt = 0 := rfl
  have k3 : (3 : Int32).toInt = 3 := rfl
  have ec : Int32.ofNat c.toNatClampNeg = c := of_nn (by omega)
  have hn : c.toNatClampNeg < 4 := by
    show c.toInt.toNat < 4
    omega
  rw [if_pos hc] at k
  generalize hN : c.toNatClampNeg = n at ec hn k
  subst ec
  have h0 : (T.2.1 32 0 = Int32.ofNat n) ↔ A.has 0 = some n := by
    rw [h.hasE 0 (by omega)]
    exact oE_eq (fun m hm => by have := h.hasB 0 m (by omega) hm; omega) (by omega)
  have h1 : (T.2.1 32 1 = Int32.ofNat n) ↔ A.has 1 = some n := by
    rw [h.hasE 1 (by omega)]
    exact oE_eq (fun m hm => by have := h.hasB 1 m (by omega) hm; omega) (by omega)
  have ht : (T.1 34 = 0) ↔ A.told = some 0 := by
    rw [h.toldE]
    exact oE_eq (n := 0) (fun m hm => by have := h.toldB m hm; omega) (by omega)
  have main : ∀ b, b < 2 → b = bufO A n → wq_M_block_70 Q T (Int32.ofNat n) (Int32.ofNat b) := by
    intro b hb eb
    have hbh : (T.2.1 32 b = Int32.ofNat n) ↔ A.has b = some n := by
      rw [h.hasE b hb]
      exact oE_eq (fun m hm => by have := h.hasB b m hb hm; omega) (by omega)
    rw [← eb] at k
    have e64 : 64 + 16 * Int32.ofNat b = Int32.ofNat (64 + 16 * b) := by
      rw [show (64 : Int32) = Int32.ofNat 64 from rfl, show (16 : Int32) = Int32.ofNat 16 from rfl, n_mul, n_add]
    have fin : ∀ (A1 : Ab) (T1 : StM), getB A n = A1 → A1.ds = A.ds → A1.has b = some n → RM A1 T1 → wq_M_block_132 Q T1 (Int32.ofNat b) := by
      intro A1 T1 e1 e2 e3 hr
      unfold wq_M_block_132
      rw [e64]
      have hr1 : RM (Ab.set_told A1 (some b)) (upd T1.1 34 (Int32.ofNat b), T1.2) := (RM.mk (hr.hereE) (hr.hereB) (hr.memE) (hr.prE) (hr.prB) (hr.pbB) (hr.outE) (hr.fuE) (hr.blkE) (hr.hasE) (hr.hasB) (hr.upE) (rfl) (fun m hm => by cases hm; exact hb) (hr.upB) (fun m hm => by
          cases hm
          show A1.has b ≠ none
          rw [e3]
          exact fun q => by cases q) (hr.madeE) (hr.madeB) (hr.wsE) (hr.namE) (hr.txE) (hr.txB) (hr.txC) (hr.txO) (hr.posE) (hr.posB) (hr.tkE) (hr.tlE) (hr.err) (hr.dsE) (hr.dsB) (hr.dsS) (hr.rsE) (hr.rsB) (hr.rsS) (hr.csE) (hr.csB) (hr.csS) (hr.csW) (hr.drE) (hr.drW) (hr.opE) (hr.opB) (hr.opK) (hr.opA))
      refine m_pop hr1 (show A1.ds = _ by rw [e2, hd]) (fun T2 h2 => m_push1 h2 (by have := h.dsB; rw [hd] at this; simp at this; show r.length < 24; omega) (fun T3 h3 => k _ ?_))
      rw [e1]
      exact RMr.ok h3
    unfold wq_M_block_70
    rw [n_cl (by omega)]
    refine ⟨n_in hb (by omega), fun q => fin A T ?_ rfl (hbh.mp q) h, fun q => ?_⟩
    · rw [getB, ← eb, if_pos (hbh.mp q)]
    · have q' : ¬ A.has b = some n := fun w => q (hbh.mpr w)
      have eg : getB A n = rdB (wrB A b) b n := by rw [getB, ← eb, if_neg q']
      refine m_write hb h (fun T1 h1 => ⟨n_in hb (by omega), 17, ?_⟩)
      refine m_read_loop (A := (Ab.set_has (wrB A b) (fun j => if j = b then some n else A.has j))) hb hn (fun T' hr => fin (rdB (wrB A b) b n) T' eg rfl (by show (if b = b then some n else _) = _; rw [if_pos rfl]) hr) 16 0 _ (wrB A b).mem (fun a => by rw [rdF, if_neg (by omega)]; (try rfl)) rfl ?_
      have hm := h1.memE
      have hh := h1.hasE
      have hhB := h1.hasB
      have hU := h1.upB
      have hT := h1.toldH
      exact (RM.mk (h1.hereE) (h1.hereB) (hm) (h1.prE) (h1.prB) (h1.pbB) (h1.outE) (h1.fuE) (h1.blkE) (fun j hj => by
          show upd (T1.2.1 32) b (Int32.ofNat n) j = oE (if j = b then some n else A.has j)
          by_cases e : j = b
          · rw [e, upd_at, if_pos rfl]
            rfl
          · rw [upd_ne _ _ e, if_neg e]
            exact hh j hj) (fun j m hj hm => by
          have hm : (if j = b then some n else A.has j) = some m := hm
          by_cases e : j = b
          · rw [if_pos e] at hm
            cases hm
            exact hn
          · rw [if_neg e] at hm
            exact hhB j m hj hm) (h1.upE) (h1.toldE) (h1.toldB) (fun j hj hu => by
          show (if j = b then some n else A.has j) ≠ none
          by_cases e : j = b
          · rw [if_pos e]
            exact fun q => by cases q
          · rw [if_neg e]
            exact hU j hj hu) (fun j hj => by
          show (if j = b then some n else A.has j) ≠ none
          by_cases e : j = b
          · rw [if_pos e]
            exact fun q => by cases q
          · rw [if_neg e]
            exact hT j hj) (h1.madeE) (h1.madeB) (h1.wsE) (h1.namE) (h1.txE) (h1.txB) (h1.txC) (h1.txO) (h1.posE) (h1.posB) (h1.tkE) (h1.tlE) (h1.err) (h1.dsE) (h1.dsB) (h1.dsS) (h1.rsE) (h1.rsB) (h1.rsS) (h1.csE) (h1.csB) (h1.csS) (h1.csW) (h1.drE) (h1.drW) (h1.opE) (h1.opB) (h1.opK) (h1.opA))
  have c0 : (Int32.toNatClampNeg 0) = 0 := rfl
  have c1 : (Int32.toNatClampNeg 1) = 1 := rfl
  rw [c0, c1]
  refine ⟨n_in (a := 0) (by omega) (by omega), fun q => main 0 (by omega) ?_, fun q => ⟨n_in (a := 1) (by omega) (by omega), fun q1 => main 1 (by omega) ?_, fun q1 => ⟨fun q2 => main 1 (by omega) ?_, fun q2 => main 0 (by omega) ?_⟩⟩⟩
  · rw [bufO, if_pos (h0.mp q)]
  · rw [bufO, if_neg (fun w => q (h0.mpr w)), if_pos (h1.mp q1)]
  · rw [bufO, if_neg (fun w => q (h0.mpr w)), if_neg (fun w => q1 (h1.mpr w)), if_pos (ht.mp q2)]
  · rw [bufO, if_neg (fun w => q (h0.mpr w)), if_neg (fun w => q1 (h1.mpr w)), if_neg (fun w => q2 (ht.mpr w))]
