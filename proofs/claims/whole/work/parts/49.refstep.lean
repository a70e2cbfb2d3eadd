theorem m_burn {A : Ab} {T : StM} {Q : StM → Prop} (h : RM A T) (hb : A.fu ≤ 600) (k1 : A.fu = 0 → ∀ T', RMw A T' → T'.1 14 = 7 → Q T') (k2 : 0 < A.fu → ∀ T', RM (Ab.set_fu A (A.fu - 1)) T' → Q T') : wp_M_burn Q T := by
  unfold wp_M_burn wq_M_burn_13 wq_M_burn_31
  have hB := h.prB
  refine ⟨fun z => ?_, fun z => ⟨fun z1 => ?_, fun z1 => ?_⟩⟩
  · rw [h.fuE, l_eq (by omega) (by decide)] at z
    refine m_fail h (by decide) (fun T' h1 h2 => ⟨fun _ => k1 z _ (RMw.mk (h1.hereE) (h1.hereB) (h1.memE) (h1.prE) (h1.prB) (h1.pbB) (h1.outE) (?_) (h1.blkE) (h1.hasE) (h1.hasB) (h1.upE) (h1.toldE) (h1.toldB) (h1.upB) (h1.toldH) (h1.madeE) (h1.madeB) (h1.wsE) (h1.namE) (h1.txE) (h1.txB) (h1.txC) (h1.txO) (h1.posE) (h1.posB) (h1.tkE) (h1.tlE)) h2, fun z1 => absurd ?_ z1⟩)
    · show (0 : Int32) = Int32.ofNat A.fu
      rw [z]
      rfl
    · rw [h1.fuE, l_le (by omega) (by decide)]
      omega
  · rw [h.fuE, l_eq (by omega) (by decide)] at z
    rw [h.fuE, l_le (by omega) (by decide)] at z1
    omega
  · rw [h.fuE, l_eq (by omega) (by decide)] at z
    refine k2 (by omega) _ (RM.mk (h.hereE) (h.hereB) (h.memE) (h.prE) (?_) (h.pbB) (h.outE) (?_) (h.blkE) (h.hasE) (h.hasB) (h.upE) (h.toldE) (h.toldB) (h.upB) (h.toldH) (h.madeE) (h.madeB) (h.wsE) (h.namE) (h.txE) (h.txB) (h.txC) (h.txO) (h.posE) (h.posB) (h.tkE) (h.tlE) (h.err) (h.dsE) (h.dsB) (h.dsS) (h.rsE) (h.rsB) (h.rsS) (h.csE) (h.csB) (h.csS) (h.csW) (h.drE) (h.drW) (h.opE) (h.opB) (h.opK) (h.opA))
    · show A.pr + (A.fu - 1) ≤ A.pb
      omega
    · show T.1 13 - 1 = _
      rw [h.fuE]
      exact n_sub (a := A.fu) (b := 1) (by omega)
/-- an item that may stand at place i of a word of len items, where m words are made -/
def itOK (m len : Nat) (nd : Nat → Nat) (i : Nat) (p : Nat × Int32) : Prop := match p.1 with
  | 0 => nd (i + 1) = nd i ∧ ∃ t, p.2 = Int32.ofNat t ∧ (t = 31 ∨ okT m t)
  | 1 => nd (i + 1) = nd i
  | 2 => nd (i + 1) = nd i ∧ ∃ q, q ≤ len ∧ p.2 = Int32.ofNat q ∧ nd q = nd i
  | 3 => ∃ q, q ≤ len ∧ p.2 = Int32.ofNat q ∧ nd q = nd i
  | 4 => nd (i + 1) = nd i + 1
  | 5 => ∃ q, q ≤ len ∧ p.2 = Int32.ofNat q ∧ nd i = nd (i + 1) + 1 ∧ nd q = nd i
  | _ => False
def WdOK (m : Nat) (w : Wd) : Prop := (w.nd 0 = 0) ∧ (w.it.length ≤ 60) ∧ (∀ i p, w.it[i]? = some p → itOK m w.it.length w.nd i p)
theorem WdOK.nd0 {m : Nat} {w : Wd} (h : WdOK m w) : w.nd 0 = 0 := h.1
theorem WdOK.len {m : Nat} {w : Wd} (h : WdOK m w) : w.it.length ≤ 60 := h.2.1
theorem WdOK.it {m : Nat} {w : Wd} (h : WdOK m w) : ∀ i p, w.it[i]? = some p → itOK m w.it.length w.nd i p := h.2.2
theorem WdOK.mk {m : Nat} {w : Wd} (nd00 : w.nd 0 = 0) (len0 : w.it.length ≤ 60) (it0 : ∀ i p, w.it[i]? = some p → itOK m w.it.length w.nd i p) : WdOK m w := ⟨nd00, len0, it0⟩
/-- the code is sound, and so are the calls in it -/
def CO (A : Ab) : Prop := (∀ w ∈ A.ws, WdOK A.ws.length w) ∧ (∀ fr ∈ A.cs, ∀ w, A.ws[fr.w]? = some w → w.nd fr.nx = fr.lp.length) ∧ (A.fu ≤ 600) ∧ (A.ws.length ≤ 24) ∧ (∀ fr ∈ A.cs, ∃ w, A.ws[fr.w]? = some w ∧ fr.nx ≤ w.it.length)
theorem CO.ws {A : Ab} (h : CO A) : ∀ w ∈ A.ws, WdOK A.ws.length w := h.1
theorem CO.cs {A : Ab} (h : CO A) : ∀ fr ∈ A.cs, ∀ w, A.ws[fr.w]? = some w → w.nd fr.nx = fr.lp.length := h.2.1
theorem CO.fu {A : Ab} (h : CO A) : A.fu ≤ 600 := h.2.2.1
theorem CO.wl {A : Ab} (h : CO A) : A.ws.length ≤ 24 := h.2.2.2.1
theorem CO.cw {A : Ab} (h : CO A) : ∀ fr ∈ A.cs, ∃ w, A.ws[fr.w]? = some w ∧ fr.nx ≤ w.it.length := h.2.2.2.2
theorem CO.mk {A : Ab} (ws0 : ∀ w ∈ A.ws, WdOK A.ws.length w) (cs0 : ∀ fr ∈ A.cs, ∀ w, A.ws[fr.w]? = some w → w.nd fr.nx = fr.lp.length) (fu0 : A.fu ≤ 600) (wl0 : A.ws.length ≤ 24) (cw0 : ∀ fr ∈ A.cs, ∃ w, A.ws[fr.w]? = some w ∧ fr.nx ≤ w.it.length) : CO A := ⟨ws0, cs0, fu0, wl0, cw0⟩
def doI (A : Ab) (fr : Fr) (l : List Fr) (kind : Nat) (num : Int32) : Int32 × Ab := match kind with
  | 0 => doP num.toNatClampNeg A
  | 1 => pushR A num
  | 2 => w1 A fun c r => (0, (Ab.set_cs (Ab.set_ds A (r)) (if c = 0 then ⟨fr.w, num.toNatClampNeg, fr.lp⟩ :: l else A.cs)))
  | 3 => (0, (Ab.set_cs A (⟨fr.w, num.toNatClampNeg, fr.lp⟩ :: l)))
  | 4 => w2 A fun c b r => if fr.lp.length < 4 then (0, (Ab.set_cs (Ab.set_ds A (r)) (⟨fr.w, fr.nx + 1, (c, b) :: fr.lp⟩ :: l))) else (3, A)
  | _ => match fr.lp with
    | [] => (0, A)
    | x :: q => if x.1 + 1 = x.2 then (0, (Ab.set_cs A (⟨fr.w, fr.nx + 1, q⟩ :: l))) else (0, (Ab.set_cs A (⟨fr.w, num.toNatClampNeg, (x.1 + 1, x.2) :: q⟩ :: l)))
theorem doI_5 (A : Ab) (fr : Fr) (l : List Fr) (num : Int32) : doI A fr l 5 num = match fr.lp with
    | [] => (0, A)
    | x :: q => if x.1 + 1 = x.2 then (0, (Ab.set_cs A (⟨fr.w, fr.nx + 1, q⟩ :: l))) else (0, (Ab.set_cs A (⟨fr.w, num.toNatClampNeg, (x.1 + 1, x.2) :: q⟩ :: l))) := rfl
def stepA (A : Ab) : Int32 × Ab := match A.cs with
  | [] => (0, A)
  | fr :: l => match A.ws[fr.w]? with
    | none => (0, A)
    | some w => match w.it[fr.nx]? with
      | none => (0, (Ab.set_cs A (l)))
      | some p => if A.fu = 0 then (7, A) else doI (Ab.set_cs (Ab.set_fu A (A.fu - 1)) (⟨fr.w, fr.nx + 1, fr.lp⟩ :: l)) fr l p.1 p.2
theorem FrA.nxt {wd nx lo ct lm : Nat → Int32} {c : Nat} {fr : Fr} {l : List Fr} {v : Int32} {n : Nat} (hl : l.length = c) (h : FrAS wd nx lo ct lm (fr :: l)) (hv : v = Int32.ofNat n) : FrAS wd (upd nx c v) lo ct lm (⟨fr.w, n, fr.lp⟩ :: l) := by
  subst hl
  refine ⟨(FrA.mk (h.1.w) (?_) (h.1.n) (h.1.len) (h.1.ct) (h.1.lm)), h.2.low (fun c hc => ⟨rfl, upd_ne _ _ (by omega), rfl, fun _ _ => rfl, fun _ _ => rfl⟩)⟩
  rw [upd_at, hv]
  rfl
theorem FrAS.ct {wd nx lo ct lm : Nat → Int32} {fr : Fr} {l : List Fr} {v : Int32} (h : FrAS wd nx lo ct lm (fr :: l)) : FrAS wd nx lo (upd ct (4 * l.length + fr.lp.length) v) lm (fr :: l) := by
  refine ⟨(FrA.mk (h.1.w) (h.1.nx) (h.1.n) (h.1.len) (h.1.ct.same (fun i hi => upd_ne _ _ ?_)) (h.1.lm)), h.2.low (fun c hc => ⟨rfl, rfl, rfl, fun j hj => upd_ne _ _ (by omega), fun _ _ => rfl⟩)⟩
  simp at hi
  omega
theorem FrAS.more {wd nx lo ct lm : Nat → Int32} {fr : Fr} {l : List Fr} {x y v : Int32} (h : FrAS wd nx lo ct lm (fr :: l)) (hl : fr.lp.length < 4) (hx : ct (4 * l.length + fr.lp.length) = x) (hv : v = Int32.ofNat (fr.lp.length + 1)) : FrAS wd nx (upd lo l.length v) ct (upd lm (4 * l.length + fr.lp.length) y) (⟨fr.w, fr.nx, (x, y) :: fr.lp⟩ :: l) := by
  refine ⟨(FrA.mk (h.1.w) (h.1.nx) (?_) (?_) (⟨?_, h.1.ct⟩) (⟨?_, h.1.lm.same (fun i hi => upd_ne _ _ ?_)⟩)), h.2.low (fun c hc => ⟨rfl, rfl, upd_ne _ _ (by omega), fun _ _ => rfl, fun j hj => upd_ne _ _ (by omega)⟩)⟩
  · rw [upd_at, hv]
    rfl
  · show fr.lp.length + 1 ≤ 4
    omega
  · rw [List.length_map]
    exact hx
  · rw [List.length_map]
    exact upd_at _ _ _
  · simp at hi
    omega
theorem m_popE {A : Ab} {T : StM} {Q : Int32 → StM → Prop} {x : Int32} {l : List Int32} (h : RM A T) (hd : A.ds = x :: l) (k : RM (Ab.set_ds A (l)) (upd T.1 6 (T.1 6 - 1), T.2) → Q x (upd T.1 6 (T.1 6 - 1), T.2)) : wp_M_pop Q T := by
  have hb := h.dsB
  have e : T.1 6 - 1 = Int32.ofNat l.length := by
    rw [h.dsE, hd]
    exact n_sub (a := l.length + 1) (b := 1) (by omega)
  have hl : l.length < 24 := by rw [hd] at hb; simp at hb; omega
  have hs := h.dsS
  rw [hd] at hs
  have hr : RM (Ab.set_ds A (l)) (upd T.1 6 (T.1 6 - 1), T.2) := (RM.mk (h.hereE) (h.hereB) (h.memE) (h.prE) (h.prB) (h.pbB) (h.outE) (h.fuE) (h.blkE) (h.hasE) (h.hasB) (h.upE) (h.toldE) (h.toldB) (h.upB) (h.toldH) (h.madeE) (h.madeB) (h.wsE) (h.namE) (h.txE) (h.txB) (h.txC) (h.txO) (h.posE) (h.posB) (h.tkE) (h.tlE) (h.err) (e) (by show l.length ≤ 24; omega) (hs.2) (h.rsE) (h.rsB) (h.rsS) (h.csE) (h.csB) (h.csS) (h.csW) (h.drE) (h.drW) (h.opE) (h.opB) (h.opK) (h.opA))
  refine ⟨?_, ?_⟩
  · rw [e]
    exact n_in hl (by omega)
  · have k := k hr
    rw [show T.2.1 5 (T.1 6 - 1).toNatClampNeg = x by rw [e, n_cl (by omega), hs.1]]
    exact k
theorem FrAS.loop0 {wd nx lo ct lm nx' lo' : Nat → Int32} {fr : Fr} {l : List Fr} {x : Int32 × Int32} {ql : List (Int32 × Int32)} {v : Int32} {n : Nat} (h : FrAS wd nx lo ct lm (fr :: l)) (hl : fr.lp = x :: ql) (hn : nx' l.length = Int32.ofNat n) (ho : lo' l.length = Int32.ofNat ql.length) (hr : ∀ c, c < l.length → nx' c = nx c ∧ lo' c = lo c) : FrAS wd nx' lo' (upd ct (4 * l.length + ql.length) v) lm (⟨fr.w, n, ql⟩ :: l) := by
  have h1 := h.1
  have hlen := h1.len
  have hct := h1.ct
  have hlm := h1.lm
  rw [hl] at hlen hct hlm
  simp at hlen
  refine ⟨(FrA.mk (h1.w) (hn) (ho) (?_) (hct.2.same (fun i hi => upd_ne _ _ ?_)) (hlm.2)), h.2.low (fun c hc => ⟨rfl, (hr c hc).1, (hr c hc).2, fun j hj => upd_ne _ _ (by omega), fun _ _ => rfl⟩)⟩
  · show ql.length ≤ 4
    omega
  · simp at hi
    omega
theorem FrAS.loop1 {wd nx lo ct lm nx' lo' : Nat → Int32} {fr : Fr} {l : List Fr} {x : Int32 × Int32} {ql : List (Int32 × Int32)} {v : Int32} {n : Nat} (h : FrAS wd nx lo ct lm (fr :: l)) (hl : fr.lp = x :: ql) (hn : nx' l.length = Int32.ofNat n) (ho : lo' l.length = Int32.ofNat (ql.length + 1)) (hr : ∀ c, c < l.length → nx' c = nx c ∧ lo' c = lo c) : FrAS wd nx' lo' (upd ct (4 * l.length + ql.length) v) lm (⟨fr.w, n, (v, x.2) :: ql⟩ :: l) := by
  have h1 := h.1
  have hlen := h1.len
  have hct := h1.ct
  have hlm := h1.lm
  rw [hl] at hlen hct hlm
  simp at hlen
  refine ⟨(FrA.mk (h1.w) (hn) (ho) (?_) (⟨?_, hct.2.same (fun i hi => upd_ne _ _ ?_)⟩) (hlm)), h.2.low (fun c hc => ⟨rfl, (hr c hc).1, (hr c hc).2, fun j hj => upd_ne _ _ (by omega), fun _ _ => rfl⟩)⟩
  · show ql.length + 1 ≤ 4
    omega
  · rw [List.length_map]
    exact upd_at _ _ _
  · simp at hi
    omega
theorem m_beginLoop {A : Ab} {T : StM} {Q : StM → Prop} {fr : Fr} {l : List Fr} (h : RM A T) (hc : A.cs = fr :: l) (k : ∀ T', RMr (w2 A fun c b r => if fr.lp.length < 4 then (0, (Ab.set_cs (Ab.set_ds A (r)) (⟨fr.w, fr.nx, (c, b) :: fr.lp⟩ :: l))) else (3, A)) T' → Q T') : wp_M_beginLoop Q T (Int32.ofNat l.length) := by
  have hb := h.csB
  have hs := h.csS
  rw [hc] at hb hs
  simp at hb
  have hl4 := hs.1.len
  have hin : vp_in (Int32.ofNat l.length) 16 := n_in (by omega) (by omega)
  unfold wp_M_beginLoop
  refine m_nd2 h k (fun T' p => ⟨fun _ => p, fun z => absurd rfl z⟩) (fun c b r hd k => ⟨fun z => absurd z (by decide), fun _ => ⟨hin, ?_⟩⟩)
  rw [n_cl (by omega), hs.1.n]
  have ex : 4 * Int32.ofNat l.length + Int32.ofNat fr.lp.length = Int32.ofNat (4 * l.length + fr.lp.length) := by
    rw [show (4 : Int32) = Int32.ofNat 4 from rfl, n_mul, n_add]
  rw [ex, n_cl (by omega), l_lt (by omega) (by decide)]
  refine ⟨fun z => ⟨hin, ?_⟩, fun z => m_fail h (by decide) (fun T' h1 h2 => k _ ?_)⟩
  · rw [if_pos z] at k
    have hix : vp_in (Int32.ofNat (4 * l.length + fr.lp.length)) 64 := n_in (by omega) (by omega)
    refine m_pop h hd (fun T3 h3 => ⟨hix, ?_⟩)
    have h3s : FrS T3 A.cs := h3.csS
    rw [hc] at h3s
    have e3 : ∀ {X : List Fr}, A.cs = X → FrAS (T3.2.1 26) (T3.2.1 27) (T3.2.1 28) (upd (T3.2.1 29) (4 * l.length + fr.lp.length) c) (T3.2.1 30) X := by
      intro X hX
      rw [← hX, hc]
      exact FrAS.ct h3s
    have h4 : RM (Ab.set_ds A (b :: r)) (T3.1, va_up T3.2.1 29 (upd (T3.2.1 29) (4 * l.length + fr.lp.length) c), T3.2.2) := (RM.mk (h3.hereE) (h3.hereB) (h3.memE) (h3.prE) (h3.prB) (h3.pbB) (h3.outE) (h3.fuE) (h3.blkE) (h3.hasE) (h3.hasB) (h3.upE) (h3.toldE) (h3.toldB) (h3.upB) (h3.toldH) (h3.madeE) (h3.madeB) (h3.wsE) (h3.namE) (h3.txE) (h3.txB) (h3.txC) (h3.txO) (h3.posE) (h3.posB) (h3.tkE) (h3.tlE) (h3.err) (h3.dsE) (h3.dsB) (h3.dsS) (h3.rsE) (h3.rsB) (h3.rsS) (h3.csE) (h3.csB) (e3 rfl) (h3.csW) (h3.drE) (h3.drW) (h3.opE) (h3.opB) (h3.opK) (h3.opA))
    refine m_popE h4 rfl (fun h5 => ⟨hix, hin, hin, k _ (RMr.ok (RM.mk (h5.hereE) (h5.hereB) (h5.memE) (h5.prE) (h5.prB) (h5.pbB) (h5.outE) (h5.fuE) (h5.blkE) (h5.hasE) (h5.hasB) (h5.upE) (h5.toldE) (h5.toldB) (h5.upB) (h5.toldH) (h5.madeE) (h5.madeB) (h5.wsE) (h5.namE) (h5.txE) (h5.txB) (h5.txC) (h5.txO) (h5.posE) (h5.posB) (h5.tkE) (h5.tlE) (h5.err) (h5.dsE) (h5.dsB) (h5.dsS) (h5.rsE) (h5.rsB) (h5.rsS) (?_) (?_) (?_) (?_) (h5.drE) (h5.drW) (h5.opE) (h5.opB) (h5.opK) (h5.opA)))⟩)
    · show T3.1 25 = _
      have : T3.1 25 = Int32.ofNat A.cs.length := h3.csE
      rw [this, hc]
      rfl
    · show (_ :: l).length ≤ 16
      simp
      omega
    · show FrAS (T3.2.1 26) (T3.2.1 27) (upd (T3.2.1 28) l.length (T3.2.1 28 l.length + 1)) (upd (T3.2.1 29) (4 * l.length + fr.lp.length) c) (upd (T3.2.1 30) (4 * l.length + fr.lp.length) b) _
      exact FrAS.more (e3 hc) z (upd_at _ _ _) (by rw [h3s.1.n, of_succ])
    · intro fr' hf
      rcases List.mem_cons.mp hf with e | e
      · subst e
        exact h.csW fr (by rw [hc]; exact List.mem_cons_self ..)
      · exact h.csW fr' (by rw [hc]; exact List.mem_cons_of_mem _ e)
  · rw [if_neg z]
    exact RMr.no (by decide) h1 h2
theorem m_step {A : Ab} {T : StM} {Q : StM → Prop} {fr : Fr} {l : List Fr} (h : RM A T) (hC : CO A) (hc : A.cs = fr :: l) (k : ∀ T', RMr (stepA A) T' → Q T') : wp_M_step Q T := by
  obtain ⟨w, hw, hnx⟩ := h.csW fr (by rw [hc]; exact List.mem_cons_self ..)
  have hb := h.csB
  rw [hc] at hb
  simp at hb
  have hwl : fr.w < A.ws.length := by
    rcases Nat.lt_or_ge fr.w A.ws.length with h' | h'
    · exact h'
    · simp [List.getElem?_eq_none h'] at hw
  have hmB := h.madeB
  have hs := h.csS
  rw [hc] at hs
  have hW := h.wsE _ _ hw
  have hWl := hW.len
  have hcode := hC.ws w (List.mem_of_getElem? hw)
  have hnd := hC.cs fr (by rw [hc]; exact List.mem_cons_self ..) w hw
  have e0 : T.1 25 - 1 = Int32.ofNat l.length := by
    rw [h.csE, hc]
    exact n_sub (a := l.length + 1) (b := 1) (by omega)
  have hin : vp_in (Int32.ofNat l.length) 16 := n_in (by omega) (by omega)
  rw [stepA, hc] at k
  simp only [hw] at k
  unfold wp_M_step
  rw [e0, n_cl (by omega), hs.1.w, n_cl (by omega), hs.1.nx, hW.many, n_lt (by omega) (by omega)]
  refine ⟨hin, hin, n_in (by omega) (by omega), fun z => ?_, fun z => ?_⟩
  · obtain ⟨p, hp⟩ : ∃ p, w.it[fr.nx]? = some p := ⟨_, List.getElem?_eq_getElem z⟩
    simp only [hp] at k
    refine m_burn h hC.fu (fun hz T' h1 h2 => ⟨fun z => ?_, fun _ => k _ ?_⟩) (fun hz T1 h1 => ⟨fun _ => ?_, fun z => absurd (by rw [h1.err]; decide) z⟩)
    · rw [h2] at z
      exact absurd z (by decide)
    · rw [if_pos hz]
      exact RMr.no (by decide) h1 h2
    rw [if_neg (by omega)] at k
    have hs1 : FrS T1 A.cs := h1.csS
    rw [hc] at hs1
    have hW1 : WdM T1 fr.w w := h1.wsE _ _ hw
    have ei : 60 * Int32.ofNat fr.w + Int32.ofNat fr.nx = Int32.ofNat (60 * fr.w + fr.nx) := by
      rw [show (60 : Int32) = Int32.ofNat 60 from rfl, n_mul, n_add]
    obtain ⟨hk1, hk2⟩ := hW1.it _ _ hp
    rw [hs1.1.nx, ei, n_cl (by omega), hk1, hk2, of_succ]
    have hin1 : vp_in (Int32.ofNat (60 * fr.w + fr.nx)) 1500 := n_in (by omega) (by omega)
    refine ⟨hin, hin1, hin, hin1, hin, hin, ?_⟩
    have hok := hcode.it _ _ hp
    -- the call steps on
    have hA : ∀ (T2 : StM) (A2 : Ab) (n : Nat) (v : Int32), RM A2 T2 → A2.ws = A.ws → A2.cs = fr :: l ∨ (∃ m, A2.cs = ⟨fr.w, m, fr.lp⟩ :: l) → v = Int32.ofNat n → n ≤ w.it.length → RM (Ab.set_cs A2 (⟨fr.w, n, fr.lp⟩ :: l)) (T2.1, va_up T2.2.1 27 (upd (T2.2.1 27) l.length v), T2.2.2) := by
      intro T2 A2 n v h2 e2 hcs hv hn
      have hall : ∀ fr' ∈ l, fr' ∈ A2.cs := by
        intro fr' hf
        rcases hcs with hcs | ⟨m, hcs⟩ <;> rw [hcs] <;> exact List.mem_cons_of_mem _ hf
      have hlen : A2.cs.length = l.length + 1 := by
        rcases hcs with hcs | ⟨m, hcs⟩ <;> rw [hcs] <;> rfl
      refine (RM.mk (h2.hereE) (h2.hereB) (h2.memE) (h2.prE) (h2.prB) (h2.pbB) (h2.outE) (h2.fuE) (h2.blkE) (h2.hasE) (h2.hasB) (h2.upE) (h2.toldE) (h2.toldB) (h2.upB) (h2.toldH) (h2.madeE) (h2.madeB) (h2.wsE) (h2.namE) (h2.txE) (h2.txB) (h2.txC) (h2.txO) (h2.posE) (h2.posB) (h2.tkE) (h2.tlE) (h2.err) (h2.dsE) (h2.dsB) (h2.dsS) (h2.rsE) (h2.rsB) (h2.rsS) (?_) (?_) (?_) (?_) (h2.drE) (h2.drW) (h2.opE) (h2.opB) (h2.opK) (h2.opA))
      · show T2.1 25 = _
        rw [h2.csE, hlen]
        rfl
      · show (_ :: l).length ≤ 16
        simp
        omega
      · show FrAS (T2.2.1 26) (upd (T2.2.1 27) l.length v) (T2.2.1 28) (T2.2.1 29) (T2.2.1 30) _
        have h3 := h2.csS
        rcases hcs with hcs | ⟨m, hcs⟩ <;> rw [hcs] at h3
        · exact FrA.nxt rfl h3 hv
        · exact FrA.nxt (fr := ⟨fr.w, m, fr.lp⟩) rfl h3 hv
      · intro fr' hf
        rcases List.mem_cons.mp hf with e | e
        · subst e
          refine ⟨w, ?_, hn⟩
          show A2.ws[fr.w]? = _
          rw [e2]
          exact hw
        · exact h2.csW fr' (hall fr' e)
    have h2 := hA T1 _ (fr.nx + 1) _ h1 rfl (Or.inl hc) rfl (by omega)
    obtain ⟨kd, num⟩ := p
    dsimp only at k hk1 hk2 ⊢
    have hkk : kd ≤ 5 := by
      match kd, hok with
      | 0, _ => omega
      | 1, _ => omega
      | 2, _ => omega
      | 3, _ => omega
      | 4, _ => omega
      | 5, _ => omega
    have hpB := h.prB
    have hp2 : A.pr + (A.fu - 1) < A.pb := by omega
    match kd, hok with
    | 0, hok =>
      obtain ⟨-, t, e, ht⟩ := hok
      have e : num = Int32.ofNat t := e
      subst e
      refine ⟨fun _ => ?_, fun z => absurd rfl z⟩
      have et : (Int32.ofNat t).toNatClampNeg = t := n_cl (by unfold okT at ht; omega)
      have k : ∀ T', RMr (doP (Int32.ofNat t).toNatClampNeg _) T' → Q T' := k
      rw [et] at k
      exact m_perform h2 hp2 ht k
    | 1, _ => exact ⟨fun z => absurd z (by decide), fun _ => ⟨fun _ => m_push h2 k, fun z => absurd rfl z⟩⟩
    | 3, hok =>
      obtain ⟨q, hq, e, -⟩ := hok
      have e : num = Int32.ofNat q := e
      refine ⟨fun z => absurd z (by decide), fun _ => ⟨fun z => absurd z (by decide), fun _ => ⟨fun _ => ⟨hin, k _ ?_⟩, fun z => absurd rfl z⟩⟩⟩
      have eq : num.toNatClampNeg = q := by rw [e]; exact n_cl (by omega)
      have := hA _ _ num.toNatClampNeg num h2 rfl (Or.inr ⟨_, rfl⟩) (by rw [eq, e]) (by rw [eq]; exact hq)
      exact RMr.ok this
    | 2, hok =>
      obtain ⟨-, q, hq, e, -⟩ := hok
      have e : num = Int32.ofNat q := e
      have eq : num.toNatClampNeg = q := by rw [e]; exact n_cl (by omega)
      refine ⟨fun z => absurd z (by decide), fun _ => ⟨fun z => absurd z (by decide), fun _ => ⟨fun z => absurd z (by decide), fun _ => ⟨fun _ => ?_, fun z => absurd rfl z⟩⟩⟩⟩
      refine m_nd1 h2 k (fun T' p => ⟨fun _ => p, fun z => absurd rfl z⟩) (fun c r hd k => ⟨fun z => absurd z (by decide), fun _ => ?_⟩)
      refine m_pop h2 hd (fun T3 h3 => ⟨fun z => ⟨hin, k _ ?_⟩, fun z => k _ ?_⟩)
      · rw [if_pos z]
        exact RMr.ok (hA _ _ num.toNatClampNeg num h3 rfl (Or.inr ⟨_, rfl⟩) (by rw [eq, e]) (by rw [eq]; exact hq))
      · rw [if_neg z]
        exact RMr.ok h3
    | 4, _ =>
      refine ⟨fun z => absurd z (by decide), fun _ => ⟨fun z => absurd z (by decide), fun _ => ⟨fun z => absurd z (by decide), fun _ => ⟨fun z => absurd z (by decide), fun _ => ⟨fun _ => ?_, fun z => absurd rfl z⟩⟩⟩⟩⟩
      exact m_beginLoop h2 rfl k
    | 5, hok =>
      obtain ⟨q, hq, e, hn1, hn2⟩ := hok
      have e : num = Int32.ofNat q := e
      have eq : num.toNatClampNeg = q := by rw [e]; exact n_cl (by omega)
      match hlp : fr.lp with
      | [] => rw [hlp] at hnd; simp at hnd; omega
      | x :: ql =>
        refine ⟨fun z => absurd z (by decide), fun _ => ⟨fun z => absurd z (by decide), fun _ => ⟨fun z => absurd z (by decide), fun _ => ⟨fun z => absurd z (by decide), fun _ => ⟨fun z => absurd z (by decide), fun _ => ?_⟩⟩⟩⟩⟩
        have hl4 := hs1.1.len
        rw [hlp] at hl4
        simp at hl4
        have ex : 4 * Int32.ofNat l.length + Int32.ofNat (x :: ql).length - 1 = Int32.ofNat (4 * l.length + ql.length) := by
          rw [show (4 : Int32) = Int32.ofNat 4 from rfl, n_mul, n_add, show (1 : Int32) = Int32.ofNat 1 from rfl, n_sub (by simp; omega)]
          congr 1
        have hix : vp_in (Int32.ofNat (4 * l.length + ql.length)) 64 := n_in (by omega) (by omega)
        have hct := hs1.1.ct
        have hlm := hs1.1.lm
        rw [hlp] at hct hlm
        have hc1 := hct.1
        have hm1 := hlm.1
        rw [List.length_map] at hc1 hm1
        have hc1 : T1.2.1 29 (4 * l.length + ql.length) = x.1 := hc1
        have hm1 : T1.2.1 30 (4 * l.length + ql.length) = x.2 := hm1
        have hn1' : T1.2.1 28 l.length = Int32.ofNat (ql.length + 1) := by
          rw [hs1.1.n, hlp]
          rfl
        rw [hs1.1.n, hlp, ex, n_cl (by omega), upd_at, hc1, hm1]
        rw [doI_5, hlp] at k
        dsimp only at k
        have hmem : ∀ fr' ∈ l, fr' ∈ A.cs := fun fr' hf => by rw [hc]; exact List.mem_cons_of_mem _ hf
        have eL : T1.1 25 = Int32.ofNat (l.length + 1) := by
          have : T1.1 25 = Int32.ofNat A.cs.length := h1.csE
          rw [this, hc]
          rfl
        unfold wq_M_step_235 wq_M_step_258 wq_M_step_286 wq_M_step_287
        refine ⟨hin, hix, hix, hix, hix, fun z => ⟨fun _ => ⟨hin, hin, fun _ => ⟨hin, hin, k _ ?_⟩, fun z => absurd rfl z⟩, fun z => absurd rfl z⟩, fun z => ⟨fun z => absurd z (by decide), fun _ => ⟨hin, fun z => absurd z (by decide), fun _ => ⟨hin, hin, k _ ?_⟩⟩⟩⟩
        · rw [if_pos z]
          refine RMr.ok (RM.mk (h1.hereE) (h1.hereB) (h1.memE) (h1.prE) (h1.prB) (h1.pbB) (h1.outE) (h1.fuE) (h1.blkE) (h1.hasE) (h1.hasB) (h1.upE) (h1.toldE) (h1.toldB) (h1.upB) (h1.toldH) (h1.madeE) (h1.madeB) (h1.wsE) (h1.namE) (h1.txE) (h1.txB) (h1.txC) (h1.txO) (h1.posE) (h1.posB) (h1.tkE) (h1.tlE) (h1.err) (h1.dsE) (h1.dsB) (h1.dsS) (h1.rsE) (h1.rsB) (h1.rsS) (eL) (by show l.length + 1 ≤ 16; omega) (?_) (?_) (h1.drE) (h1.drW) (h1.opE) (h1.opB) (h1.opK) (h1.opA))
          · refine FrAS.loop0 (nx := T1.2.1 27) (lo := T1.2.1 28) (fr := fr) hs1 hlp ?_ ?_ (fun c hc' => ⟨?_, ?_⟩)
            · show upd (upd (T1.2.1 27) l.length (Int32.ofNat (fr.nx + 1))) (Int32.ofNat l.length).toNatClampNeg (upd (T1.2.1 27) l.length (Int32.ofNat (fr.nx + 1)) (Int32.ofNat l.length).toNatClampNeg) l.length = _
              rw [n_cl (by omega), upd_at, upd_at]
            · show upd (T1.2.1 28) (Int32.ofNat l.length).toNatClampNeg (T1.2.1 28 (Int32.ofNat l.length).toNatClampNeg - 1) l.length = _
              rw [n_cl (by omega), upd_at, hn1']
              exact n_sub (a := ql.length + 1) (b := 1) (by omega)
            · show upd (upd (T1.2.1 27) l.length (Int32.ofNat (fr.nx + 1))) (Int32.ofNat l.length).toNatClampNeg _ c = _
              rw [n_cl (by omega), upd_ne _ _ (by omega), upd_ne _ _ (by omega)]
            · show upd (T1.2.1 28) (Int32.ofNat l.length).toNatClampNeg _ c = _
              rw [n_cl (by omega), upd_ne _ _ (by omega)]
          · intro fr' hf
            rcases List.mem_cons.mp hf with e | e
            · subst e
              exact ⟨w, hw, by show fr.nx + 1 ≤ _; omega⟩
            · exact h1.csW fr' (hmem fr' e)
        · rw [if_neg z]
          refine RMr.ok (RM.mk (h1.hereE) (h1.hereB) (h1.memE) (h1.prE) (h1.prB) (h1.pbB) (h1.outE) (h1.fuE) (h1.blkE) (h1.hasE) (h1.hasB) (h1.upE) (h1.toldE) (h1.toldB) (h1.upB) (h1.toldH) (h1.madeE) (h1.madeB) (h1.wsE) (h1.namE) (h1.txE) (h1.txB) (h1.txC) (h1.txO) (h1.posE) (h1.posB) (h1.tkE) (h1.tlE) (h1.err) (h1.dsE) (h1.dsB) (h1.dsS) (h1.rsE) (h1.rsB) (h1.rsS) (eL) (by show l.length + 1 ≤ 16; omega) (?_) (?_) (h1.drE) (h1.drW) (h1.opE) (h1.opB) (h1.opK) (h1.opA))
          · refine FrAS.loop1 (nx := T1.2.1 27) (lo := T1.2.1 28) (fr := fr) hs1 hlp ?_ ?_ (fun c hc' => ⟨?_, ?_⟩)
            · show upd (upd (T1.2.1 27) l.length (Int32.ofNat (fr.nx + 1))) (Int32.ofNat l.length).toNatClampNeg num l.length = _
              rw [n_cl (by omega), upd_at, eq]
              exact e
            · show upd (T1.2.1 28) (Int32.ofNat l.length).toNatClampNeg (T1.2.1 28 (Int32.ofNat l.length).toNatClampNeg) l.length = _
              rw [n_cl (by omega), upd_at, hn1']
            · show upd (upd (T1.2.1 27) l.length (Int32.ofNat (fr.nx + 1))) (Int32.ofNat l.length).toNatClampNeg _ c = _
              rw [n_cl (by omega), upd_ne _ _ (by omega), upd_ne _ _ (by omega)]
            · show upd (T1.2.1 28) (Int32.ofNat l.length).toNatClampNeg _ c = _
              rw [n_cl (by omega), upd_ne _ _ (by omega)]
          · intro fr' hf
            rcases List.mem_cons.mp hf with e | e
            · subst e
              exact ⟨w, hw, by show num.toNatClampNeg ≤ _; omega⟩
            · exact h1.csW fr' (hmem fr' e)
  · have hp : w.it[fr.nx]? = none := List.getElem?_eq_none (by omega)
    simp only [hp] at k
    refine k _ (RMr.ok (RM.mk (h.hereE) (h.hereB) (h.memE) (h.prE) (h.prB) (h.pbB) (h.outE) (h.fuE) (h.blkE) (h.hasE) (h.hasB) (h.upE) (h.toldE) (h.toldB) (h.upB) (h.toldH) (h.madeE) (h.madeB) (h.wsE) (h.namE) (h.txE) (h.txB) (h.txC) (h.txO) (h.posE) (h.posB) (h.tkE) (h.tlE) (h.err) (h.dsE) (h.dsB) (h.dsS) (h.rsE) (h.rsB) (h.rsS) (rfl) (?_) (hs.2) (?_) (h.drE) (h.drW) (h.opE) (h.opB) (h.opK) (h.opA)))
    · show l.length ≤ 16
      omega
    · intro fr' hf
      exact h.csW fr' (by rw [hc]; exact List.mem_cons_of_mem _ hf)
