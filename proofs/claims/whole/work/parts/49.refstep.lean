theorem m_burn {A : Ab} {T : StM} {Q : StM → Prop} (h : RM A T) (hb : A.fu ≤ 600) (k1 : A.fu = 0 → ∀ T', RMw A T' → T'.1 14 = 7 → Q T') (k2 : 0 < A.fu → ∀ T', RM { A with fu := A.fu - 1 } T' → Q T') : wp_M_burn Q T := by
  unfold wp_M_burn wq_M_burn_13 wq_M_burn_31
  have hB := h.prB
  refine ⟨fun z => ?_, fun z => ⟨fun z1 => ?_, fun z1 => ?_⟩⟩
  · rw [h.fuE, l_eq (by omega) (by decide)] at z
    refine m_fail h (by decide) (fun T' h1 h2 => ⟨fun _ => k1 z _ { h1 with fuE := ?_ } h2, fun z1 => absurd ?_ z1⟩)
    · show (0 : Int32) = Int32.ofNat A.fu
      rw [z]
      rfl
    · rw [h1.fuE, l_le (by omega) (by decide)]
      omega
  · rw [h.fuE, l_eq (by omega) (by decide)] at z
    rw [h.fuE, l_le (by omega) (by decide)] at z1
    omega
  · rw [h.fuE, l_eq (by omega) (by decide)] at z
    refine k2 (by omega) _ { h with fuE := ?_, prB := ?_ }
    · show A.pr + (A.fu - 1) ≤ A.pb
      omega
    · show T.1 13 - 1 = _
      rw [h.fuE]
      exact n_sub (a := A.fu) (b := 1) (by omega)
/-- an item that may stand at place i of a word of len items, where m words are made -/
def itOK (m len : Nat) (nd : Nat → Nat) (i : Nat) (p : Nat × Int32) : Prop := match p.1 with
  | 0 => nd (i + 1) = nd i ∧ ∃ t, p.2 = Int32.ofNat t ∧ (t = 31 ∨ okT m t)
  | 1 => nd (i + 1) = nd i
  | 2 => nd (i + 1) = nd i ∧ ∃ q, q ≤ len ∧ p.2 = Int32.ofNat q ∧ nd q = nd i
  | 3 => ∃ q, q ≤ len ∧ p.2 = Int32.ofNat q ∧ nd q = nd i
  | 4 => nd (i + 1) = nd i + 1
  | 5 => ∃ q, q ≤ len ∧ p.2 = Int32.ofNat q ∧ nd i = nd (i + 1) + 1 ∧ nd q = nd i
  | _ => False
structure WdOK (m : Nat) (w : Wd) : Prop where
  nd0 : w.nd 0 = 0
  len : w.it.length ≤ 60
  it : ∀ i p, w.it[i]? = some p → itOK m w.it.length w.nd i p
/-- the code is sound, and so are the calls in it -/
structure CO (A : Ab) : Prop where
  ws : ∀ w ∈ A.ws, WdOK A.ws.length w
  cs : ∀ fr ∈ A.cs, ∀ w, A.ws[fr.w]? = some w → w.nd fr.nx = fr.lp.length
  fu : A.fu ≤ 600
  wl : A.ws.length ≤ 24
  cw : ∀ fr ∈ A.cs, ∃ w, A.ws[fr.w]? = some w ∧ fr.nx ≤ w.it.length
def doI (A : Ab) (fr : Fr) (l : List Fr) (kind : Nat) (num : Int32) : Int32 × Ab := match kind with
  | 0 => doP num.toNatClampNeg A
  | 1 => pushR A num
  | 2 => w1 A fun c r => (0, { A with ds := r, cs := if c = 0 then ⟨fr.w, num.toNatClampNeg, fr.lp⟩ :: l else A.cs })
  | 3 => (0, { A with cs := ⟨fr.w, num.toNatClampNeg, fr.lp⟩ :: l })
  | 4 => w2 A fun c b r => if fr.lp.length < 4 then (0, { A with ds := r, cs := ⟨fr.w, fr.nx + 1, (c, b) :: fr.lp⟩ :: l }) else (3, A)
  | _ => match fr.lp with
    | [] => (0, A)
    | x :: q => if x.1 + 1 = x.2 then (0, { A with cs := ⟨fr.w, fr.nx + 1, q⟩ :: l }) else (0, { A with cs := ⟨fr.w, num.toNatClampNeg, (x.1 + 1, x.2) :: q⟩ :: l })
theorem doI_5 (A : Ab) (fr : Fr) (l : List Fr) (num : Int32) : doI A fr l 5 num = match fr.lp with
    | [] => (0, A)
    | x :: q => if x.1 + 1 = x.2 then (0, { A with cs := ⟨fr.w, fr.nx + 1, q⟩ :: l }) else (0, { A with cs := ⟨fr.w, num.toNatClampNeg, (x.1 + 1, x.2) :: q⟩ :: l }) := rfl
def stepA (A : Ab) : Int32 × Ab := match A.cs with
  | [] => (0, A)
  | fr :: l => match A.ws[fr.w]? with
    | none => (0, A)
    | some w => match w.it[fr.nx]? with
      | none => (0, { A with cs := l })
      | some p => if A.fu = 0 then (7, A) else doI { A with fu := A.fu - 1, cs := ⟨fr.w, fr.nx + 1, fr.lp⟩ :: l } fr l p.1 p.2
theorem FrA.nxt {wd nx lo ct lm : Nat → Int32} {c : Nat} {fr : Fr} {l : List Fr} {v : Int32} {n : Nat} (hl : l.length = c) (h : FrAS wd nx lo ct lm (fr :: l)) (hv : v = Int32.ofNat n) : FrAS wd (upd nx c v) lo ct lm (⟨fr.w, n, fr.lp⟩ :: l) := by
  subst hl
  refine ⟨{ h.1 with nx := ?_ }, h.2.low (fun c hc => ⟨rfl, upd_ne _ _ (by omega), rfl, fun _ _ => rfl, fun _ _ => rfl⟩)⟩
  rw [upd_at, hv]
theorem FrAS.ct {wd nx lo ct lm : Nat → Int32} {fr : Fr} {l : List Fr} {v : Int32} (h : FrAS wd nx lo ct lm (fr :: l)) : FrAS wd nx lo (upd ct (4 * l.length + fr.lp.length) v) lm (fr :: l) := by
  refine ⟨{ h.1 with ct := h.1.ct.same (fun i hi => upd_ne _ _ ?_) }, h.2.low (fun c hc => ⟨rfl, rfl, rfl, fun j hj => upd_ne _ _ (by omega), fun _ _ => rfl⟩)⟩
  simp at hi
  omega
theorem FrAS.more {wd nx lo ct lm : Nat → Int32} {fr : Fr} {l : List Fr} {x y v : Int32} (h : FrAS wd nx lo ct lm (fr :: l)) (hl : fr.lp.length < 4) (hx : ct (4 * l.length + fr.lp.length) = x) (hv : v = Int32.ofNat (fr.lp.length + 1)) : FrAS wd nx (upd lo l.length v) ct (upd lm (4 * l.length + fr.lp.length) y) (⟨fr.w, fr.nx, (x, y) :: fr.lp⟩ :: l) := by
  refine ⟨{ w := h.1.w, nx := h.1.nx, n := ?_, len := ?_, ct := ⟨?_, h.1.ct⟩, lm := ⟨?_, h.1.lm.same (fun i hi => upd_ne _ _ ?_)⟩ }, h.2.low (fun c hc => ⟨rfl, rfl, upd_ne _ _ (by omega), fun _ _ => rfl, fun j hj => upd_ne _ _ (by omega)⟩)⟩
  · rw [upd_at, hv]
    rfl
  · simp
    omega
  · rw [List.length_map]
    exact hx
  · rw [List.length_map]
    exact upd_at _ _ _
  · simp at hi
    omega
theorem m_popE {A : Ab} {T : StM} {Q : Int32 → StM → Prop} {x : Int32} {l : List Int32} (h : RM A T) (hd : A.ds = x :: l) (k : RM { A with ds := l } (upd T.1 6 (T.1 6 - 1), T.2) → Q x (upd T.1 6 (T.1 6 - 1), T.2)) : wp_M_pop Q T := by
  have hb := h.dsB
  have e : T.1 6 - 1 = Int32.ofNat l.length := by
    rw [h.dsE, hd]
    exact n_sub (a := l.length + 1) (b := 1) (by omega)
  have hl : l.length < 24 := by rw [hd] at hb; simp at hb; omega
  have hs := h.dsS
  rw [hd] at hs
  have hr : RM { A with ds := l } (upd T.1 6 (T.1 6 - 1), T.2) := { h with
    dsE := e
    dsB := by show l.length ≤ 24; omega
    dsS := hs.2 }
  refine ⟨?_, ?_⟩
  · rw [e]
    exact n_in hl (by omega)
  · have k := k hr
    rw [show T.2.1 5 (T.1 6 - 1).toNatClampNeg = x by rw [e, n_cl (by omega), hs.1]]
    exact k
theorem FrAS.loop0 {wd nx lo ct lm nx' lo' : Nat → Int32} {fr : Fr} {l : List Fr} {x : Int32 × Int32} {ql : List (Int32 × Int32)} {v : Int32} {n : Nat} (h : FrAS wd nx lo ct lm (fr :: l)) (hl : fr.lp = x :: ql) (hn : nx' l.length = Int32.ofNat n) (ho : lo' l.length = Int32.ofNat ql.length) (hr : ∀ c, c < l.length → nx' c = nx c ∧ lo' c = lo c) : FrAS wd nx' lo' (upd ct (4 * l.length + ql.length) v) lm (⟨fr.w, n, ql⟩ :: l) := by
  have h1 := h.1
  have hlen := h1.len
  have hct := h1.ct
  have hlm := h1.lm
  rw [hl] at hlen hct hlm
  simp at hlen
  refine ⟨{ w := h1.w, nx := hn, n := ho, len := ?_, ct := hct.2.same (fun i hi => upd_ne _ _ ?_), lm := hlm.2 }, h.2.low (fun c hc => ⟨rfl, (hr c hc).1, (hr c hc).2, fun j hj => upd_ne _ _ (by omega), fun _ _ => rfl⟩)⟩
  · show ql.length ≤ 4
    omega
  · simp at hi
    omega
theorem FrAS.loop1 {wd nx lo ct lm nx' lo' : Nat → Int32} {fr : Fr} {l : List Fr} {x : Int32 × Int32} {ql : List (Int32 × Int32)} {v : Int32} {n : Nat} (h : FrAS wd nx lo ct lm (fr :: l)) (hl : fr.lp = x :: ql) (hn : nx' l.length = Int32.ofNat n) (ho : lo' l.length = Int32.ofNat (ql.length + 1)) (hr : ∀ c, c < l.length → nx' c = nx c ∧ lo' c = lo c) : FrAS wd nx' lo' (upd ct (4 * l.length + ql.length) v) lm (⟨fr.w, n, (v, x.2) :: ql⟩ :: l) := by
  have h1 := h.1
  have hlen := h1.len
  have hct := h1.ct
  have hlm := h1.lm
  rw [hl] at hlen hct hlm
  simp at hlen
  refine ⟨{ w := h1.w, nx := hn, n := ho, len := ?_, ct := ⟨?_, hct.2.same (fun i hi => upd_ne _ _ ?_)⟩, lm := hlm }, h.2.low (fun c hc => ⟨rfl, (hr c hc).1, (hr c hc).2, fun j hj => upd_ne _ _ (by omega), fun _ _ => rfl⟩)⟩
  · show ql.length + 1 ≤ 4
    omega
  · rw [List.length_map]
    exact upd_at _ _ _
  · simp at hi
    omega
theorem m_beginLoop {A : Ab} {T : StM} {Q : StM → Prop} {fr : Fr} {l : List Fr} (h : RM A T) (hc : A.cs = fr :: l) (k : ∀ T', RMr (w2 A fun c b r => if fr.lp.length < 4 then (0, { A with ds := r, cs := ⟨fr.w, fr.nx, (c, b) :: fr.lp⟩ :: l }) else (3, A)) T' → Q T') : wp_M_beginLoop Q T (Int32.ofNat l.length) := by
  have hb := h.csB
  have hs := h.csS
  rw [hc] at hb hs
  simp at hb
  have hl4 := hs.1.len
  have hin : vp_in (Int32.ofNat l.length) 16 := n_in (by omega) (by omega)
  unfold wp_M_beginLoop
  refine m_nd2 h k (fun T' p => ⟨fun _ => p, fun z => absurd rfl z⟩) (fun c b r hd k => ⟨fun z => absurd z (by decide), fun _ => ⟨hin, ?_⟩⟩)
  rw [n_cl (by omega), hs.1.n]
  have ex : 4 * Int32.ofNat l.length + Int32.ofNat fr.lp.length = Int32.ofNat (4 * l.length + fr.lp.length) := by
    rw [show (4 : Int32) = Int32.ofNat 4 from rfl, n_mul, n_add]
  rw [ex, n_cl (by omega), l_lt (by omega) (by decide)]
  refine ⟨fun z => ⟨hin, ?_⟩, fun z => m_fail h (by decide) (fun T' h1 h2 => k _ ?_)⟩
  · rw [if_pos z] at k
    have hix : vp_in (Int32.ofNat (4 * l.length + fr.lp.length)) 64 := n_in (by omega) (by omega)
    refine m_pop h hd (fun T3 h3 => ⟨hix, ?_⟩)
    have h3s : FrS T3 A.cs := h3.csS
    rw [hc] at h3s
    have e3 : ∀ {X : List Fr}, A.cs = X → FrAS (T3.2.1 26) (T3.2.1 27) (T3.2.1 28) (upd (T3.2.1 29) (4 * l.length + fr.lp.length) c) (T3.2.1 30) X := by
      intro X hX
      rw [← hX, hc]
      exact FrAS.ct h3s
    have h4 : RM { A with ds := b :: r } (T3.1, va_up T3.2.1 29 (upd (T3.2.1 29) (4 * l.length + fr.lp.length) c), T3.2.2) := { h3 with csS := e3 rfl }
    refine m_popE h4 rfl (fun h5 => ⟨hix, hin, hin, k _ (RMr.ok { h5 with csE := ?_, csB := ?_, csS := ?_, csW := ?_ })⟩)
    · show T3.1 25 = _
      have : T3.1 25 = Int32.ofNat A.cs.length := h3.csE
      rw [this, hc]
      rfl
    · show (_ :: l).length ≤ 16
      simp
      omega
    · show FrAS (T3.2.1 26) (T3.2.1 27) (upd (T3.2.1 28) l.length (T3.2.1 28 l.length + 1)) (upd (T3.2.1 29) (4 * l.length + fr.lp.length) c) (upd (T3.2.1 30) (4 * l.length + fr.lp.length) b) _
      exact FrAS.more (e3 hc) z (upd_at _ _ _) (by rw [h3s.1.n, of_succ])
    · intro fr' hf
      rcases List.mem_cons.mp hf with e | e
      · subst e
        exact h.csW fr (by rw [hc]; exact List.mem_cons_self ..)
      · exact h.csW fr' (by rw [hc]; exact List.mem_cons_of_mem _ e)
  · rw [if_neg z]
    exact RMr.no (by decide) h1 h2
theorem m_step {A : Ab} {T : StM} {Q : StM → Prop} {fr : Fr} {l : List Fr} (h : RM A T) (hC : CO A) (hc : A.cs = fr :: l) (k : ∀ T', RMr (stepA A) T' → Q T') : wp_M_step Q T := by
  obtain ⟨w, hw, hnx⟩ := h.csW fr (by rw [hc]; exact List.mem_cons_self ..)
  have hb := h.csB
  rw [hc] at hb
  simp at hb
  have hwl : fr.w < A.ws.length := by
    rcases Nat.lt_or_ge fr.w A.ws.length with h' | h'
    · exact h'
    · simp [List.getElem?_eq_none h'] at hw
  have hmB := h.madeB
  have hs := h.csS
  rw [hc] at hs
  have hW := h.wsE _ _ hw
  have hWl := hW.len
  have hcode := hC.ws w (List.mem_of_getElem? hw)
  have hnd := hC.cs fr (by rw [hc]; exact List.mem_cons_self ..) w hw
  have e0 : T.1 25 - 1 = Int32.ofNat l.length := by
    rw [h.csE, hc]
    exact n_sub (a := l.length + 1) (b := 1) (by omega)
  have hin : vp_in (Int32.ofNat l.length) 16 := n_in (by omega) (by omega)
  rw [stepA, hc] at k
  simp only [hw] at k
  unfold wp_M_step
  rw [e0, n_cl (by omega), hs.1.w, n_cl (by omega), hs.1.nx, hW.many, n_lt (by omega) (by omega)]
  refine ⟨hin, hin, n_in (by omega) (by omega), fun z => ?_, fun z => ?_⟩
  · obtain ⟨p, hp⟩ : ∃ p, w.it[fr.nx]? = some p := ⟨_, List.getElem?_eq_getElem z⟩
    simp only [hp] at k
    refine m_burn h hC.fu (fun hz T' h1 h2 => ⟨fun z => ?_, fun _ => k _ ?_⟩) (fun hz T1 h1 => ⟨fun _ => ?_, fun z => absurd (by rw [h1.err]; decide) z⟩)
    · rw [h2] at z
      exact absurd z (by decide)
    · rw [if_pos hz]
      exact RMr.no (by decide) h1 h2
    rw [if_neg (by omega)] at k
    have hs1 : FrS T1 A.cs := h1.csS
    rw [hc] at hs1
    have hW1 : WdM T1 fr.w w := h1.wsE _ _ hw
    have ei : 60 * Int32.ofNat fr.w + Int32.ofNat fr.nx = Int32.ofNat (60 * fr.w + fr.nx) := by
      rw [show (60 : Int32) = Int32.ofNat 60 from rfl, n_mul, n_add]
    obtain ⟨hk1, hk2⟩ := hW1.it _ _ hp
    rw [hs1.1.nx, ei, n_cl (by omega), hk1, hk2, of_succ]
    have hin1 : vp_in (Int32.ofNat (60 * fr.w + fr.nx)) 1500 := n_in (by omega) (by omega)
    refine ⟨hin, hin1, hin, hin1, hin, hin, ?_⟩
    have hok := hcode.it _ _ hp
    -- the call steps on
    have hA : ∀ (T2 : StM) (A2 : Ab) (n : Nat) (v : Int32), RM A2 T2 → A2.ws = A.ws → A2.cs = fr :: l ∨ (∃ m, A2.cs = ⟨fr.w, m, fr.lp⟩ :: l) → v = Int32.ofNat n → n ≤ w.it.length → RM { A2 with cs := ⟨fr.w, n, fr.lp⟩ :: l } (T2.1, va_up T2.2.1 27 (upd (T2.2.1 27) l.length v), T2.2.2) := by
      intro T2 A2 n v h2 e2 hcs hv hn
      have hall : ∀ fr' ∈ l, fr' ∈ A2.cs := by
        intro fr' hf
        rcases hcs with hcs | ⟨m, hcs⟩ <;> rw [hcs] <;> exact List.mem_cons_of_mem _ hf
      have hlen : A2.cs.length = l.length + 1 := by
        rcases hcs with hcs | ⟨m, hcs⟩ <;> rw [hcs] <;> rfl
      refine { h2 with csE := ?_, csB := ?_, csS := ?_, csW := ?_ }
      · show T2.1 25 = _
        rw [h2.csE, hlen]
        rfl
      · show (_ :: l).length ≤ 16
        simp
        omega
      · show FrAS (T2.2.1 26) (upd (T2.2.1 27) l.length v) (T2.2.1 28) (T2.2.1 29) (T2.2.1 30) _
        have h3 := h2.csS
        rcases hcs with hcs | ⟨m, hcs⟩ <;> rw [hcs] at h3
        · exact FrA.nxt rfl h3 hv
        · exact FrA.nxt (fr := ⟨fr.w, m, fr.lp⟩) rfl h3 hv
      · intro fr' hf
        rcases List.mem_cons.mp hf with e | e
        · subst e
          refine ⟨w, ?_, hn⟩
          show A2.ws[fr.w]? = _
          rw [e2]
          exact hw
        · exact h2.csW fr' (hall fr' e)
    have h2 := hA T1 _ (fr.nx + 1) _ h1 rfl (Or.inl hc) rfl (by omega)
    obtain ⟨kd, num⟩ := p
    dsimp only at k hk1 hk2 ⊢
    have hkk : kd ≤ 5 := by
      match kd, hok with
      | 0, _ => omega
      | 1, _ => omega
      | 2, _ => omega
      | 3, _ => omega
      | 4, _ => omega
      | 5, _ => omega
    have hpB := h.prB
    have hp2 : A.pr + (A.fu - 1) < A.pb := by omega
    match kd, hok with
    | 0, hok =>
      obtain ⟨-, t, e, ht⟩ := hok
      have e : num = Int32.ofNat t := e
      subst e
      refine ⟨fun _ => ?_, fun z => absurd rfl z⟩
      have et : (Int32.ofNat t).toNatClampNeg = t := n_cl (by unfold okT at ht; omega)
      have k : ∀ T', RMr (doP (Int32.ofNat t).toNatClampNeg _) T' → Q T' := k
      rw [et] at k
      exact m_perform h2 hp2 ht k
    | 1, _ => exact ⟨fun z => absurd z (by decide), fun _ => ⟨fun _ => m_push h2 k, fun z => absurd rfl z⟩⟩
    | 3, hok =>
      obtain ⟨q, hq, e, -⟩ := hok
      have e : num = Int32.ofNat q := e
      refine ⟨fun z => absurd z (by decide), fun _ => ⟨fun z => absurd z (by decide), fun _ => ⟨fun _ => ⟨hin, k _ ?_⟩, fun z => absurd rfl z⟩⟩⟩
      have eq : num.toNatClampNeg = q := by rw [e]; exact n_cl (by omega)
      have := hA _ _ num.toNatClampNeg num h2 rfl (Or.inr ⟨_, rfl⟩) (by rw [eq, e]) (by rw [eq]; exact hq)
      exact RMr.ok this
    | 2, hok =>
      obtain ⟨-, q, hq, e, -⟩ := hok
      have e : num = Int32.ofNat q := e
      have eq : num.toNatClampNeg = q := by rw [e]; exact n_cl (by omega)
      refine ⟨fun z => absurd z (by decide), fun _ => ⟨fun z => absurd z (by decide), fun _ => ⟨fun z => absurd z (by decide), fun _ => ⟨fun _ => ?_, fun z => absurd rfl z⟩⟩⟩⟩
      refine m_nd1 h2 k (fun T' p => ⟨fun _ => p, fun z => absurd rfl z⟩) (fun c r hd k => ⟨fun z => absurd z (by decide), fun _ => ?_⟩)
      refine m_pop h2 hd (fun T3 h3 => ⟨fun z => ⟨hin, k _ ?_⟩, fun z => k _ ?_⟩)
      · rw [if_pos z]
        exact RMr.ok (hA _ _ num.toNatClampNeg num h3 rfl (Or.inr ⟨_, rfl⟩) (by rw [eq, e]) (by rw [eq]; exact hq))
      · rw [if_neg z]
        exact RMr.ok h3
    | 4, _ =>
      refine ⟨fun z => absurd z (by decide), fun _ => ⟨fun z => absurd z (by decide), fun _ => ⟨fun z => absurd z (by decide), fun _ => ⟨fun z => absurd z (by decide), fun _ => ⟨fun _ => ?_, fun z => absurd rfl z⟩⟩⟩⟩⟩
      exact m_beginLoop h2 rfl k
    | 5, hok =>
      obtain ⟨q, hq, e, hn1, hn2⟩ := hok
      have e : num = Int32.ofNat q := e
      have eq : num.toNatClampNeg = q := by rw [e]; exact n_cl (by omega)
      match hlp : fr.lp with
      | [] => rw [hlp] at hnd; simp at hnd; omega
      | x :: ql =>
        refine ⟨fun z => absurd z (by decide), fun _ => ⟨fun z => absurd z (by decide), fun _ => ⟨fun z => absurd z (by decide), fun _ => ⟨fun z => absurd z (by decide), fun _ => ⟨fun z => absurd z (by decide), fun _ => ?_⟩⟩⟩⟩⟩
        have hl4 := hs1.1.len
        rw [hlp] at hl4
        simp at hl4
        have ex : 4 * Int32.ofNat l.length + Int32.ofNat (x :: ql).length - 1 = Int32.ofNat (4 * l.length + ql.length) := by
          rw [show (4 : Int32) = Int32.ofNat 4 from rfl, n_mul, n_add, show (1 : Int32) = Int32.ofNat 1 from rfl, n_sub (by simp; omega)]
          congr 1
        have hix : vp_in (Int32.ofNat (4 * l.length + ql.length)) 64 := n_in (by omega) (by omega)
        have hct := hs1.1.ct
        have hlm := hs1.1.lm
        rw [hlp] at hct hlm
        have hc1 := hct.1
        have hm1 := hlm.1
        rw [List.length_map] at hc1 hm1
        have hc1 : T1.2.1 29 (4 * l.length + ql.length) = x.1 := hc1
        have hm1 : T1.2.1 30 (4 * l.length + ql.length) = x.2 := hm1
        have hn1' : T1.2.1 28 l.length = Int32.ofNat (ql.length + 1) := by
          rw [hs1.1.n, hlp]
          rfl
        rw [hs1.1.n, hlp, ex, n_cl (by omega), upd_at, hc1, hm1]
        rw [doI_5, hlp] at k
        dsimp only at k
        have hmem : ∀ fr' ∈ l, fr' ∈ A.cs := fun fr' hf => by rw [hc]; exact List.mem_cons_of_mem _ hf
        have eL : T1.1 25 = Int32.ofNat (l.length + 1) := by
          have : T1.1 25 = Int32.ofNat A.cs.length := h1.csE
          rw [this, hc]
          rfl
        unfold wq_M_step_235 wq_M_step_258 wq_M_step_286 wq_M_step_287
        refine ⟨hin, hix, hix, hix, hix, fun z => ⟨fun _ => ⟨hin, hin, fun _ => ⟨hin, hin, k _ ?_⟩, fun z => absurd rfl z⟩, fun z => absurd rfl z⟩, fun z => ⟨fun z => absurd z (by decide), fun _ => ⟨hin, fun z => absurd z (by decide), fun _ => ⟨hin, hin, k _ ?_⟩⟩⟩⟩
        · rw [if_pos z]
          refine RMr.ok { h1 with csE := eL, csB := by show l.length + 1 ≤ 16; omega, csS := ?_, csW := ?_ }
          · refine FrAS.loop0 (nx := T1.2.1 27) (lo := T1.2.1 28) (fr := fr) hs1 hlp ?_ ?_ (fun c hc' => ⟨?_, ?_⟩)
            · show upd (upd (T1.2.1 27) l.length (Int32.ofNat (fr.nx + 1))) (Int32.ofNat l.length).toNatClampNeg (upd (T1.2.1 27) l.length (Int32.ofNat (fr.nx + 1)) (Int32.ofNat l.length).toNatClampNeg) l.length = _
              rw [n_cl (by omega), upd_at, upd_at]
            · show upd (T1.2.1 28) (Int32.ofNat l.length).toNatClampNeg (T1.2.1 28 (Int32.ofNat l.length).toNatClampNeg - 1) l.length = _
              rw [n_cl (by omega), upd_at, hn1']
              exact n_sub (a := ql.length + 1) (b := 1) (by omega)
            · show upd (upd (T1.2.1 27) l.length (Int32.ofNat (fr.nx + 1))) (Int32.ofNat l.length).toNatClampNeg _ c = _
              rw [n_cl (by omega), upd_ne _ _ (by omega), upd_ne _ _ (by omega)]
            · show upd (T1.2.1 28) (Int32.ofNat l.length).toNatClampNeg _ c = _
              rw [n_cl (by omega), upd_ne _ _ (by omega)]
          · intro fr' hf
            rcases List.mem_cons.mp hf with e | e
            · subst e
              exact ⟨w, hw, by show fr.nx + 1 ≤ _; omega⟩
            · exact h1.csW fr' (hmem fr' e)
        · rw [if_neg z]
          refine RMr.ok { h1 with csE := eL, csB := by show l.length + 1 ≤ 16; omega, csS := ?_, csW := ?_ }
          · refine FrAS.loop1 (nx := T1.2.1 27) (lo := T1.2.1 28) (fr := fr) hs1 hlp ?_ ?_ (fun c hc' => ⟨?_, ?_⟩)
            · show upd (upd (T1.2.1 27) l.length (Int32.ofNat (fr.nx + 1))) (Int32.ofNat l.length).toNatClampNeg num l.length = _
              rw [n_cl (by omega), upd_at, eq]
              exact e
            · show upd (T1.2.1 28) (Int32.ofNat l.length).toNatClampNeg (T1.2.1 28 (Int32.ofNat l.length).toNatClampNeg) l.length = _
              rw [n_cl (by omega), upd_at, hn1']
            · show upd (upd (T1.2.1 27) l.length (Int32.ofNat (fr.nx + 1))) (Int32.ofNat l.length).toNatClampNeg _ c = _
              rw [n_cl (by omega), upd_ne _ _ (by omega), upd_ne _ _ (by omega)]
            · show upd (T1.2.1 28) (Int32.ofNat l.length).toNatClampNeg _ c = _
              rw [n_cl (by omega), upd_ne _ _ (by omega)]
          · intro fr' hf
            rcases List.mem_cons.mp hf with e | e
            · subst e
              exact ⟨w, hw, by show num.toNatClampNeg ≤ _; omega⟩
            · exact h1.csW fr' (hmem fr' e)
  · have hp : w.it[fr.nx]? = none := List.getElem?_eq_none (by omega)
    simp only [hp] at k
    refine k _ (RMr.ok { h with csE := rfl, csB := ?_, csS := hs.2, csW := ?_ })
    · show l.length ≤ 16
      omega
    · intro fr' hf
      exact h.csW fr' (by rw [hc]; exact List.mem_cons_of_mem _ hf)
