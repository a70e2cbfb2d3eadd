/-- what reading a token leaves: the text, the words on an error, and it goes on -/
def Adv (A : Ab) (r : Int32 × Ab) : Prop := r.2.tx = A.tx ∧ A.pos ≤ r.2.pos ∧ r.2.fu ≤ A.fu ∧ r.2.pb = A.pb ∧ tb r.2 = tb A ∧ (r.1 ≠ 0 → r.2.ws = A.ws)
theorem Adv.self (A : Ab) (e : Int32) : Adv A (e, A) := ⟨rfl, Nat.le_refl _, Nat.le_refl _, rfl, rfl, fun _ => rfl⟩
theorem adv_push {A B : Ab} {v : Int32} (h : Adv A (3, B)) : Adv A (pushR B v) := by
  obtain ⟨h1, h2, h3, h4, h5, h6⟩ := h
  unfold pushR
  split
  · exact ⟨h1, h2, h3, h4, h5, fun z => absurd rfl z⟩
  · exact ⟨h1, h2, h3, h4, h5, h6⟩
theorem adv_comp {A : Ab} {w : Wd} {kd : Nat} {num : Int32} {op : List (Nat × Nat)} {f : Wd → Wd} : Adv A (compR A w kd num op f) := by
  unfold compR
  split
  · exact ⟨rfl, Nat.le_refl _, Nat.le_refl _, rfl, rfl, fun z => absurd rfl z⟩
  · exact Adv.self A 3
theorem adv_next (A : Ab) (e : Int32) : Adv A (e, nextP A) := by
  refine ⟨rfl, ?_, Nat.le_refl _, rfl, rfl, fun _ => rfl⟩
  show A.pos ≤ tkO A + tlO A
  unfold tkO
  omega
theorem adv_par (t : Nat) (A : Ab) : Adv A (parA t A) := by
  have hN := fun e => adv_next A e
  unfold parA
  split
  · exact Adv.self A 6
  · split
    · split
      · exact Adv.self A 6
      · exact ⟨rfl, Nat.le_refl _, Nat.le_refl _, rfl, rfl, fun z => absurd rfl z⟩
    · split
      · unfold parB
        split
        · split
          · exact hN 1
          · exact adv_push (hN 3)
        · split
          · split
            · exact ⟨rfl, (hN 0).2.1, Nat.le_refl _, rfl, rfl, fun z => absurd rfl z⟩
            · exact hN 3
          · exact hN 3
        · unfold w1
          split
          · dsimp only
            split
            · exact ⟨rfl, (hN 0).2.1, Nat.le_refl _, rfl, rfl, fun z => absurd rfl z⟩
            · exact hN 3
          · exact hN 2
        · split
          · exact ⟨rfl, (hN 0).2.1, Nat.le_refl _, rfl, rfl, fun z => absurd rfl z⟩
          · exact hN 3
      · exact hN 6
theorem adv_ctl (t : Nat) (A : Ab) : Adv A (ctl t A) := by
  unfold ctl
  split
  · exact Adv.self A 6
  · unfold ctlW
    split
    · split
      · exact ⟨rfl, Nat.le_refl _, Nat.le_refl _, rfl, rfl, fun z => absurd rfl z⟩
      · exact Adv.self A 6
    · split
      · exact adv_comp
      · exact Adv.self A 3
    · split
      · exact Adv.self A 6
      · split
        · exact ⟨rfl, Nat.le_refl _, Nat.le_refl _, rfl, rfl, fun z => absurd rfl z⟩
        · exact Adv.self A 6
    · split
      · exact Adv.self A 6
      · split
        · exact adv_comp
        · exact Adv.self A 6
    · split
      · exact ⟨rfl, Nat.le_refl _, Nat.le_refl _, rfl, rfl, fun z => absurd rfl z⟩
      · exact Adv.self A 3
    · split
      · exact Adv.self A 6
      · split
        · exact adv_comp
        · exact Adv.self A 6
    · split
      · exact Adv.self A 6
      · split
        · exact adv_comp
        · exact Adv.self A 6
    · split
      · exact Adv.self A 6
      · split
        · split
          · exact adv_comp
          · exact Adv.self A 3
        · exact Adv.self A 6
    · split
      · split
        · exact adv_comp
        · exact Adv.self A 6
      · exact Adv.self A 6
    · split
      · exact adv_comp
      · exact Adv.self A 3
    · split
      · exact Adv.self A 6
      · split
        · exact adv_comp
        · exact Adv.self A 6
    · exact adv_comp
theorem Kp.adv {A : Ab} {r : Int32 × Ab} (h : Kp A r.2) : Adv A r :=
  ⟨h.tx, Nat.le_of_eq h.ps.symm, Nat.le_of_eq h.fu, h.pb, h.tk, fun _ => h.ws⟩
theorem adv_rdT (A : Ab) (l : List Int32) : Adv A (rdT A l) := by
  unfold rdT
  split
  · split
    · exact adv_comp
    · exact (kp_push A _).adv
  · split
    · exact Adv.self A 1
    · rename_i t ef
      have ht := findA_lt ef
      split
      · exact adv_par t A
      · split
        · exact adv_ctl t A
        · rename_i c2 c3
          have hT : t = 31 ∨ okT A.ws.length t := by unfold okT; omega
          split
          · split
            · exact (kp_P hT).adv
            · exact adv_comp
          · exact (kp_P hT).adv
theorem rdT_cs {A : Ab} {l : List Int32} (hcs : A.cs = []) : (rdT A l).2.cs.length ≤ 1 := by
  have hk : ∀ {A' : Ab}, Kp A A' → A'.cs.length ≤ 1 := by
    intro A' k
    rcases k.cs with e | ⟨fr, e⟩ | ⟨w, -, e⟩
    · rw [e, hcs]
      simp
    · rw [hcs] at e
      cases e
    · rw [e, hcs]
      simp
  have h0 : ∀ {B : Ab}, B.cs = A.cs → B.cs.length ≤ 1 := by
    intro B e
    rw [e, hcs]
    simp
  unfold rdT
  split
  · split
    · exact h0 (compR_cs ..)
    · exact hk (kp_push A _)
  · split
    · exact h0 rfl
    · rename_i t ef
      have ht := findA_lt ef
      split
      · exact h0 (parA_cs ..)
      · split
        · exact h0 (ctl_cs ..)
        · rename_i c2 c3
          have hT : t = 31 ∨ okT A.ws.length t := by unfold okT; omega
          split
          · split
            · exact hk (kp_P hT)
            · exact h0 (compR_cs ..)
          · exact hk (kp_P hT)
theorem stepA_fu {A : Ab} {fr : Fr} {l : List Fr} {w : Wd} (h : CO A) (hc : A.cs = fr :: l) (hw : A.ws[fr.w]? = some w) : (stepA A).2.fu ≤ A.fu ∧ (stepA A).2.pb = A.pb ∧ tb (stepA A).2 = tb A := by
  have hW := h.ws w (List.mem_of_getElem? hw)
  have hB := h.wl
  rw [stepA, hc]
  simp only [hw]
  match hp : w.it[fr.nx]? with
  | none => exact ⟨Nat.le_refl _, rfl, rfl⟩
  | some p =>
    have hi := hW.it _ _ hp
    dsimp only
    by_cases hf : A.fu = 0
    · rw [if_pos hf]
      exact ⟨Nat.le_refl _, rfl, rfl⟩
    rw [if_neg hf]
    obtain ⟨kd, num⟩ := p
    have ok : A.fu - 1 ≤ A.fu := by omega
    match kd, hi with
    | 0, hi =>
      obtain ⟨h1, t, e, ht⟩ := hi
      have e : num = Int32.ofNat t := e
      have et : num.toNatClampNeg = t := by rw [e]; exact n_cl (by unfold okT at ht; omega)
      show (doP num.toNatClampNeg _).2.fu ≤ _ ∧ (doP num.toNatClampNeg _).2.pb = _ ∧ tb (doP num.toNatClampNeg _).2 = _
      rw [et]
      have kk := kp_P (A := (Ab.set_cs (Ab.set_fu A (A.fu - 1)) (⟨fr.w, fr.nx + 1, fr.lp⟩ :: l))) ht
      exact ⟨by rw [kk.fu]; exact ok, kk.pb, kk.tk⟩
    | 1, hi =>
      have kk := kp_push (Ab.set_cs (Ab.set_fu A (A.fu - 1)) (⟨fr.w, fr.nx + 1, fr.lp⟩ :: l)) num
      exact ⟨by show (pushR _ num).2.fu ≤ _; rw [kk.fu]; exact ok, kk.pb, kk.tk⟩
    | 2, hi =>
      show (w1 _ _).2.fu ≤ _ ∧ (w1 _ _).2.pb = _ ∧ tb (w1 _ _).2 = _
      unfold w1
      split <;> exact ⟨ok, rfl, rfl⟩
    | 3, hi => exact ⟨ok, rfl, rfl⟩
    | 4, hi =>
      show (w2 _ _).2.fu ≤ _ ∧ (w2 _ _).2.pb = _ ∧ tb (w2 _ _).2 = _
      unfold w2
      split
      · dsimp only
        split <;> exact ⟨ok, rfl, rfl⟩
      · exact ⟨ok, rfl, rfl⟩
    | 5, hi =>
      rw [doI_5]
      split
      · exact ⟨ok, rfl, rfl⟩
      · split <;> exact ⟨ok, rfl, rfl⟩
theorem adv_fin : ∀ (n : Nat) (A : Ab), CO A → mea A ≤ n → Adv A (finA n A) := by
  intro n
  induction n with
  | zero =>
    intro A hC hm
    exact Adv.self A 0
  | succ n ih =>
    intro A hC hm
    match hc : A.cs with
    | [] =>
      have : finA (n + 1) A = (0, A) := by rw [finA, hc]
      rw [this]
      exact Adv.self A 0
    | fr :: l =>
      obtain ⟨w, hw, hn⟩ := hC.cw fr (by rw [hc]; exact List.mem_cons_self ..)
      have hS := stepA_ok hC hc hw hn
      obtain ⟨f1, f2, f3⟩ := stepA_fu hC hc hw
      have e1 : finA (n + 1) A = if (stepA A).1 = 0 then finA n (stepA A).2 else stepA A := by rw [finA, hc]
      rw [e1]
      by_cases e : (stepA A).1 = 0
      · rw [if_pos e]
        obtain ⟨a1, a2, a3, a4, a6, a5⟩ := ih _ (hS.1 e).1 (by have := (hS.1 e).2; omega)
        exact ⟨a1.trans hS.2.2.2.2.1, by rw [hS.2.2.2.2.2] at a2; exact a2, Nat.le_trans a3 f1, a4.trans f2, a6.trans f3, fun z => (a5 z).trans hS.2.1⟩
      · rw [if_neg e]
        exact ⟨hS.2.2.2.2.1, Nat.le_of_eq hS.2.2.2.2.2.symm, f1, f2, f3, fun _ => hS.2.1⟩
/-- the words and the names are sound, whatever came of the token -/
def WS (A : Ab) : Prop := (∀ w ∈ A.ws, WdOK A.ws.length w) ∧ (A.fu ≤ 600) ∧ (A.ws.length ≤ 24) ∧ (∀ w ∈ A.ws, nmOK w.nm)
theorem WS.s1 {A : Ab} (h : WS A) : ∀ w ∈ A.ws, WdOK A.ws.length w := h.1
theorem WS.s2 {A : Ab} (h : WS A) : A.fu ≤ 600 := h.2.1
theorem WS.s3 {A : Ab} (h : WS A) : A.ws.length ≤ 24 := h.2.2.1
theorem WS.s4 {A : Ab} (h : WS A) : ∀ w ∈ A.ws, nmOK w.nm := h.2.2.2
theorem WS.mk {A : Ab} (s10 : ∀ w ∈ A.ws, WdOK A.ws.length w) (s20 : A.fu ≤ 600) (s30 : A.ws.length ≤ 24) (s40 : ∀ w ∈ A.ws, nmOK w.nm) : WS A := ⟨s10, s20, s30, s40⟩
theorem CD.toWS {A : Ab} (h : CD A) : WS A := WS.mk h.ws h.fu h.wl h.nms
def TokR (A : Ab) (r : Int32 × Ab) : Prop := (r.2.tx = A.tx) ∧ (A.pos ≤ r.2.pos) ∧ (r.2.pb = A.pb) ∧ (r.1 = 0 → CD r.2 ∧ r.2.cs = []) ∧ (WS r.2) ∧ (tb r.2 = tb A)
theorem TokR.t1 {A : Ab} {r : Int32 × Ab} (h : TokR A r) : r.2.tx = A.tx := h.1
theorem TokR.t2 {A : Ab} {r : Int32 × Ab} (h : TokR A r) : A.pos ≤ r.2.pos := h.2.1
theorem TokR.t3 {A : Ab} {r : Int32 × Ab} (h : TokR A r) : r.2.pb = A.pb := h.2.2.1
theorem TokR.t4 {A : Ab} {r : Int32 × Ab} (h : TokR A r) : r.1 = 0 → CD r.2 ∧ r.2.cs = [] := h.2.2.2.1
theorem TokR.t5 {A : Ab} {r : Int32 × Ab} (h : TokR A r) : WS r.2 := h.2.2.2.2.1
theorem TokR.t6 {A : Ab} {r : Int32 × Ab} (h : TokR A r) : tb r.2 = tb A := h.2.2.2.2.2
theorem TokR.mk {A : Ab} {r : Int32 × Ab} (t10 : r.2.tx = A.tx) (t20 : A.pos ≤ r.2.pos) (t30 : r.2.pb = A.pb) (t40 : r.1 = 0 → CD r.2 ∧ r.2.cs = []) (t50 : WS r.2) (t60 : tb r.2 = tb A) : TokR A r := ⟨t10, t20, t30, t40, t50, t60⟩
theorem tokA_ok {A : Ab} (h : CD A) (hcs : A.cs = []) (hX : ∀ c ∈ A.tx, okB c) : TokR A (tokA A) := by
  have hR : Adv A (readA A) := by
    unfold readA
    split
    · exact Adv.self A 7
    · obtain ⟨a1, a2, a3, a4, a6, a5⟩ := adv_rdT (Ab.set_fu A (A.fu - 1)) (tokL A)
      exact ⟨a1, a2, Nat.le_trans a3 (Nat.sub_le _ _), a4, a6, a5⟩
  have hcs1 : (readA A).2.cs.length ≤ 1 := by
    unfold readA
    split
    · rw [hcs]
      simp
    · exact rdT_cs (A := (Ab.set_fu A (A.fu - 1))) hcs
  have hfu := h.fu
  unfold tokA
  by_cases e : (readA A).1 = 0
  · rw [if_pos e]
    have hc := readA_cd h hcs hX e
    have hm : mea (readA A).2 ≤ 1300 := by
      have := hc.fu
      unfold mea
      omega
    have hF := adv_fin 1300 _ hc.toCO hm
    have hco := finA_co 1300 _ hc.toCO hm
    have hws : (finA 1300 (readA A).2).2.ws = (readA A).2.ws := hco.2.1
    refine TokR.mk (hF.1.trans hR.1) (Nat.le_trans hR.2.1 hF.2.1) (hF.2.2.2.1.trans hR.2.2.2.1) (fun z => finA_cd hc hm z) ?_ ?_
    · have hw := hc.toWS
      refine WS.mk ?_ ?_ ?_ ?_
      · rw [hws]
        exact hw.s1
      · exact Nat.le_trans hF.2.2.1 hw.s2
      · rw [hws]
        exact hw.s3
      · rw [hws]
        exact hw.s4
    · rw [hF.2.2.2.2.1]
      exact hR.2.2.2.2.1
  · rw [if_neg e]
    refine TokR.mk hR.1 hR.2.1 hR.2.2.2.1 (fun z => absurd z e) ?_ hR.2.2.2.2.1
    have hw := h.toWS
    have e1 := hR.2.2.2.2.2 e
    refine WS.mk ?_ (Nat.le_trans hR.2.2.1 hfu) ?_ ?_
    · rw [e1]
      exact hw.s1
    · rw [e1]
      exact hw.s3
    · rw [e1]
      exact hw.s4
/-- what a text comes to, after an error too -/
def clr (A : Ab) : Ab := (Ab.set_cs (Ab.set_op (Ab.set_dr (Ab.set_rs (Ab.set_ds A ([])) ([])) (none)) ([])) ([]))
def RunR (A : Ab) (r : Int32 × Ab) : Prop := (r.2.tx = A.tx) ∧ (r.2.pb = A.pb) ∧ (r.1 = 0 → CD r.2 ∧ r.2.cs = []) ∧ (WS r.2) ∧ (r.2.bt = A.bt)
theorem RunR.u1 {A : Ab} {r : Int32 × Ab} (h : RunR A r) : r.2.tx = A.tx := h.1
theorem RunR.u2 {A : Ab} {r : Int32 × Ab} (h : RunR A r) : r.2.pb = A.pb := h.2.1
theorem RunR.u3 {A : Ab} {r : Int32 × Ab} (h : RunR A r) : r.1 = 0 → CD r.2 ∧ r.2.cs = [] := h.2.2.1
theorem RunR.u4 {A : Ab} {r : Int32 × Ab} (h : RunR A r) : WS r.2 := h.2.2.2.1
theorem RunR.u5 {A : Ab} {r : Int32 × Ab} (h : RunR A r) : r.2.bt = A.bt := h.2.2.2.2
theorem RunR.mk {A : Ab} {r : Int32 × Ab} (u10 : r.2.tx = A.tx) (u20 : r.2.pb = A.pb) (u30 : r.1 = 0 → CD r.2 ∧ r.2.cs = []) (u40 : WS r.2) (u50 : r.2.bt = A.bt) : RunR A r := ⟨u10, u20, u30, u40, u50⟩
theorem runA_ok : ∀ (n : Nat) (A : Ab), CD A → A.cs = [] → (∀ c ∈ A.tx, okB c) → RunR A (runA n A) := by
  intro n
  induction n with
  | zero =>
    intro A h hcs hX
    exact RunR.mk rfl rfl (fun _ => ⟨h, hcs⟩) h.toWS rfl
  | succ n ih =>
    intro A h hcs hX
    have hN : CD (nextT A) := CD.of hcs h.ws h.fu h.wl h.nms h.dr
    have hT := tokA_ok hN hcs hX
    rw [runA]
    split
    · exact RunR.mk rfl rfl (fun _ => ⟨hN, hcs⟩) hN.toWS rfl
    · split
      · rename_i e
        obtain ⟨h1, h2⟩ := hT.t4 e
        have := ih _ h1 h2 (by rw [hT.t1]; exact hX)
        exact RunR.mk (this.u1.trans hT.t1) (this.u2.trans hT.t3) this.u3 this.u4 (this.u5.trans (congrArg Prod.snd hT.t6))
      · rename_i e
        exact RunR.mk hT.t1 hT.t3 (fun z => absurd z e) hT.t5 (congrArg Prod.snd hT.t6)
theorem m_runs {Q : Int32 → StM → Prop} : ∀ (n : Nat) (A : Ab) (T : StM), RM A T → CD A → A.cs = [] → A.tx.length - A.pos < n → (∀ T', RMr (runA n A) T' → wq_M_run_38 Q T') → wq_M_run_17 Q n T := by
  intro n
  induction n with
  | zero =>
    intro A T h hC hcs hn k
    omega
  | succ n ih =>
    intro A T h hC hcs hn k
    have hX := h.txO
    have hPB := h.posB
    have hN : CD (nextT A) := CD.of hcs hC.ws hC.fu hC.wl hC.nms hC.dr
    have hT := tokA_ok hN hcs hX
    refine ⟨fun _ => m_next h (fun T1 h1 => ⟨fun z => ?_, fun z => ?_⟩), fun z => absurd h.err z⟩
    · have e : (nextT A).tl = 0 := by
        rcases Nat.eq_zero_or_pos (nextT A).tl with q | q
        · exact q
        · rw [decide_eq_true q] at z
          exact absurd z (by decide)
      have er : runA (n + 1) A = (0, nextT A) := by rw [runA, if_pos e]
      rw [er] at k
      exact k _ (RMr.ok h1)
    · have e : 0 < (nextT A).tl := by
        rcases Nat.eq_zero_or_pos (nextT A).tl with q | q
        · rw [decide_eq_false (by omega)] at z
          exact absurd rfl z
        · exact q
      have er : runA (n + 1) A = if (tokA (nextT A)).1 = 0 then runA n (tokA (nextT A)).2 else tokA (nextT A) := by rw [runA, if_neg (by omega)]
      rw [er] at k
      refine m_read h1 hN hcs (nextT_le hPB) e (fun T2 h2 => ?_)
      by_cases e0 : (tokA (nextT A)).1 = 0
      · rw [if_pos e0] at k
        obtain ⟨c1, c2⟩ := hT.t4 e0
        refine ih _ T2 (h2.1 e0) c1 c2 ?_ k
        have q1 : (tokA (nextT A)).2.tx = A.tx := hT.t1
        have q2 : tkO A + tlO A ≤ (tokA (nextT A)).2.pos := hT.t2
        have q3 : A.pos ≤ tkO A := by unfold tkO; omega
        have q4 : 0 < tlO A := e
        have q5 := (h2.1 e0).posB
        have q6 := nextT_le hPB
        rw [q1] at q5 ⊢
        omega
      · rw [if_neg e0] at k
        obtain ⟨h3, h4⟩ := h2.2 e0
        cases n with
        | zero =>
          have q3 : A.pos ≤ tkO A := by unfold tkO; omega
          have q4 : 0 < tlO A := e
          have q6 := nextT_le hPB
          omega
        | succ n => exact ⟨fun z => absurd (h4.symm.trans z) e0, fun _ => k _ h2⟩
