/-- where a text's run starts -/
def st (A : Ab) (B : Nat) : Ab := (Ab.set_bt (Ab.set_pos (Ab.set_pb (Ab.set_fu A (600)) (B)) (0)) ([]))
theorem st_cd {A : Ab} {B : Nat} (h : CD A) (hcs : A.cs = []) : CD (st A B) := CD.of hcs h.ws (Nat.le_refl 600) h.wl h.nms h.dr
theorem c_run {g : Gm} {ρ : Nat → Nat × Nat} {A : Ab} {S : StC} {post : Int32 → StC → Prop} {p t B : Nat} {tx' : List Int32} (h : RC g ρ (Ab.set_bt (Ab.set_tk (Ab.set_pos (Ab.set_tx A (tx')) (p)) (t)) (A.tx)) S) (hC : CD A) (hcs : A.cs = []) (hX : ∀ c ∈ A.tx, okB c) (hX1 : A.tx.length ≤ 120) (hB : A.pr + 600 ≤ B) (hB1 : B ≤ 400000) (k : ∀ ρ' S' c z, FinC g ρ' (runA 121 (st A B)) S' → wq_W_run_75 g post 700 8400 S' (runA 121 (st A B)).1 c z) : wp_W_run g post 700 8400 S := by
  have e : runA 121 (Ab.set_tk (st A B) (t)) = runA 121 (st A B) := runA_tk 120 _ t
  refine ⟨2, 4 + A.tx.length, by omega, by omega, c_toStr h (fun y ρ' L' F' hx hy => ⟨y, rfl, ?_⟩)⟩
  have h1 := h.ext hx
  have hy : StrX g L' F' ρ' y A.tx := hy
  have h2 : RC g ρ' (Ab.set_bt (Ab.set_tk (st A B) (t)) (A.tx)) (upd (upd S.1 3 0) 7 600, S.2.1, va_up S.2.2.1 1 y, S.2.2.2.1, S.2.2.2.2.1, L', F') :=
    (RC.mk (h1.kHere) (h1.kHereB) (h1.kMem) (h1.kPr) (hB) (hB1) (h1.kOut) (rfl) (h1.kHas) (h1.kHasB) (h1.kUp) (h1.kUpB) (h1.kTold) (h1.kToldB) (h1.kToldH) (h1.kMade) (h1.kMadeB) (h1.kWs) (h1.kRows) (h1.kLay) (rfl) (h1.kTk) (by
        show StrX g L' F' ρ' (va_up S.2.2.1 1 y 1) A.tx
        rw [va_up_self]
        exact hy) (h1.kBt) (h1.kG) (h1.kDs) (h1.kDsB) (h1.kDsS) (h1.kRs) (h1.kRsB) (h1.kRsS) (h1.kCs) (h1.kCsB) (h1.kCsS) (h1.kDr0) (h1.kDr) (h1.kOp) (h1.kOpB) (h1.kOpK) (h1.kOpA))
  refine ⟨0, 0, by omega, by omega, c_setLen h2 (fun S3 h3 => ⟨122, ?_⟩)⟩
  have h3 : RC g ρ' (Ab.set_tk (st A B) (t)) S3 := (RC.mk (h3.kHere) (h3.kHereB) (h3.kMem) (h3.kPr) (h3.kPrB) (h3.kPbB) (h3.kOut) (h3.kFu) (h3.kHas) (h3.kHasB) (h3.kUp) (h3.kUpB) (h3.kTold) (h3.kToldB) (h3.kToldH) (h3.kMade) (h3.kMadeB) (h3.kWs) (h3.kRows) (h3.kLay) (h3.kPos) (h3.kTk) (h3.kTx) (h3.kBt) (h3.kG) (h3.kDs) (h3.kDsB) (h3.kDsS) (h3.kRs) (h3.kRsB) (h3.kRsS) (h3.kCs) (h3.kCsB) (h3.kCsS) (h3.kDr0) (h3.kDr) (h3.kOp) (h3.kOpB) (h3.kOpK) (h3.kOpA))
  exact c_runs 121 ρ' (Ab.set_tk (st A B) (t)) S3 0 _ _ h3 (CD.of hcs hC.ws (Nat.le_refl 600) hC.wl hC.nms hC.dr) hcs hX hX1 (Nat.zero_le _) (show A.tx.length - 0 < 121 by omega) (Nat.zero_le _) (by omega) (by omega) (by rw [e]; exact k)
theorem m_run {A : Ab} {T : StM} {Q : Int32 → StM → Prop} {B : Nat} (h : RM A (upd (upd T.1 2 0) 14 0, T.2)) (hC : CD A) (hcs : A.cs = []) (hB : A.pr + 600 ≤ B) (hB1 : B ≤ 400000) (k : ∀ T', RMr (runA 121 (st A B)) T' → wq_M_run_38 Q T') : wp_M_run Q T := by
  have h1 : RM (st A B) (upd (upd (upd T.1 2 0) 13 600) 14 0, T.2) :=
    (RM.mk (h.hereE) (h.hereB) (h.memE) (h.prE) (hB) (hB1) (h.outE) (rfl) (h.blkE) (h.hasE) (h.hasB) (h.upE) (h.toldE) (h.toldB) (h.upB) (h.toldH) (h.madeE) (h.madeB) (h.wsE) (h.namE) (h.txE) (h.txB) (h.txC) (h.txO) (rfl) (Nat.zero_le _) (h.tkE) (h.tlE) (h.err) (h.dsE) (h.dsB) (h.dsS) (h.rsE) (h.rsB) (h.rsS) (h.csE) (h.csB) (h.csS) (h.csW) (h.drE) (h.drW) (h.opE) (h.opB) (h.opK) (h.opA))
  have hl := h.txB
  exact ⟨121, m_runs 121 (st A B) _ h1 (st_cd hC hcs) hcs (show A.tx.length - 0 < 121 by omega) k⟩
/-- class and reference mean the same -/
def Sim (k : Nat) (g : Gm) (S : StC) (T : StM) : Prop := ∃ (A : Ab) (ρ : Nat → Nat × Nat) (p t : Nat) (tx' : List Int32), A.pr ≤ 600 * k ∧ A.cs = [] ∧ CD A ∧ RM A (upd (upd T.1 2 0) 14 0, T.2) ∧ RC g ρ (Ab.set_bt (Ab.set_tk (Ab.set_pos (Ab.set_tx A (tx')) (p)) (t)) (A.tx)) S
theorem sim_succ (k : Nat) (g : Gm) (S : StC) (T : StM) (h : Sim k g S T) : Sim (k + 1) g S T := by
  obtain ⟨A, ρ, p, t, tx', h1, h⟩ := h
  exact ⟨A, ρ, p, t, tx', by omega, h⟩
theorem back_run : Back_run Sim 700 8400 := by
  intro k g S T hk hs
  obtain ⟨A, ρ, p, t, tx', hpr, hcs, hC, hM, hR⟩ := hs
  have hB : A.pr + 600 ≤ 600 * (k + 1) := by omega
  have hB1 : 600 * (k + 1) ≤ 400000 := by omega
  refine ⟨m_run hM hC hcs hB hB1 (fun T' hT => ⟨fun _ => trivial, fun _ => trivial⟩), fun post hp => ?_⟩
  have hq := m_run (Q := fun r T1 => ∃ T', RMr (runA 121 (st A (600 * (k + 1)))) T' ∧ ((T'.1 14 = 0 → r = 0 ∧ T1 = (upd T'.1 1 0, T'.2)) ∧ (¬ T'.1 14 = 0 → r = (-1000) * T'.1 14 - T'.1 3 ∧ T1 = (upd (upd (upd (upd (upd T'.1 1 0) 6 0) 8 0) 25 0) 21 0, T'.2)))) hM hC hcs hB hB1 (fun T' hT => ⟨fun e => ⟨T', hT, fun _ => ⟨rfl, rfl⟩, fun n => absurd e n⟩, fun e => ⟨T', hT, fun n => absurd n e, fun _ => ⟨rfl, rfl⟩⟩⟩)
  obtain ⟨x, ⟨T', hT', hx0, hx1⟩, hP, -⟩ := dt_wp_M_run _ _ hq hp
  have hP : ∀ S1 : StC, Sim (k + 1) g S1 x.2 → post x.1 S1 := hP
  have hX := hM.txO
  have hO := runA_ok 121 (st A (600 * (k + 1))) (st_cd hC hcs) hcs hX
  refine c_run hR hC hcs hX hM.txB hB hB1 (fun ρ' S' c z hF => ?_)
  generalize runA 121 (st A (600 * (k + 1))) = r at hT' hF hO ⊢
  have hpb : r.2.pb = 600 * (k + 1) := hO.u2
  have hbt : r.2.bt = [] := hO.u5
  refine ⟨fun e => ?_, fun e => ?_⟩
  · have hm := hT'.1 e
    obtain ⟨p', t', hc⟩ := hF.1 e
    obtain ⟨x0, x1⟩ := hx0 hm.err
    obtain ⟨c1, c2⟩ := hO.u3 e
    rw [x0, x1] at hP
    refine hP S' ⟨(Ab.set_pos (Ab.set_tx r.2 ([])) (0)), ρ', p', t', r.2.tx, ?_, c2, ?_, ?_, ?_⟩
    · have := hm.prB
      show r.2.pr ≤ _
      omega
    · exact CD.of c2 c1.ws c1.fu c1.wl c1.nms c1.dr
    · exact (RM.mk (hm.hereE) (hm.hereB) (hm.memE) (hm.prE) (hm.prB) (hm.pbB) (hm.outE) (hm.fuE) (hm.blkE) (hm.hasE) (hm.hasB) (hm.upE) (hm.toldE) (hm.toldB) (hm.upB) (hm.toldH) (hm.madeE) (hm.madeB) (hm.wsE) (hm.namE) (rfl) (Nat.zero_le _) (fun i c hc => absurd (get_lt hc) (Nat.not_lt_zero _)) (fun c hc => absurd hc List.not_mem_nil) (rfl) (Nat.zero_le _) (hm.tkE) (hm.tlE) (rfl) (hm.dsE) (hm.dsB) (hm.dsS) (hm.rsE) (hm.rsB) (hm.rsS) (hm.csE) (hm.csB) (hm.csS) (hm.csW) (hm.drE) (hm.drW) (hm.opE) (hm.opB) (hm.opK) (hm.opA))
    · exact (RC.mk (hc.kHere) (hc.kHereB) (hc.kMem) (hc.kPr) (hc.kPrB) (hc.kPbB) (hc.kOut) (hc.kFu) (hc.kHas) (hc.kHasB) (hc.kUp) (hc.kUpB) (hc.kTold) (hc.kToldB) (hc.kToldH) (hc.kMade) (hc.kMadeB) (hc.kWs) (hc.kRows) (hc.kLay) (hc.kPos) (hc.kTk) (hc.kTx) (by
          have := hc.kBt
          have this : BldAt g (S'.1 0) (S'.1 2) (S'.2.2.1 0) S'.2.2.2.2.2.1 S'.2.2.2.2.2.2 ρ' r.2.bt := this
          rw [hbt] at this
          exact this) (hc.kG) (hc.kDs) (hc.kDsB) (hc.kDsS) (hc.kRs) (hc.kRsB) (hc.kRsS) (hc.kCs) (hc.kCsB) (hc.kCsS) (hc.kDr0) (hc.kDr) (hc.kOp) (hc.kOpB) (hc.kOpK) (hc.kOpA))
  · obtain ⟨hm, he⟩ := hT'.2 e
    have hc := hF.2 e
    obtain ⟨x0, x1⟩ := hx1 (by rw [he]; exact e)
    have c1 := hO.u4
    have ep : T'.1 3 = S'.1 4 := hm.tkE.trans hc.kTk.symm
    rw [x0, x1, he, ep] at hP
    refine hP _ ⟨(Ab.set_pos (Ab.set_tx (clr r.2) ([])) (0)), ρ', r.2.pos, r.2.tk, r.2.tx, ?_, rfl, ?_, ?_, ?_⟩
    · have := hm.prB
      show r.2.pr ≤ _
      omega
    · exact CD.of rfl c1.s1 c1.s2 c1.s3 c1.s4 (fun w hw => by cases hw)
    · exact (RM.mk (hm.hereE) (hm.hereB) (hm.memE) (hm.prE) (hm.prB) (hm.pbB) (hm.outE) (hm.fuE) (hm.blkE) (hm.hasE) (hm.hasB) (hm.upE) (hm.toldE) (hm.toldB) (hm.upB) (hm.toldH) (hm.madeE) (hm.madeB) (hm.wsE) (hm.namE) (rfl) (Nat.zero_le _) (fun i c hc => absurd (get_lt hc) (Nat.not_lt_zero _)) (fun c hc => absurd hc List.not_mem_nil) (rfl) (Nat.zero_le _) (hm.tkE) (hm.tlE) (rfl) (rfl) (Nat.zero_le _) (trivial) (rfl) (Nat.zero_le _) (trivial) (rfl) (Nat.zero_le _) (trivial) (fun fr hf => absurd hf List.not_mem_nil) (rfl) (fun w hw => (by cases hw)) (fun n => absurd rfl n) (Nat.zero_le _) (fun n => absurd rfl n) (fun n => absurd rfl n))
    · exact (RC.mk (hc.kHere) (hc.kHereB) (hc.kMem) (hc.kPr) (hc.kPrB) (hc.kPbB) (hc.kOut) (hc.kFu) (hc.kHas) (hc.kHasB) (hc.kUp) (hc.kUpB) (hc.kTold) (hc.kToldB) (hc.kToldH) (hc.kMade) (hc.kMadeB) (hc.kWs) (hc.kRows) (hc.kLay) (hc.kPos) (hc.kTk) (hc.kTx) (by
          have := hc.kBt
          rw [hbt] at this
          exact this) (hc.kG) (rfl) (Nat.zero_le _) (trivial) (rfl) (Nat.zero_le _) (trivial) (rfl) (Nat.zero_le _) (trivial) (fun _ => va_up_self S'.2.2.2.1 0 none) (fun w hw => (by cases hw)) (fun n => absurd rfl n) (Nat.zero_le _) (fun n => absurd rfl n) (fun n => absurd rfl n))
