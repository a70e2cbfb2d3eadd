theorem compR_pos (A : Ab) (w : Wd) (kd : Nat) (num : Int32) (op : List (Nat × Nat)) (f : Wd → Wd) : (compR A w kd num op f).2.pos = A.pos := by
  unfold compR
  split <;> rfl
theorem ctl_pos (t : Nat) (A : Ab) : (ctl t A).2.pos = A.pos := by
  unfold ctl
  split
  · rfl
  · unfold ctlW
    split <;> repeat' (first | rfl | exact compR_pos .. | split)
theorem parA_le {A : Ab} {t : Nat} (h : A.pos ≤ A.tx.length) : (parA t A).2.pos ≤ A.tx.length := by
  cases hd : A.dr with
  | some w =>
    have e : parA t A = (6, A) := by rw [parA, hd]
    rw [e]
    exact h
  | none =>
    by_cases ht : t = 36
    · unfold parA
      rw [hd]
      dsimp only
      rw [if_pos ht]
      split <;> exact h
    · rw [parA_pos hd ht]
      exact nextT_le h
theorem rdT_le {A : Ab} {l : List Int32} (h : A.pos ≤ A.tx.length) : (rdT A l).2.pos ≤ A.tx.length := by
  unfold rdT
  split
  · split
    · rw [compR_pos]
      exact h
    · rw [(kp_push A _).ps]
      exact h
  · split
    · exact h
    · rename_i t ef
      have ht := findA_lt ef
      split
      · exact parA_le h
      · split
        · rw [ctl_pos]
          exact h
        · rename_i c2 c3
          have hT : t = 31 ∨ okT A.ws.length t := by unfold okT; omega
          split
          · split
            · rw [(kp_P hT).ps]
              exact h
            · rw [compR_pos]
              exact h
          · rw [(kp_P hT).ps]
            exact h
theorem readA_le {A : Ab} (h : A.pos ≤ A.tx.length) : (readA A).2.pos ≤ A.tx.length := by
  unfold readA
  split
  · exact h
  · exact rdT_le (A := (Ab.set_fu A (A.fu - 1))) h
theorem readA_ge {A : Ab} : A.pos ≤ (readA A).2.pos := by
  unfold readA
  split
  · exact Nat.le_refl _
  · exact (adv_rdT (Ab.set_fu A (A.fu - 1)) (tokL A)).2.1
theorem readA_mea {A : Ab} (h : CD A) (hcs : A.cs = []) (hX : ∀ c ∈ A.tx, okB c) (e : (readA A).1 = 0) : mea (readA A).2 ≤ 1300 := by
  have hc := readA_cd h hcs hX e
  have hcs1 : (readA A).2.cs.length ≤ 1 := by
    unfold readA
    split
    · rw [hcs]
      simp
    · exact rdT_cs (A := (Ab.set_fu A (A.fu - 1))) hcs
  have := hc.fu
  unfold mea
  omega
theorem tokA_pos {A : Ab} (h : CD A) (hcs : A.cs = []) (hX : ∀ c ∈ A.tx, okB c) : (tokA A).2.pos = (readA A).2.pos := by
  unfold tokA
  by_cases e : (readA A).1 = 0
  · rw [if_pos e]
    exact (finA_co 1300 _ (readA_cd h hcs hX e).toCO (readA_mea h hcs hX e)).2.2.2.2.2
  · rw [if_neg e]
theorem nextT_tk (A : Ab) (t : Nat) : nextT (Ab.set_tk A (t)) = nextT A := by
  funext i
  match i with
  | 0 => rfl
  | 1 => rfl
  | 2 => rfl
  | 3 => rfl
  | 4 => rfl
  | 5 => rfl
  | 6 => rfl
  | 7 => rfl
  | 8 => rfl
  | 9 => rfl
  | 10 => rfl
  | 11 => rfl
  | 12 => rfl
  | 13 => rfl
  | 14 => rfl
  | 15 => rfl
  | 16 => rfl
  | 17 => rfl
  | 18 => rfl
  | 19 => rfl
  | 20 => rfl
  | n + 21 => rfl
theorem runA_tk (n : Nat) (A : Ab) (t : Nat) : runA (n + 1) (Ab.set_tk A (t)) = runA (n + 1) A := by
  rw [runA, runA, nextT_tk]
/-- what the class's run comes to -/
def FinC (g : Gm) (ρ : Nat → Nat × Nat) (r : Int32 × Ab) (S : StC) : Prop := (r.1 = 0 → ∃ p t, RC g ρ (Ab.set_tk (Ab.set_pos r.2 (p)) (t)) S) ∧ (r.1 ≠ 0 → RCw g ρ r.2 S)
theorem c_runs {g : Gm} {post : Int32 → StC → Prop} : ∀ (n : Nat) (ρ : Nat → Nat × Nat) (A : Ab) (S : StC) (kk c0 z0 : Nat), RC g ρ A S → CD A → A.cs = [] → (∀ c ∈ A.tx, okB c) → A.tx.length ≤ 120 → A.pos ≤ A.tx.length → A.tx.length - A.pos < n → kk ≤ A.pos → c0 ≤ 2 + 5 * A.pos → z0 ≤ 124 + 68 * A.pos → (∀ ρ' S' c z, FinC g ρ' (runA n A) S' → wq_W_run_75 g post 700 8400 S' (runA n A).1 c z) → wq_W_run_26 g post 700 8400 (n + 1) S 0 (Int32.ofNat kk) c0 z0 := by
  intro n
  induction n with
  | zero =>
    intro ρ A S kk c0 z0 h hC hcs hX hX1 hpos hn
    omega
  | succ n ih =>
    intro ρ A S kk c0 z0 h hC hcs hX hX1 hpos hn hkk hc0 hz0 k
    have hN : CD (nextT A) := CD.of hcs hC.ws hC.fu hC.wl hC.nms hC.dr
    have hT := tokA_ok hN hcs hX
    have hle := nextT_le hpos
    have q3 : A.pos ≤ tkO A := by unfold tkO; omega
    have zero : tlO A = 0 → ∀ ρ1 S1 p t c z, RC g ρ1 (Ab.set_tk (Ab.set_pos A (p)) (t)) S1 → wq_W_run_75 g post 700 8400 S1 0 c z := by
      intro e ρ1 S1 p t c z h1
      have er : runA (n + 1) A = (0, nextT A) := by rw [runA, if_pos (show (nextT A).tl = 0 from e)]
      rw [er] at k
      exact k ρ1 S1 c z ⟨fun _ => ⟨p, t, (RC.mk (h1.kHere) (h1.kHereB) (h1.kMem) (h1.kPr) (h1.kPrB) (h1.kPbB) (h1.kOut) (h1.kFu) (h1.kHas) (h1.kHasB) (h1.kUp) (h1.kUpB) (h1.kTold) (h1.kToldB) (h1.kToldH) (h1.kMade) (h1.kMadeB) (h1.kWs) (h1.kRows) (h1.kLay) (h1.kPos) (h1.kTk) (h1.kTx) (h1.kBt) (h1.kG) (h1.kDs) (h1.kDsB) (h1.kDsS) (h1.kRs) (h1.kRsB) (h1.kRsS) (h1.kCs) (h1.kCsB) (h1.kCsS) (h1.kDr0) (h1.kDr) (h1.kOp) (h1.kOpB) (h1.kOpK) (h1.kOpA))⟩, fun w => absurd rfl w⟩
    refine ⟨fun z => ?_, fun z => ⟨fun _ => ⟨2, 4 + tlO A, by omega, by omega, c_adv h hX1 hpos (fun ρ1 S1 h1 ht => ⟨fun z1 => ?_, fun z1 => ?_⟩)⟩, fun q => absurd rfl q⟩⟩
    · rw [r_le (by decide) (by omega)] at z
      exact zero (by omega) ρ S A.pos A.tk _ _ (RC.mk (h.kHere) (h.kHereB) (h.kMem) (h.kPr) (h.kPrB) (h.kPbB) (h.kOut) (h.kFu) (h.kHas) (h.kHasB) (h.kUp) (h.kUpB) (h.kTold) (h.kToldB) (h.kToldH) (h.kMade) (h.kMadeB) (h.kWs) (h.kRows) (h.kLay) (h.kPos) (h.kTk) (h.kTx) (h.kBt) (h.kG) (h.kDs) (h.kDsB) (h.kDsS) (h.kRs) (h.kRsB) (h.kRsS) (h.kCs) (h.kCsB) (h.kCsS) (h.kDr0) (h.kDr) (h.kOp) (h.kOpB) (h.kOpK) (h.kOpA))
    · have e : tlO A = 0 := by
        rcases Nat.eq_zero_or_pos (tlO A) with q | q
        · exact q
        · rw [decide_eq_true q] at z1
          exact absurd z1 (by decide)
      exact zero e ρ1 S1 (nextT A).pos (nextT A).tk _ _ (RC.mk (h1.kHere) (h1.kHereB) (h1.kMem) (h1.kPr) (h1.kPrB) (h1.kPbB) (h1.kOut) (h1.kFu) (h1.kHas) (h1.kHasB) (h1.kUp) (h1.kUpB) (h1.kTold) (h1.kToldB) (h1.kToldH) (h1.kMade) (h1.kMadeB) (h1.kWs) (h1.kRows) (h1.kLay) (h1.kPos) (h1.kTk) (h1.kTx) (h1.kBt) (h1.kG) (h1.kDs) (h1.kDsB) (h1.kDsS) (h1.kRs) (h1.kRsB) (h1.kRsS) (h1.kCs) (h1.kCsB) (h1.kCsS) (h1.kDr0) (h1.kDr) (h1.kOp) (h1.kOpB) (h1.kOpK) (h1.kOpA))
    · have e : 0 < tlO A := by
        rcases Nat.eq_zero_or_pos (tlO A) with q | q
        · rw [decide_eq_false (by omega)] at z1
          exact absurd rfl z1
        · exact q
      have eP : (nextT A).pos = tkO A + tlO A := rfl
      have eX : (nextT A).tx = A.tx := rfl
      have b1 : (readA (nextT A)).2.pos ≤ A.tx.length := readA_le (A := nextT A) hle
      have b2 : tkO A + tlO A ≤ (readA (nextT A)).2.pos := readA_ge (A := nextT A)
      have b3 : (tokA (nextT A)).2.pos = (readA (nextT A)).2.pos := tokA_pos hN hcs hX
      have er : runA (n + 1) A = if (tokA (nextT A)).1 = 0 then runA n (tokA (nextT A)).2 else tokA (nextT A) := by rw [runA, if_neg (show ¬ (nextT A).tl = 0 from fun w => absurd (show tlO A = 0 from w) (by omega))]
      rw [er] at k
      have nxt : ∀ ρ' S' c z, RCr g ρ' (tokA (nextT A)) S' → c ≤ 2 + 5 * (tokA (nextT A)).2.pos → z ≤ 124 + 68 * (tokA (nextT A)).2.pos → wq_W_run_26 g post 700 8400 (n + 1) S' (tokA (nextT A)).1 (Int32.ofNat kk + 1) c z := by
        intro ρ' S' c z hr hc hz
        by_cases e0 : (tokA (nextT A)).1 = 0
        · rw [if_pos e0] at k
          obtain ⟨c1, c2⟩ := hT.t4 e0
          have q1 : (tokA (nextT A)).2.tx = A.tx := hT.t1
          rw [e0, of_succ]
          exact ih ρ' _ S' (kk + 1) c z (hr.1 e0) c1 c2 (by rw [q1]; exact hX) (by rw [q1]; exact hX1) (by rw [q1]; omega) (by rw [q1]; omega) (by omega) hc hz k
        · rw [if_neg e0] at k
          have K := fun c z => k ρ' S' c z ⟨fun w => absurd w e0, hr.2⟩
          exact ⟨fun _ => K _ _, fun _ => ⟨fun w => absurd w e0, fun _ => K _ _⟩⟩
      rw [b3] at nxt
      refine ⟨3 + 5 * ((readA (nextT A)).2.pos - (nextT A).pos), 63 + 68 * ((readA (nextT A)).2.pos - (nextT A).pos), by omega, by omega, c_readTok h1 hN hcs hX1 hle hle e ht (Nat.le_refl _) (Nat.le_refl _) (fun ρ2 S2 h2 => ⟨fun e1 => ?_, fun e1 => ?_⟩)⟩
      · have et : tokA (nextT A) = finA 1300 (readA (nextT A)).2 := by rw [tokA, if_pos e1]
        rw [et] at nxt
        exact ⟨1301, c_fin 1300 _ S2 0 (h2.1 e1) (readA_cd hN hcs hX e1).toCO (readA_mea hN hcs hX e1) (by omega) (fun S3 h3 => nxt ρ2 S3 _ _ h3 (by omega) (by omega))⟩
      · have et : tokA (nextT A) = readA (nextT A) := by rw [tokA, if_neg e1]
        rw [et] at nxt
        exact nxt ρ2 S2 _ _ h2 (by omega) (by omega)
