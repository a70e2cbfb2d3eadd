theorem c_built {g : Gm} {ρ : Nat → Nat × Nat} {A : Ab} {S : StC} {post : Int32 → StC → Prop} {t : Nat} (h : RC g ρ A S) (hp : A.pr + A.fu < A.pb) (ht : t < 31 ∨ t = 37 ∨ t = 38 ∨ t = 39) (k : ∀ S', RCr g ρ (doW t A) S' → post (doW t A).1 S') : wp_Ma_lack g (fun r S1 => ((r = 0 → wp_Ma_perform g (fun S2 => post r S2) S1 (g.2.2 (100 + t))) ∧ (¬ r = 0 → post r S1))) S (g.2.2 (100 + t)) := by
  rcases ht with h1 | h1 | h1 | h1
  · match t, h1 with
    | 0, _ => exact cw_0 h k
    | 1, _ => exact cw_1 h k
    | 2, _ => exact cw_2 h k
    | 3, _ => exact cw_3 h k
    | 4, _ => exact cw_4 h k
    | 5, _ => exact cw_5 h k
    | 6, _ => exact cw_6 h k
    | 7, _ => exact cw_7 h k
    | 8, _ => exact cw_8 h k
    | 9, _ => exact cw_9 h k
    | 10, _ => exact cw_10 h k
    | 11, _ => exact cw_11 h k
    | 12, _ => exact cw_12 h k
    | 13, _ => exact cw_13 h k
    | 14, _ => exact cw_14 h k
    | 15, _ => exact cw_15 h k
    | 16, _ => exact cw_16 h k
    | 17, _ => exact cw_17 h k
    | 18, _ => exact cw_18 h hp k
    | 19, _ => exact cw_19 h k
    | 20, _ => exact cw_20 h k
    | 21, _ => exact cw_21 h k
    | 22, _ => exact cw_22 h k
    | 23, _ => exact cw_23 h k
    | 24, _ => exact cw_24 h k
    | 25, _ => exact cw_25 h k
    | 26, _ => exact cw_26 h k
    | 27, _ => exact cw_27 h k
    | 28, _ => exact cw_28 h k
    | 29, _ => exact cw_29 h k
    | 30, _ => exact cw_30 h k
    | n + 31, h1 => omega
  · subst h1
    exact cw_37 h k
  · subst h1
    exact cw_38 h k
  · subst h1
    exact cw_39 h k
/-- the word with this number, done -/
theorem c_do {g : Gm} {ρ : Nat → Nat × Nat} {A : Ab} {S : StC} {post : Int32 → StC → Prop} {t : Nat} (h : RC g ρ A S) (hp : A.pr + A.fu < A.pb) (ht : okT A.ws.length t) (k : ∀ S', RCr g ρ (doW t A) S' → post (doW t A).1 S') : wq_Ma_start_56 g post S (Int32.ofNat t) := by
  have hB := h.kMadeB
  have ht' : t < 1000 := by unfold okT at ht; omega
  unfold wq_Ma_start_56
  refine c_num (fun z => ⟨fun q => (by cases q), fun y e => ?_⟩) (fun z => ⟨fun _ => ?_, fun y e => (by cases e)⟩) (by omega)
  · cases e
    exact c_built h hp (by unfold okT at ht; omega) k
  · have h100 : 100 ≤ t ∧ t < 100 + A.ws.length := by unfold okT at ht; omega
    rw [doW_C h100.1] at k
    exact c_word h.toRCw (fun _ _ => c_begin h (by omega) k) (fun z => absurd h100 z) (by omega)
theorem c_neg {c : Int32} (h : c.toInt < 0) : c < 0 := by
  rw [Int32.lt_iff_toInt_lt]
  exact h
theorem numE_at : ∀ m, m < 52 → numE.getD m 0 = Int32.ofNat m := by decide
theorem c_isDef {g : Gm} {S : StC} {post : Int32 → StC → Prop} {t : Nat} (hG : ∀ i j, i < 52 → j < 52 → g.2.2 (100 + i) = g.2.2 (100 + j) → i = j) (ht : t < 52) (k : post (bE (decide (32 ≤ t ∧ t ≤ 36))) S) : wp_Bi_isDefining g post S (g.2.2 (100 + t)) := by
  have e32 : numE.getD 32 0 = (32 : Int32) := rfl
  have e36 : numE.getD 36 0 = (36 : Int32) := rfl
  unfold wp_Bi_isDefining wq_Bi_isDefining_30 wq_Bi_isDefining_31
  refine ⟨t, ht, rfl, ?_⟩
  rw [numE_at t ht, e32, e36, l_lt (by omega) (by decide)]
  refine ⟨fun z => ⟨rfl, ?_⟩, fun z => ⟨t, ht, rfl, ?_⟩⟩
  · rw [decide_eq_false (by omega)] at k
    exact k
  · rw [numE_at t ht, r_lt (by decide) (by omega)]
    refine ⟨fun y => ⟨rfl, ?_⟩, fun y => ⟨rfl, ?_⟩⟩
    · rw [decide_eq_false (by omega)] at k
      exact k
    · rw [decide_eq_true (by omega)] at k
      exact k
theorem c_isComp {g : Gm} {S : StC} {post : Int32 → StC → Prop} {t : Nat} (hG : ∀ i j, i < 52 → j < 52 → g.2.2 (100 + i) = g.2.2 (100 + j) → i = j) (ht : t < 52) (k : post (bE (decide (40 ≤ t))) S) : wp_Bi_isCompiling g post S (g.2.2 (100 + t)) := by
  have e40 : numE.getD 40 0 = (40 : Int32) := rfl
  unfold wp_Bi_isCompiling wq_Bi_isCompiling_18
  refine ⟨t, ht, rfl, ?_⟩
  rw [numE_at t ht, e40, l_lt (by omega) (by decide)]
  refine ⟨fun z => ⟨rfl, ?_⟩, fun z => ⟨rfl, ?_⟩⟩
  · rw [decide_eq_false (by omega)] at k
    exact k
  · rw [decide_eq_true (by omega)] at k
    exact k
/-- may the word with this number be done -/
theorem c_exec {g : Gm} {ρ : Nat → Nat × Nat} {A : Ab} {S : StC} {post : Int32 → StC → Prop} {c : Int32} {m : Nat} (h : RCw g ρ A S) (hm : A.ws.length = m) (hk : post (bE (decide (¬ c.toInt < 0 ∧ (c.toNatClampNeg = 31 ∨ okT m c.toNatClampNeg)))) S) : wp_Ma_isExecutable g post S c := by
  subst hm
  have hB := h.kMadeB
  have hG := h.kG
  have k0 : (0 : Int32).toInt = 0 := rfl
  have k52 : (52 : Int32).toInt = 52 := rfl
  have k100 : (100 : Int32).toInt = 100 := rfl
  have cE : c.toNatClampNeg = c.toInt.toNat := rfl
  have no : ∀ (hn : ¬ (¬ c.toInt < 0 ∧ (c.toNatClampNeg = 31 ∨ okT A.ws.length c.toNatClampNeg))), post 0 S := by
    intro hn
    rw [decide_eq_false hn] at hk
    exact hk
  unfold wp_Ma_isExecutable
  by_cases hneg : c.toInt < 0
  · have h1 : c < 0 := c_neg hneg
    refine ⟨fun _ => ⟨fun _ => ?_, fun y e => (by cases e)⟩, fun z => absurd h1 z⟩
    have h100 : c < 100 := by
      rw [Int32.lt_iff_toInt_lt, k100]
      omega
    refine ⟨fun _ => ⟨fun _ => ⟨fun _ => ⟨rfl, no (fun q => q.1 hneg)⟩, fun y e => (by cases e)⟩, fun z => absurd rfl z⟩, fun z => absurd h100 z⟩
  · have ec : Int32.ofNat c.toNatClampNeg = c := of_nn (by omega)
    have hlt : c.toInt < 2147483648 := by have := Int32.toInt_lt c; simpa using this
    generalize hN : c.toNatClampNeg = n at *
    by_cases hbig : n < 100000
    · rw [← ec]
      refine c_num (fun z => ⟨fun q => (by cases q), fun y e => ?_⟩) (fun z => ⟨fun _ => ?_, fun y e => (by cases e)⟩) hbig
      · cases e
        refine ⟨n, z, rfl, c_isDef hG z ?_⟩
        by_cases hd : 32 ≤ n ∧ n ≤ 36
        · rw [decide_eq_true hd]
          refine ⟨fun q => absurd q (by decide), fun _ => ⟨rfl, no (fun q => ?_)⟩⟩
          have := q.2
          unfold okT at this
          omega
        · rw [decide_eq_false hd]
          refine ⟨fun _ => ⟨n, z, rfl, c_isComp hG z ?_⟩, fun q => absurd rfl q⟩
          by_cases hc : 40 ≤ n
          · rw [decide_eq_true hc]
            refine ⟨fun q => absurd q (by decide), fun _ => ⟨rfl, no (fun q => ?_)⟩⟩
            have := q.2
            unfold okT at this
            omega
          · rw [decide_eq_false hc]
            refine ⟨fun _ => ⟨rfl, ?_⟩, fun q => absurd rfl q⟩
            rw [decide_eq_true ⟨hneg, (by unfold okT; omega)⟩] at hk
            exact hk
      · refine c_word h (fun z1 z2 => ⟨fun q => ?_, fun y e => ⟨rfl, ?_⟩⟩) (fun z1 => ⟨fun _ => ⟨rfl, no (fun q => ?_)⟩, fun y e => (by cases e)⟩) hbig
        · obtain ⟨a, ea, -⟩ := h.kWs (n - 100) A.ws[n - 100] (List.getElem?_eq_getElem (by omega))
          rw [ea] at q
          cases q
        · rw [decide_eq_true ⟨hneg, Or.inr (by unfold okT; omega)⟩] at hk
          exact hk
        · have := q.2
          unfold okT at this
          omega
    · have h1 : ¬ c < 0 := by
        rw [Int32.lt_iff_toInt_lt]
        omega
      have h52 : (52 : Int32) ≤ c := by
        rw [Int32.le_iff_toInt_le]
        omega
      have h100 : ¬ c < 100 := by
        rw [Int32.lt_iff_toInt_lt]
        omega
      have hm : 100 + S.1 12 ≤ c := by
        rw [h.kMade, show (100 : Int32) = Int32.ofNat 100 from rfl, n_add, Int32.le_iff_toInt_le, of_small (by omega)]
        omega
      refine ⟨fun z => absurd z h1, fun _ => ⟨fun _ => ⟨fun _ => ?_, fun y e => (by cases e)⟩, fun z => absurd h52 z⟩⟩
      refine ⟨fun z => absurd z h100, fun _ => ⟨fun _ => ⟨fun _ => ⟨fun _ => ⟨rfl, no (fun q => ?_)⟩, fun y e => (by cases e)⟩, fun z => absurd rfl z⟩, fun z => absurd hm z⟩⟩
      have := q.2
      unfold okT at this
      omega

theorem c_x {g : Gm} {ρ : Nat → Nat × Nat} {post : Int32 → StC → Prop} {m : Nat} : ∀ (n : Nat) (A : Ab) (S : StC) (j : Nat), RC g ρ A S → A.ws.length = m → A.pr + A.fu < A.pb → A.ds.length = n → j + n ≤ 24 → (∀ S', RCr g ρ (doX m (n + 1) A) S' → post (doX m (n + 1) A).1 S') → wq_Ma_start_4 g post (n + 2) S 31 (Int32.ofNat j) := by
  intro n
  induction n with
  | zero =>
    intro A S j h hw hp hl hj k
    have e : A.ds = [] := List.eq_nil_of_length_eq_zero hl
    have e8 : S.1 8 = 0 := by rw [h.kDs, e]; rfl
    rw [doX, e] at k
    refine ⟨fun z => ?_, fun _ => ⟨fun _ => ⟨fun _ => k _ (RCr.no (by decide) h.toRCw), fun z => absurd e8 z⟩, fun z => absurd rfl z⟩⟩
    rw [r_lt (by decide) (by omega)] at z
    omega
  | succ n ih =>
    intro A S j h hw hp hl hj k
    match hd : A.ds with
    | [] => rw [hd] at hl; simp at hl
    | c :: r =>
      have hB := h.kDsB
      have hne : ¬ S.1 8 = 0 := by
        rw [h.kDs, l_eq (by omega) (by decide)]
        omega
      rw [doX, hd] at k
      dsimp only at k
      refine ⟨fun z => ?_, fun _ => ⟨fun _ => ⟨fun z => absurd z hne, fun _ => c_pop h hd (fun S1 h1 => ?_)⟩, fun z => absurd rfl z⟩⟩
      · rw [r_lt (by decide) (by omega)] at z
        omega
      · refine c_exec h1.toRCw hw ?_
        by_cases hv : ¬ c.toInt < 0 ∧ (c.toNatClampNeg = 31 ∨ okT m c.toNatClampNeg)
        · rw [decide_eq_true hv]
          refine ⟨fun z => absurd z (by decide), fun _ => ?_⟩
          have ec : Int32.ofNat c.toNatClampNeg = c := of_nn (by omega)
          rw [if_neg hv.1] at k
          rw [of_succ]
          by_cases e31 : c.toNatClampNeg = 31
          · rw [if_pos e31] at k
            have : c = 31 := by rw [← ec, e31]; rfl
            rw [this]
            exact ih _ S1 (j + 1) h1 hw hp (show r.length = n by rw [hd] at hl; simp at hl; omega) (by omega) k
          · rw [if_neg e31] at k
            have hv2 := hv.2.resolve_left e31
            rw [if_pos hv2] at k
            have hgo := c_do h1 hp (show okT A.ws.length _ by rw [hw]; exact hv2) k
            rw [ec] at hgo
            have e31' : numE.getD 31 0 = (31 : Int32) := rfl
            rw [show n + 2 = (n + 1) + 1 from rfl]
            refine ⟨fun _ => hgo, fun _ => ⟨fun z => absurd ?_ e31, fun _ => hgo⟩⟩
            rw [z, e31']
            rfl
        · rw [decide_eq_false hv]
          refine ⟨fun _ => ?_, fun z => absurd rfl z⟩
          have hno : RCr g ρ (5, A) S1 := RCr.no (by decide) h1.toRCw
          by_cases c0 : c.toInt < 0
          · rw [if_pos c0] at k
            exact k _ hno
          · have hv3 : ¬ (c.toNatClampNeg = 31 ∨ okT m c.toNatClampNeg) := fun q => hv ⟨c0, q⟩
            rw [if_neg c0, if_neg (fun q => hv3 (Or.inl q)), if_neg (fun q => hv3 (Or.inr q))] at k
            exact k _ hno
theorem c_start {g : Gm} {ρ : Nat → Nat × Nat} {A : Ab} {S : StC} {post : Int32 → StC → Prop} {t : Nat} (h : RC g ρ A S) (hp : A.pr + A.fu < A.pb) (ht : t = 31 ∨ okT A.ws.length t) (k : ∀ S', RCr g ρ (doP t A) S' → post (doP t A).1 S') : wp_Ma_start g post S (Int32.ofNat t) := by
  have hB := h.kMadeB
  by_cases e : t = 31
  · subst e
    exact ⟨A.ds.length + 2, c_x A.ds.length A S 0 h rfl hp rfl (by have := h.kDsB; omega) k⟩
  · have ht := ht.resolve_left e
    have hlt : t < 1000 := by unfold okT at ht; omega
    rw [doP, if_neg e] at k
    have hgo := c_do h hp ht k
    refine ⟨1, fun _ => hgo, fun _ => ⟨fun z => absurd ?_ e, fun _ => hgo⟩⟩
    have e31' : numE.getD 31 0 = (31 : Int32) := rfl
    rwa [e31', l_eq (by omega) (by decide)] at z

