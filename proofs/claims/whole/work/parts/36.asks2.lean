theorem i32_sub {x y : Int32} (h1 : -1000000 ≤ x.toInt ∧ x.toInt ≤ 1000000) (h2 : -1000000 ≤ y.toInt ∧ y.toInt ≤ 1000000) : (x - y).toInt = x.toInt - y.toInt := by
  rw [Int32.toInt_sub]
  exact Int.bmod_eq_of_le (by omega) (by omega)
theorem i32_add {x y : Int32} (h1 : -1000000 ≤ x.toInt ∧ x.toInt ≤ 1000000) (h2 : -1000000 ≤ y.toInt ∧ y.toInt ≤ 1000000) : (x + y).toInt = x.toInt + y.toInt := by
  rw [Int32.toInt_add]
  exact Int.bmod_eq_of_le (by omega) (by omega)
theorem bk_out {g : Gm} {S : StC} {T : StM} {post : Int32 → StC → Prop} {a0 : Int32} (e0 : S.1 6 = T.1 11) (e1 : ∀ i : Nat, i < 40 → (i : Int) < (T.1 11).toInt → S.2.1 5 i = T.2.1 12 i) (h : wp_M_out (fun r T1 => T1 = T → post r S) T a0) : wp_W_out g post S a0 := by
  unfold wp_M_out wp_M_in wq_M_in_14 wq_M_in_15 wq_M_out_27 wq_M_out_28 at h
  unfold wp_W_out wq_W_out_30 wq_W_out_31 wq_W_out_46
  have k40 : (40 : Int32).toInt = 40 := rfl
  have k39 : (39 : Int32).toInt = 39 := rfl
  refine ⟨fun n => ?_, fun p => ⟨fun n => ?_, fun q => ?_⟩⟩
  · exact ⟨fun _ => ((h.1 n).2).1 rfl rfl, fun n => absurd rfl n⟩
  · exact ⟨fun _ => (((h.2 p).1 (by
      rw [Int32.le_iff_toInt_le] at n
      rw [Int32.lt_iff_toInt_lt]
      omega)).2).1 rfl rfl, fun n => absurd rfl n⟩
  · have h5 := (((h.2 p).2 (by
      rw [Int32.le_iff_toInt_le] at q
      rw [Int32.lt_iff_toInt_lt]
      omega)).2).2 (by decide)
    rw [e0]
    refine ⟨fun n => ⟨fun _ => h5.1 n rfl, fun n => absurd rfl n⟩, fun n => ⟨fun z => absurd z (by decide), fun _ => ?_⟩⟩
    have h6 := h5.2 n
    refine ⟨h6.1, ?_⟩
    have hlt : a0.toNatClampNeg < 40 := Nat.not_le.mp fun z => h6.1 (Or.inr z)
    have hp : ¬ a0.toInt < 0 := fun z => p (by rw [Int32.lt_iff_toInt_lt]; exact z)
    rw [e1 _ hlt (by
      rw [Int32.le_iff_toInt_le] at n
      show ((a0.toInt.toNat : Nat) : Int) < _
      omega)]
    exact h6.2 rfl
theorem bk_stack {g : Gm} {S : StC} {T : StM} {post : Int32 → StC → Prop} {a0 : Int32} (e0 : S.1 8 = T.1 6) (hs : 0 ≤ (T.1 6).toInt ∧ (T.1 6).toInt ≤ 24) (e1 : ∀ i : Nat, (i : Int) < (T.1 6).toInt → S.2.1 0 i = T.2.1 5 i) (h : wp_M_stack (fun r T1 => T1 = T → post r S) T a0) : wp_W_stack g post S a0 := by
  unfold wp_M_stack wp_M_in wq_M_in_14 wq_M_in_15 wq_M_stack_23 wp_M_top at h
  unfold wp_W_stack wp_Nd_fromTop wq_Nd_fromTop_28 wq_Nd_fromTop_29
  have k1 : (1 : Int32).toInt = 1 := rfl
  have k0 : (0 : Int32).toInt = 0 := rfl
  have es : (T.1 6 - 1).toInt = (T.1 6).toInt - 1 := by
    rw [i32_sub (by omega) (by omega), k1]
  rw [e0]
  refine ⟨fun n => ((h.1 n).2).1 rfl rfl, fun p => ⟨fun n => (((h.2 p).1 (by
      rw [Int32.le_iff_toInt_le] at n
      rw [Int32.lt_iff_toInt_lt]
      omega)).2).1 rfl rfl, fun q => ?_⟩⟩
  have h5 := (((h.2 p).2 (by
      rw [Int32.le_iff_toInt_le] at q
      rw [Int32.lt_iff_toInt_lt]
      omega)).2).2 (by decide)
  refine ⟨h5.1, ?_⟩
  rw [Int32.lt_iff_toInt_lt, k0] at p
  rw [Int32.le_iff_toInt_le] at q
  have e2 : (T.1 6 - 1 - a0).toInt = (T.1 6).toInt - 1 - a0.toInt := by
    rw [i32_sub (by omega) (by omega), es]
  rw [e1 _ (by
    show (((T.1 6 - 1 - a0).toInt.toNat : Nat) : Int) < _
    omega)]
  exact h5.2 rfl
theorem bk_buffer {g : Gm} {S : StC} {T : StM} {post : Int32 → StC → Prop} {a0 : Int32} (e0 : ∀ i : Nat, i < 2 → S.2.1 3 i = T.2.1 32 i) (e1 : ∀ i : Nat, i < 2 → S.2.1 4 i = T.2.1 33 i) (hs : ∀ i : Nat, i < 2 → (T.2.1 32 i < 0 ↔ T.2.1 32 i = -1)) (h : wp_M_buffer (fun r T1 => T1 = T → post r S) T a0) : wp_W_buffer g post S a0 := by
  unfold wp_M_buffer wp_M_in wq_M_in_14 wq_M_in_15 wq_M_buffer_45 wq_M_buffer_41 wq_M_buffer_46 at h
  unfold wp_W_buffer wp_Me_bufferState wq_Me_bufferState_19 wq_Me_bufferState_44
  have k1 : (1 : Int32).toInt = 1 := rfl
  have k2 : (2 : Int32).toInt = 2 := rfl
  refine ⟨fun n => ((h.1 n).2).1 rfl rfl, fun p => ⟨fun n => (((h.2 p).1 (by
      rw [Int32.le_iff_toInt_le] at n
      rw [Int32.lt_iff_toInt_lt]
      omega)).2).1 rfl rfl, fun q => ?_⟩⟩
  have h5 := (((h.2 p).2 (by
      rw [Int32.le_iff_toInt_le] at q
      rw [Int32.lt_iff_toInt_lt]
      omega)).2).2 (by decide)
  have hlt : a0.toNatClampNeg < 2 := Nat.not_le.mp fun z => h5.1 (Or.inr z)
  rw [e0 _ hlt, e1 _ hlt]
  refine ⟨h5.1, fun n => h5.2.1 ((hs _ hlt).mpr n) rfl, fun n => ?_⟩
  have h6 := h5.2.2 (fun z => n ((hs _ hlt).mp z))
  exact ⟨h6.1, h6.2.1, fun z => h6.2.2.1 z rfl, fun z => h6.2.2.2 z rfl⟩
