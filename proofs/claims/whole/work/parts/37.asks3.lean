theorem i32_mul {x y : Int32} (h : -1000000 ≤ x.toInt * y.toInt ∧ x.toInt * y.toInt ≤ 1000000) : (x * y).toInt = x.toInt * y.toInt := by
  rw [Int32.toInt_mul]
  exact Int.bmod_eq_of_le (by omega) (by omega)
theorem bk_disk {g : Gm} {S : StC} {T : StM} {post : Int32 → StC → Prop} {a0 a1 : Int32} (e0 : ∀ i : Nat, i < 4 → ∃ (r : Nat) (f : Nat → Int32), S.2.2.2.2.1 3 i = some r ∧ r ∈ S.2.2.2.2.2.1 ∧ S.2.2.2.2.2.2 r = .inl (g.2.1 0, 16, .inl f) ∧ ∀ j : Nat, j < 16 → f j = T.2.1 31 (16 * i + j)) (h : wp_M_disk (fun r T1 => T1 = T → post r S) T a0 a1) : wp_W_disk g post S a0 a1 := by
  unfold wp_M_disk wp_M_in wq_M_in_14 wq_M_in_15 wq_M_disk_33 wq_M_disk_34 at h
  unfold wp_W_disk wp_Me_onDisk wp_Me_hasBlock wq_Me_hasBlock_13 wq_Me_hasBlock_14 wq_Me_onDisk_29 wq_Me_onDisk_30
  have k0 : (0 : Int32).toInt = 0 := rfl
  have k3 : (3 : Int32).toInt = 3 := rfl
  have k4 : (4 : Int32).toInt = 4 := rfl
  have k15 : (15 : Int32).toInt = 15 := rfl
  have k16 : (16 : Int32).toInt = 16 := rfl
  refine ⟨fun n => ?_, fun p => ⟨fun n => ?_, fun q => ?_⟩⟩
  · exact ⟨rfl, fun _ => ((h.1 n).2).1 rfl rfl, fun n => absurd rfl n⟩
  · exact ⟨rfl, fun _ => (((h.2 p).1 (by
      rw [Int32.le_iff_toInt_le] at n
      rw [Int32.lt_iff_toInt_lt]
      omega)).2).1 rfl rfl, fun n => absurd rfl n⟩
  · have h5 := (((h.2 p).2 (by
      rw [Int32.le_iff_toInt_le] at q
      rw [Int32.lt_iff_toInt_lt]
      omega)).2).2 (by decide)
    refine ⟨rfl, fun n => absurd n (by decide), fun _ => ⟨fun n => ((h5.1 n).2).1 rfl rfl, fun p1 => ⟨fun n => (((h5.2 p1).1 (by
      rw [Int32.le_iff_toInt_le] at n
      rw [Int32.lt_iff_toInt_lt]
      omega)).2).1 rfl rfl, fun q1 => ?_⟩⟩⟩
    have h6 := (((h5.2 p1).2 (by
      rw [Int32.le_iff_toInt_le] at q1
      rw [Int32.lt_iff_toInt_lt]
      omega)).2).2 (by decide)
    have p' : ¬ a0.toInt < 0 := fun z => p (by rw [Int32.lt_iff_toInt_lt]; exact z)
    have p1' : ¬ a1.toInt < 0 := fun z => p1 (by rw [Int32.lt_iff_toInt_lt]; exact z)
    rw [Int32.le_iff_toInt_le] at q q1
    have l0 : a0.toNatClampNeg < 4 := by
      show a0.toInt.toNat < 4
      omega
    have l1 : a1.toNatClampNeg < 16 := by
      show a1.toInt.toNat < 16
      omega
    have em : (16 * a0).toInt = 16 * a0.toInt := by
      rw [i32_mul (by rw [k16]; omega), k16]
    have ei : (16 * a0 + a1).toInt = 16 * a0.toInt + a1.toInt := by
      rw [i32_add (by omega) (by omega), em]
    have en : (16 * a0 + a1).toNatClampNeg = 16 * a0.toNatClampNeg + a1.toNatClampNeg := by
      show (16 * a0 + a1).toInt.toNat = 16 * a0.toInt.toNat + a1.toInt.toNat
      omega
    obtain ⟨r, f, f1, f2, f3, f4⟩ := e0 _ l0
    refine ⟨?_, r, f1, 16, f, f2, f3, ?_, ?_⟩
    · rintro (z | z)
      · exact p z
      · omega
    · rintro (z | z)
      · exact p1 z
      · omega
    · rw [f4 _ l1, ← en]
      exact h6.2 rfl
theorem bk_items {g : Gm} {S : StC} {T : StM} {post : Int32 → StC → Prop} {a0 : Int32} (e0 : S.1 12 = T.1 20) (hs : 0 ≤ (T.1 20).toInt ∧ (T.1 20).toInt ≤ 24) (e1 : ∀ i : Nat, (i : Int) < (T.1 20).toInt → ∃ (r : Nat) (vs : List Value), S.2.2.2.2.1 0 i = some r ∧ r ∈ S.2.2.2.2.2.1 ∧ S.2.2.2.2.2.2 r = .inr (11, vs) ∧ vs[3]? = some (.int (T.2.1 17 i))) (h : wp_M_items (fun r T1 => T1 = T → post r S) T a0) : wp_W_items g post S a0 := by
  unfold wp_M_items wp_M_in wq_M_in_14 wq_M_in_15 wq_M_items_29 at h
  unfold wp_W_items wp_Di_word wq_Di_word_21 wq_Di_word_22 wq_Di_word_40 wq_W_items_27
  have k99 : (99 : Int32).toInt = 99 := rfl
  have k100 : (100 : Int32).toInt = 100 := rfl
  have e99 : (99 + T.1 20).toInt = 99 + (T.1 20).toInt := by
    rw [i32_add (by omega) (by omega), k99]
  have e100 : (100 + T.1 20).toInt = 100 + (T.1 20).toInt := by
    rw [i32_add (by omega) (by omega), k100]
  rw [e0]
  refine ⟨fun n => ?_, fun p => ⟨fun n => ?_, fun q => ?_⟩⟩
  · exact ⟨fun _ => ⟨fun _ => ((h.1 n).2).1 rfl rfl, fun y hy => by cases hy⟩, fun n => absurd rfl n⟩
  · exact ⟨fun _ => ⟨fun _ => (((h.2 p).1 (by
      rw [Int32.le_iff_toInt_le] at n
      rw [Int32.lt_iff_toInt_lt]
      omega)).2).1 rfl rfl, fun y hy => by cases hy⟩, fun n => absurd rfl n⟩
  · have h5 := (((h.2 p).2 (by
      rw [Int32.le_iff_toInt_le] at q
      rw [Int32.lt_iff_toInt_lt]
      omega)).2).2 (by decide)
    rw [Int32.lt_iff_toInt_lt] at p
    rw [Int32.le_iff_toInt_le] at q
    have es : (a0 - 100).toInt = a0.toInt - 100 := by
      rw [i32_sub (by omega) (by omega), k100]
    have hn : ((a0 - 100).toNatClampNeg : Int) < (T.1 20).toInt := by
      show (((a0 - 100).toInt.toNat : Nat) : Int) < _
      omega
    obtain ⟨r, vs, f1, f2, f3, f4⟩ := e1 _ hn
    refine ⟨fun n => absurd n (by decide), fun _ => ⟨?_, ?_⟩⟩
    · rintro (z | z)
      · rw [Int32.lt_iff_toInt_lt] at z
        have k0 : (0 : Int32).toInt = 0 := rfl
        omega
      · omega
    · rw [f1]
      refine ⟨fun z => (by cases z), fun y hy => ?_⟩
      cases hy
      exact ⟨vs, _, f2, f3, f4, h5.2 rfl⟩
