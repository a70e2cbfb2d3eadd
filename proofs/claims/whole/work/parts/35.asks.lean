theorem bk_count {g : Gm} {S : StC} {T : StM} {post : Int32 → StC → Prop} {a0 : Int32} (e0 : S.1 8 = T.1 6) (e1 : S.1 9 = T.1 8) (e2 : S.1 6 = T.1 11) (e3 : S.1 12 = T.1 20) (e4 : S.1 10 = T.1 10) (e5 : S.2.2.2.1 0 = none ↔ T.1 21 = 0) (e6 : S.1 7 = T.1 13) (h : wp_M_count (fun r T1 => T1 = T → post r S) T a0) : wp_W_count g post S a0 := by
  unfold wp_M_count at h
  unfold wp_W_count
  refine ⟨fun e => ?_, fun n0 => ⟨fun e => ?_, fun n1 => ⟨fun e => ?_, fun n2 => ⟨fun e => ?_, fun n3 => ⟨fun e => ?_, fun n4 => ⟨fun e => ?_, fun n5 => ⟨fun e => ?_, fun n6 => ?_⟩⟩⟩⟩⟩⟩⟩
  · subst e
    rw [e0]
    exact (h.2 (by decide)).1 rfl rfl
  · subst e
    rw [e1]
    exact ((h.2 (by decide)).2 (by decide)).1 rfl rfl
  · subst e
    rw [e2]
    exact (((h.2 (by decide)).2 (by decide)).2 (by decide)).1 rfl rfl
  · subst e
    rw [e3]
    exact ((((h.2 (by decide)).2 (by decide)).2 (by decide)).2 (by decide)).1 rfl rfl
  · subst e
    rw [e4]
    exact (h.1 (by decide)).1 rfl rfl
  · subst e
    have h5 := ((h.1 (by decide)).2 (by decide)).1 rfl
    refine ⟨fun hn => ⟨rfl, ⟨fun _ => h5.1 (e5.mp hn) rfl, fun n => absurd rfl n⟩⟩, fun y hy => ⟨rfl, ⟨fun n => absurd n (by decide), fun _ => h5.2 (fun hz => ?_) rfl⟩⟩⟩
    rw [e5.mpr hz] at hy
    cases hy
  · subst e
    rw [e6]
    exact (((h.1 (by decide)).2 (by decide)).2 (by decide)).1 rfl rfl
  · by_cases h4 : 4 ≤ a0
    · exact (((h.1 h4).2 n4).2 n5).2 n6 rfl
    · exact ((((h.2 h4).2 n0).2 n1).2 n2).2 n3 rfl
theorem tt_count {T : StM} {a0 : Int32} : wp_M_count (fun _ _ => True) T a0 := by
  unfold wp_M_count
  simp [wq_M_count_100, wq_M_count_53]
theorem bk_cell {g : Gm} {S : StC} {T : StM} {post : Int32 → StC → Prop} {a0 : Int32} (e0 : ∀ i, i < 96 → S.2.1 2 i = T.2.1 9 i) (h : wp_M_cell (fun r T1 => T1 = T → post r S) T a0) : wp_W_cell g post S a0 := by
  unfold wp_M_cell wp_M_in wq_M_in_14 wq_M_in_15 wq_M_cell_20 at h
  unfold wp_W_cell wp_Me_fetch wp_Me_has wq_Me_has_14 wq_Me_has_15 wq_Me_fetch_18
  refine ⟨fun n => ?_, fun p => ⟨fun n => ?_, fun q => ?_⟩⟩
  · exact ⟨rfl, fun _ => ((h.1 n).2).1 rfl rfl, fun n => absurd rfl n⟩
  · exact ⟨rfl, fun _ => (((h.2 p).1 (by
      rw [Int32.le_iff_toInt_le] at n
      rw [Int32.lt_iff_toInt_lt]
      have h1 : (96 : Int32).toInt = 96 := rfl
      have h2 : (95 : Int32).toInt = 95 := rfl
      omega)).2).1 rfl rfl, fun n => absurd rfl n⟩
  · have h5 := (((h.2 p).2 (by
      rw [Int32.le_iff_toInt_le] at q
      rw [Int32.lt_iff_toInt_lt]
      have h1 : (96 : Int32).toInt = 96 := rfl
      have h2 : (95 : Int32).toInt = 95 := rfl
      omega)).2).2 (by decide)
    refine ⟨rfl, fun n => absurd n (by decide), fun _ => ⟨h5.1, ?_⟩⟩
    rw [e0 _ (Nat.not_le.mp fun z => h5.1 (Or.inr z))]
    exact h5.2 rfl
