theorem in_small {x : Int32} {n : Nat} (h0 : 0 ≤ x.toInt) (h1 : x.toInt < n) : vp_in x n := by
  rintro (z | z)
  · rw [Int32.lt_iff_toInt_lt] at z
    have k0 : (0 : Int32).toInt = 0 := rfl
    omega
  · have z : n ≤ x.toInt.toNat := z
    omega
theorem i32_nlt {x y : Int32} (h : ¬ x < y) : y.toInt ≤ x.toInt := by
  rw [Int32.lt_iff_toInt_lt] at h
  omega
theorem i32_nle {x y : Int32} (h : ¬ x ≤ y) : y.toInt < x.toInt := by
  rw [Int32.le_iff_toInt_le] at h
  omega
theorem wt_in {post : Int32 → StM → Prop} {S : StM} {a b c : Int32} (h0 : (a < b ∨ c < a) → post 0 S) (h1 : ¬ a < b → ¬ c < a → post 1 S) : wp_M_in post S a b c := by
  unfold wp_M_in wq_M_in_14 wq_M_in_15
  exact ⟨fun h => ⟨rfl, h0 (Or.inl h)⟩, fun n => ⟨fun h => ⟨rfl, h0 (Or.inr h)⟩, fun m => ⟨rfl, h1 n m⟩⟩⟩
theorem tt_cell {T : StM} {a0 : Int32} : wp_M_cell (fun _ _ => True) T a0 := by
  unfold wp_M_cell wq_M_cell_20
  refine wt_in (fun _ => ⟨fun _ => trivial, fun n => absurd rfl n⟩) (fun p q => ⟨fun _ => trivial, fun _ => ⟨?_, trivial⟩⟩)
  have h1 := i32_nlt p
  have h2 := i32_nlt q
  have k0 : (0 : Int32).toInt = 0 := rfl
  have k1 : (95 : Int32).toInt = 95 := rfl
  exact in_small (by omega) (by omega)
theorem tt_out {T : StM} {a0 : Int32} : wp_M_out (fun _ _ => True) T a0 := by
  unfold wp_M_out wq_M_out_27 wq_M_out_28
  refine wt_in (fun _ => ⟨fun _ => trivial, fun n => absurd rfl n⟩) (fun p q => ⟨fun _ => trivial, fun _ => ⟨fun _ => trivial, fun _ => ⟨?_, trivial⟩⟩⟩)
  have h1 := i32_nlt p
  have h2 := i32_nlt q
  have k0 : (0 : Int32).toInt = 0 := rfl
  have k1 : (39 : Int32).toInt = 39 := rfl
  exact in_small (by omega) (by omega)
theorem tt_stack {T : StM} {a0 : Int32} (hs : 0 ≤ (T.1 6).toInt ∧ (T.1 6).toInt ≤ 24) : wp_M_stack (fun _ _ => True) T a0 := by
  unfold wp_M_stack wq_M_stack_23 wp_M_top
  refine wt_in (fun _ => ⟨fun _ => trivial, fun n => absurd rfl n⟩) (fun p q => ⟨fun _ => trivial, fun _ => ⟨?_, trivial⟩⟩)
  have h1 := i32_nlt p
  have h2 := i32_nlt q
  have k0 : (0 : Int32).toInt = 0 := rfl
  have k1 : (1 : Int32).toInt = 1 := rfl
  have es : (T.1 6 - 1).toInt = (T.1 6).toInt - 1 := by
    rw [i32_sub (by omega) (by omega), k1]
  have e2 : (T.1 6 - 1 - a0).toInt = (T.1 6).toInt - 1 - a0.toInt := by
    rw [i32_sub (by omega) (by omega), es]
  exact in_small (by omega) (by omega)
theorem tt_disk {T : StM} {a0 a1 : Int32} : wp_M_disk (fun _ _ => True) T a0 a1 := by
  unfold wp_M_disk wq_M_disk_33 wq_M_disk_34
  refine wt_in (fun _ => ⟨fun _ => trivial, fun n => absurd rfl n⟩) (fun p q => ⟨fun _ => trivial, fun _ => wt_in (fun _ => ⟨fun _ => trivial, fun n => absurd rfl n⟩) (fun p1 q1 => ⟨fun _ => trivial, fun _ => ⟨?_, trivial⟩⟩)⟩)
  have h1 := i32_nlt p
  have h2 := i32_nlt q
  have h3 := i32_nlt p1
  have h4 := i32_nlt q1
  have k0 : (0 : Int32).toInt = 0 := rfl
  have k3 : (3 : Int32).toInt = 3 := rfl
  have k15 : (15 : Int32).toInt = 15 := rfl
  have k16 : (16 : Int32).toInt = 16 := rfl
  have em : (16 * a0).toInt = 16 * a0.toInt := by
    rw [i32_mul (by rw [k16]; omega), k16]
  have ei : (16 * a0 + a1).toInt = 16 * a0.toInt + a1.toInt := by
    rw [i32_add (by omega) (by omega), em]
  exact in_small (by omega) (by omega)
theorem tt_items {T : StM} {a0 : Int32} (hs : 0 ≤ (T.1 20).toInt ∧ (T.1 20).toInt ≤ 24) : wp_M_items (fun _ _ => True) T a0 := by
  unfold wp_M_items wq_M_items_29
  refine wt_in (fun _ => ⟨fun _ => trivial, fun n => absurd rfl n⟩) (fun p q => ⟨fun _ => trivial, fun _ => ⟨?_, trivial⟩⟩)
  have h1 := i32_nlt p
  have h2 := i32_nlt q
  have k99 : (99 : Int32).toInt = 99 := rfl
  have k100 : (100 : Int32).toInt = 100 := rfl
  have e99 : (99 + T.1 20).toInt = 99 + (T.1 20).toInt := by
    rw [i32_add (by omega) (by omega), k99]
  have es : (a0 - 100).toInt = a0.toInt - 100 := by
    rw [i32_sub (by omega) (by omega), k100]
  exact in_small (by omega) (by omega)
theorem tt_buffer {T : StM} {a0 : Int32} : wp_M_buffer (fun _ _ => True) T a0 := by
  unfold wp_M_buffer wq_M_buffer_45 wq_M_buffer_41 wq_M_buffer_46
  refine wt_in (fun _ => ⟨fun _ => trivial, fun n => absurd rfl n⟩) (fun p q => ⟨fun _ => trivial, fun _ => ?_⟩)
  have h1 := i32_nlt p
  have h2 := i32_nlt q
  have k0 : (0 : Int32).toInt = 0 := rfl
  have k1 : (1 : Int32).toInt = 1 := rfl
  have hin : vp_in a0 2 := in_small (by omega) (by omega)
  exact ⟨hin, fun _ => trivial, fun _ => ⟨hin, hin, fun _ => trivial, fun _ => trivial⟩⟩
