theorem d_Di_isFull_0 : decode b_Di_isFull 0 = .ok (.aload_n 0, 1) := by decide +kernel
theorem d_Di_isFull_1 : decode b_Di_isFull 1 = .ok (.getfield 17, 3) := by decide +kernel
theorem d_Di_isFull_4 : decode b_Di_isFull 4 = .ok (.bipush 24, 2) := by decide +kernel
theorem d_Di_isFull_6 : decode b_Di_isFull 6 = .ok (.if_icmp .lt 7, 3) := by decide +kernel
theorem d_Di_isFull_9 : decode b_Di_isFull 9 = .ok (.iconst 1, 1) := by decide +kernel
theorem d_Di_isFull_10 : decode b_Di_isFull 10 = .ok (.goto 4, 3) := by decide +kernel
theorem d_Di_isFull_13 : decode b_Di_isFull 13 = .ok (.iconst 0, 1) := by decide +kernel
theorem d_Di_isFull_14 : decode b_Di_isFull 14 = .ok (.ireturn, 1) := by decide +kernel
def wq_Di_isFull_14 (g : Gm) (post : Int32 → StC → Prop)  (S : StC) (t0 : Int32) : Prop :=
  (narrow .boolean (.int (t0)) = .int (t0)) ∧ (post (t0) S)
def wp_Di_isFull (g : Gm) (post : Int32 → StC → Prop) (S : StC)  : Prop :=
  (((S.1 12) < 24) → wq_Di_isFull_14 g post  S (0)) ∧ (¬ ((S.1 12) < 24) → wq_Di_isFull_14 g post  S (1))
set_option maxRecDepth 100000 in
set_option maxHeartbeats 4000000 in
theorem c_Di_isFull (l : Launch) (g : Gm) (sz : Nat) (S : StC)  (post : Int32 → StC → Prop) (hw : wp_Di_isFull g post S ) : Met l y_Di_isFull (.code y_Di_isFull b_Di_isFull 1 (some .boolean) :: w_C) (rmM 0 0) (va_Pc [.ref (g.2.2 13)] (PC g sz S)) (va_Qi post (BC g (AC g sz S)) (AC g sz S)) 0 0 (AC g sz S) := by
  refine ofC_z (by decide) (Nat.le_of_ble_eq_true rfl) (fun p e s m args below meth c Q A H locs ls hx hb hml hts hown hK hA hC hN kr hl hP hD hS => ?_)
  have hl : lv_has ls 1 [(0, .ref (g.2.2 13))] := hl
  unfold wp_Di_isFull at hw
  have J14 : ∀ (S : StC) (t0 : Int32) (H : Heap) (locs : List Loc) (ls : Array Slot), wq_Di_isFull_14 g post  S t0 → lv_has ls 1 [] → va_P g.1 classes (wC g S) H → va_D A (wC g S) → va_S A s.heap H locs → W p l e (rmM 0 0) s m args below meth c H locs 0 0 Q (F0 m 14 ls [.int (t0)]) := by
    intro S t0 H locs ls hw hl hP hD hS
    unfold wq_Di_isFull_14 at hw
    obtain ⟨hnz, hw⟩ := hw
    exact kr (t0) S _ _ _ _ hnz hw hP hD hS d_Di_isFull_14
  refine lv_aload_n hx hb d_Di_isFull_0 rfl (lv_at hl 0 rfl) ?_
  refine va_get (D := g.1) (ci := 8) (v := .int ((S.1 12))) (C := R_Di) (T := F_Di) (N := 2) hx hb hts hin_Di hown hK hP 13 rfl rfl 1 (by decide) (hts _ k_C_93) (fun _ h9 => h9) rfl d_Di_isFull_1 ?_
  refine lv_bipush (v := 24) hx hb d_Di_isFull_4 (by decide) ?_
  refine lv_icmp_lt hx hb d_Di_isFull_6 (tgt := 13) (by decide) (fun hc => ?_) (fun hc => ?_)
  · have hw := hw.1 hc
    refine lv_iconst (v := 0) hx hb d_Di_isFull_13 (by decide) ?_
    exact J14 S (0) _ _ _ hw (lv_sub hl [] rfl) hP hD hS
  · have hw := hw.2 hc
    refine lv_iconst (v := 1) hx hb d_Di_isFull_9 (by decide) ?_
    refine lv_goto hx hb d_Di_isFull_10 (tgt := 14) (by decide) ?_
    exact J14 S (1) _ _ _ hw (lv_sub hl [] rfl) hP hD hS
theorem d_Di_add_0 : decode b_Di_add 0 = .ok (.aload_n 1, 1) := by decide +kernel
theorem d_Di_add_1 : decode b_Di_add 1 = .ok (.ifnull 32, 3) := by decide +kernel
theorem d_Di_add_4 : decode b_Di_add 4 = .ok (.aload_n 0, 1) := by decide +kernel
theorem d_Di_add_5 : decode b_Di_add 5 = .ok (.getfield 17, 3) := by decide +kernel
theorem d_Di_add_8 : decode b_Di_add 8 = .ok (.bipush 24, 2) := by decide +kernel
theorem d_Di_add_10 : decode b_Di_add 10 = .ok (.if_icmp .ge 23, 3) := by decide +kernel
theorem d_Di_add_13 : decode b_Di_add 13 = .ok (.aload_n 0, 1) := by decide +kernel
theorem d_Di_add_14 : decode b_Di_add 14 = .ok (.getfield 11, 3) := by decide +kernel
theorem d_Di_add_17 : decode b_Di_add 17 = .ok (.aload_n 0, 1) := by decide +kernel
theorem d_Di_add_18 : decode b_Di_add 18 = .ok (.getfield 17, 3) := by decide +kernel
theorem d_Di_add_21 : decode b_Di_add 21 = .ok (.aload_n 1, 1) := by decide +kernel
theorem d_Di_add_22 : decode b_Di_add 22 = .ok (.aastore, 1) := by decide +kernel
theorem d_Di_add_23 : decode b_Di_add 23 = .ok (.aload_n 0, 1) := by decide +kernel
theorem d_Di_add_24 : decode b_Di_add 24 = .ok (.dup, 1) := by decide +kernel
theorem d_Di_add_25 : decode b_Di_add 25 = .ok (.getfield 17, 3) := by decide +kernel
theorem d_Di_add_28 : decode b_Di_add 28 = .ok (.iconst 1, 1) := by decide +kernel
theorem d_Di_add_29 : decode b_Di_add 29 = .ok (.iadd, 1) := by decide +kernel
theorem d_Di_add_30 : decode b_Di_add 30 = .ok (.putfield 17, 3) := by decide +kernel
theorem d_Di_add_33 : decode b_Di_add 33 = .ok (.return_, 1) := by decide +kernel
def wq_Di_add_33 (g : Gm) (post : StC → Prop)  (S : StC)  : Prop :=
  post S
def wp_Di_add (g : Gm) (post : StC → Prop) (S : StC) (a0 : Option Nat) : Prop :=
  ((a0) = none → wq_Di_add_33 g post  S ) ∧ (∀ y1 : Nat, (a0) = some y1 → ((24 ≤ (S.1 12)) → wq_Di_add_33 g post  S ) ∧ (¬ (24 ≤ (S.1 12)) → ∃ (vs3 : List Value), (y1 ∈ S.2.2.2.2.2.1) ∧ (S.2.2.2.2.2.2 y1 = .inr (11, vs3)) ∧ ((vp_in (S.1 12) 24) ∧ (wq_Di_add_33 g post  ((upd S.1 12 (((S.1 12) + 1))), S.2.1, S.2.2.1, S.2.2.2.1, (va_up S.2.2.2.2.1 0 (va_up (S.2.2.2.2.1 0) (Int32.toNatClampNeg ((S.1 12))) (some (y1)))), S.2.2.2.2.2) ))))
set_option maxRecDepth 100000 in
set_option maxHeartbeats 4000000 in
theorem c_Di_add (l : Launch) (g : Gm) (sz : Nat) (S : StC) (a0 : Option Nat) (post : StC → Prop) (hw : wp_Di_add g post S a0) : Met l y_Di_add (.code y_Di_add b_Di_add 2 none :: w_C) (rmM 0 0) (va_Pc [.ref (g.2.2 13), va_rf (a0)] (PC g sz S)) (va_Qv post (BC g (AC g sz S)) (AC g sz S)) 0 0 (AC g sz S) := by
  refine ofC_v (by decide) (by cases a0 <;> exact Nat.le_of_ble_eq_true rfl) (fun p e s m args below meth c Q A H locs ls hx hb hml hts hown hK hA hC hN kr hl hP hD hS => ?_)
  have hl : lv_has ls 2 [(0, .ref (g.2.2 13)), (1, va_rf (a0))] := hl
  unfold wp_Di_add at hw
  have J33 : ∀ (S : StC)  (H : Heap) (locs : List Loc) (ls : Array Slot), wq_Di_add_33 g post  S  → lv_has ls 2 [] → va_P g.1 classes (wC g S) H → va_D A (wC g S) → va_S A s.heap H locs → W p l e (rmM 0 0) s m args below meth c H locs 0 0 Q (F0 m 33 ls []) := by
    intro S  H locs ls hw hl hP hD hS
    unfold wq_Di_add_33 at hw
    exact kr S _ _ _ _ hw hP hD hS d_Di_add_33
  refine lv_aload_nq hx hb d_Di_add_0 rfl (lv_at hl 1 rfl) ?_
  refine lv_ifnullq hx hb d_Di_add_1 (tgt := 33) (by decide) (fun hq2 => ?_) (fun y1 hq2 => ?_)
  · have hw := hw.1 hq2
    have hl : lv_has ls 2 [(0, .ref (g.2.2 13)), (1, .null)] := by rw [hq2] at hl; exact hl
    exact J33 S  _ _ _ hw (lv_sub hl [] rfl) hP hD hS
  · have hw := hw.2 y1 hq2
    have hl : lv_has ls 2 [(0, .ref (g.2.2 13)), (1, .ref (y1))] := by rw [hq2] at hl; exact hl
    refine lv_aload_n hx hb d_Di_add_4 rfl (lv_at hl 0 rfl) ?_
    refine va_get (D := g.1) (ci := 8) (v := .int ((S.1 12))) (C := R_Di) (T := F_Di) (N := 2) hx hb hts hin_Di hown hK hP 13 rfl rfl 1 (by decide) (hts _ k_C_93) (fun _ h9 => h9) rfl d_Di_add_5 ?_
    refine lv_bipush (v := 24) hx hb d_Di_add_8 (by decide) ?_
    refine lv_icmp_ge hx hb d_Di_add_10 (tgt := 33) (by decide) (fun hc => ?_) (fun hc => ?_)
    · have hw := hw.1 hc
      exact J33 S  _ _ _ hw (lv_sub hl [] rfl) hP hD hS
    · have hw := hw.2 hc
      refine lv_aload_n hx hb d_Di_add_13 rfl (lv_at hl 0 rfl) ?_
      refine va_get (D := g.1) (ci := 8) (v := .ref (g.2.2 14)) (C := R_Di) (T := F_Di) (N := 2) hx hb hts hin_Di hown hK hP 13 rfl rfl 0 (by decide) (hts _ k_C_92) (fun _ h9 => h9) rfl d_Di_add_14 ?_
      refine lv_aload_n hx hb d_Di_add_17 rfl (lv_at hl 0 rfl) ?_
      refine va_get (D := g.1) (ci := 8) (v := .int ((S.1 12))) (C := R_Di) (T := F_Di) (N := 2) hx hb hts hin_Di hown hK hP 13 rfl rfl 1 (by decide) (hts _ k_C_93) (fun _ h9 => h9) rfl d_Di_add_18 ?_
      refine lv_aload_n hx hb d_Di_add_21 rfl (lv_at hl 1 rfl) ?_
      obtain ⟨vs3, ha4, hf5, hw⟩ := hw
      obtain ⟨hi, hw⟩ := hw
      refine vb_astq (C := R_Mw) (f := (S.2.2.2.2.1 0)) hx hb hK hP hD hS 14 3 rfl rfl (precv_C (C := R_Mw) (F := F_Mw) (N := 5) hK hP ha4 hf5 rfl) (fun comp c0 h8 h9 => vb_asgS comp c0 h8 h9) hi d_Di_add_22 (fun H locs hP hD hS => ?_)
      have hP : va_P g.1 classes (wC g (S.1, S.2.1, S.2.2.1, S.2.2.2.1, (va_up S.2.2.2.2.1 0 (va_up (S.2.2.2.2.1 0) (Int32.toNatClampNeg ((S.1 12))) (some (y1)))), S.2.2.2.2.2)) H := by rw [sQ_C_0] at hP; exact hP
      have hD : va_D A (wC g (S.1, S.2.1, S.2.2.1, S.2.2.2.1, (va_up S.2.2.2.2.1 0 (va_up (S.2.2.2.2.1 0) (Int32.toNatClampNeg ((S.1 12))) (some (y1)))), S.2.2.2.2.2)) := by rw [sQ_C_0] at hD; exact hD
      refine lv_aload_n hx hb d_Di_add_23 rfl (lv_at hl 0 rfl) ?_
      refine lv_dup hx hb d_Di_add_24 rfl ?_
      refine va_get (D := g.1) (ci := 8) (v := .int ((S.1 12))) (C := R_Di) (T := F_Di) (N := 2) hx hb hts hin_Di hown hK hP 13 rfl rfl 1 (by decide) (hts _ k_C_93) (fun _ h9 => h9) rfl d_Di_add_25 ?_
      refine lv_iconst (v := 1) hx hb d_Di_add_28 (by decide) ?_
      refine lv_iadd hx hb d_Di_add_29 ?_
      refine pt_C (S2 := ((upd S.1 12 (((S.1 12) + 1))), S.2.1, S.2.2.1, S.2.2.2.1, (va_up S.2.2.2.2.1 0 (va_up (S.2.2.2.2.1 0) (Int32.toNatClampNeg ((S.1 12))) (some (y1)))), S.2.2.2.2.2)) (v := .int (((S.1 12) + 1))) (C := R_Di) (F := F_Di) (N := 2) (ci := 8) hx hb hts hin_Di t_Di t_Di_ok n_Di hown hK hP hD hS 13 rfl rfl 1 (by decide) rfl rfl rfl (Nat.le_of_ble_eq_true rfl) (sI_C_12 g _ _) k_C_93 d_Di_add_30 (fun H locs hP hD hS => ?_)
      exact J33 ((upd S.1 12 (((S.1 12) + 1))), S.2.1, S.2.2.1, S.2.2.2.1, (va_up S.2.2.2.2.1 0 (va_up (S.2.2.2.2.1 0) (Int32.toNatClampNeg ((S.1 12))) (some (y1)))), S.2.2.2.2.2)  _ _ _ hw (lv_sub hl [] rfl) hP hD hS
theorem d_Di_word_0 : decode b_Di_word 0 = .ok (.iload_n 1, 1) := by decide +kernel
theorem d_Di_word_1 : decode b_Di_word 1 = .ok (.bipush 100, 2) := by decide +kernel
theorem d_Di_word_3 : decode b_Di_word 3 = .ok (.if_icmp .lt 18, 3) := by decide +kernel
theorem d_Di_word_6 : decode b_Di_word 6 = .ok (.iload_n 1, 1) := by decide +kernel
theorem d_Di_word_7 : decode b_Di_word 7 = .ok (.bipush 100, 2) := by decide +kernel
theorem d_Di_word_9 : decode b_Di_word 9 = .ok (.aload_n 0, 1) := by decide +kernel
theorem d_Di_word_10 : decode b_Di_word 10 = .ok (.getfield 17, 3) := by decide +kernel
theorem d_Di_word_13 : decode b_Di_word 13 = .ok (.iadd, 1) := by decide +kernel
theorem d_Di_word_14 : decode b_Di_word 14 = .ok (.if_icmp .ge 7, 3) := by decide +kernel
theorem d_Di_word_17 : decode b_Di_word 17 = .ok (.iconst 1, 1) := by decide +kernel
theorem d_Di_word_18 : decode b_Di_word 18 = .ok (.goto 4, 3) := by decide +kernel
theorem d_Di_word_21 : decode b_Di_word 21 = .ok (.iconst 0, 1) := by decide +kernel
theorem d_Di_word_22 : decode b_Di_word 22 = .ok (.istore_n 2, 1) := by decide +kernel
theorem d_Di_word_23 : decode b_Di_word 23 = .ok (.iload_n 2, 1) := by decide +kernel
theorem d_Di_word_24 : decode b_Di_word 24 = .ok (.ifCond .eq 15, 3) := by decide +kernel
theorem d_Di_word_27 : decode b_Di_word 27 = .ok (.aload_n 0, 1) := by decide +kernel
theorem d_Di_word_28 : decode b_Di_word 28 = .ok (.getfield 11, 3) := by decide +kernel
theorem d_Di_word_31 : decode b_Di_word 31 = .ok (.iload_n 1, 1) := by decide +kernel
theorem d_Di_word_32 : decode b_Di_word 32 = .ok (.bipush 100, 2) := by decide +kernel
theorem d_Di_word_34 : decode b_Di_word 34 = .ok (.isub, 1) := by decide +kernel
theorem d_Di_word_35 : decode b_Di_word 35 = .ok (.aaload, 1) := by decide +kernel
theorem d_Di_word_36 : decode b_Di_word 36 = .ok (.goto 4, 3) := by decide +kernel
theorem d_Di_word_39 : decode b_Di_word 39 = .ok (.aconst_null, 1) := by decide +kernel
theorem d_Di_word_40 : decode b_Di_word 40 = .ok (.areturn, 1) := by decide +kernel
def wq_Di_word_40 (g : Gm) (post : Option Nat → StC → Prop)  (S : StC) (t0 : Option Nat) : Prop :=
  post (t0) S
def wq_Di_word_22 (g : Gm) (post : Option Nat → StC → Prop)  (S : StC) (x1 : Int32) (t0 : Int32) : Prop :=
  ((t0 = 0) → wq_Di_word_40 g post  S (none)) ∧ (¬ (t0 = 0) → (vp_in (x1 - 100) 24) ∧ (wq_Di_word_40 g post  S (((S.2.2.2.2.1 0) (Int32.toNatClampNeg ((x1 - 100)))))))
def wq_Di_word_21 (g : Gm) (post : Option Nat → StC → Prop)  (S : StC) (x1 : Int32) : Prop :=
  wq_Di_word_22 g post  S (x1) (0)
def wp_Di_word (g : Gm) (post : Option Nat → StC → Prop) (S : StC) (a0 : Int32) : Prop :=
  ((a0 < 100) → wq_Di_word_21 g post  S (a0)) ∧ (¬ (a0 < 100) → (((100 + (S.1 12)) ≤ a0) → wq_Di_word_21 g post  S (a0)) ∧ (¬ ((100 + (S.1 12)) ≤ a0) → wq_Di_word_22 g post  S (a0) (1)))
set_option maxRecDepth 100000 in
set_option maxHeartbeats 4000000 in
theorem c_Di_word (l : Launch) (g : Gm) (sz : Nat) (S : StC) (a0 : Int32) (post : Option Nat → StC → Prop) (hw : wp_Di_word g post S a0) : Met l y_Di_word (.code y_Di_word b_Di_word 3 (some (.object "WordSmith$MadeWord")) :: w_C) (rmM 0 0) (va_Pc [.ref (g.2.2 13), .int (a0)] (PC g sz S)) (va_Qq post (BC g (AC g sz S)) (AC g sz S)) 0 0 (AC g sz S) := by
  refine ofC_q (by decide) (Nat.le_of_ble_eq_true rfl) (fun p e s m args below meth c Q A H locs ls hx hb hml hts hown hK hA hC hN kr hl hP hD hS => ?_)
  have hl : lv_has ls 3 [(0, .ref (g.2.2 13)), (1, .int (a0))] := hl
  unfold wp_Di_word at hw
  have J40 : ∀ (S : StC) (t0 : Option Nat) (H : Heap) (locs : List Loc) (ls : Array Slot), wq_Di_word_40 g post  S t0 → lv_has ls 3 [] → va_P g.1 classes (wC g S) H → va_D A (wC g S) → va_S A s.heap H locs → W p l e (rmM 0 0) s m args below meth c H locs 0 0 Q (F0 m 40 ls [va_rf (t0)]) := by
    intro S t0 H locs ls hw hl hP hD hS
    unfold wq_Di_word_40 at hw
    exact kr (t0) S _ _ _ _ hw hP hD hS d_Di_word_40
  have J22 : ∀ (S : StC) (x1 : Int32) (t0 : Int32) (H : Heap) (locs : List Loc) (ls : Array Slot), wq_Di_word_22 g post  S x1 t0 → lv_has ls 3 [(0, .ref (g.2.2 13)), (1, .int (x1))] → va_P g.1 classes (wC g S) H → va_D A (wC g S) → va_S A s.heap H locs → W p l e (rmM 0 0) s m args below meth c H locs 0 0 Q (F0 m 22 ls [.int (t0)]) := by
    intro S x1 t0 H locs ls hw hl hP hD hS
    unfold wq_Di_word_22 at hw
    refine lv_istore_n (lv' := [(2, .int (t0)), (0, .ref (g.2.2 13)), (1, .int (x1))]) hx hb d_Di_word_22 rfl hl (by decide) rfl (fun ls hl => ?_)
    refine lv_iload_n hx hb d_Di_word_23 rfl (lv_at hl 0 rfl) ?_
    refine lv_if_eq hx hb d_Di_word_24 (tgt := 39) (by decide) (fun hc => ?_) (fun hc => ?_)
    · have hw := hw.1 hc
      refine lv_null hx hb d_Di_word_39 ?_
      exact J40 S (none) _ _ _ hw (lv_sub hl [] rfl) hP hD hS
    · have hw := hw.2 hc
      refine lv_aload_n hx hb d_Di_word_27 rfl (lv_at hl 1 rfl) ?_
      refine va_get (D := g.1) (ci := 8) (v := .ref (g.2.2 14)) (C := R_Di) (T := F_Di) (N := 2) hx hb hts hin_Di hown hK hP 13 rfl rfl 0 (by decide) (hts _ k_C_92) (fun _ h9 => h9) rfl d_Di_word_28 ?_
      refine lv_iload_n hx hb d_Di_word_31 rfl (lv_at hl 2 rfl) ?_
      refine lv_bipush (v := 100) hx hb d_Di_word_32 (by decide) ?_
      refine lv_isub hx hb d_Di_word_34 ?_
      obtain ⟨hi, hw⟩ := hw
      refine va_aldq (f := (S.2.2.2.2.1 0)) hx hb hK hP 14 3 rfl rfl hi d_Di_word_35 ?_
      refine lv_goto hx hb d_Di_word_36 (tgt := 40) (by decide) ?_
      exact J40 S (((S.2.2.2.2.1 0) (Int32.toNatClampNeg ((x1 - 100))))) _ _ _ hw (lv_sub hl [] rfl) hP hD hS
  have J21 : ∀ (S : StC) (x1 : Int32) (H : Heap) (locs : List Loc) (ls : Array Slot), wq_Di_word_21 g post  S x1 → lv_has ls 3 [(0, .ref (g.2.2 13)), (1, .int (x1))] → va_P g.1 classes (wC g S) H → va_D A (wC g S) → va_S A s.heap H locs → W p l e (rmM 0 0) s m args below meth c H locs 0 0 Q (F0 m 21 ls []) := by
    intro S x1 H locs ls hw hl hP hD hS
    unfold wq_Di_word_21 at hw
    refine lv_iconst (v := 0) hx hb d_Di_word_21 (by decide) ?_
    exact J22 S (x1) (0) _ _ _ hw (lv_sub hl [0, 1] rfl) hP hD hS
  refine lv_iload_n hx hb d_Di_word_0 rfl (lv_at hl 1 rfl) ?_
  refine lv_bipush (v := 100) hx hb d_Di_word_1 (by decide) ?_
  refine lv_icmp_lt hx hb d_Di_word_3 (tgt := 21) (by decide) (fun hc => ?_) (fun hc => ?_)
  · have hw := hw.1 hc
    exact J21 S (a0) _ _ _ hw (lv_sub hl [0, 1] rfl) hP hD hS
  · have hw := hw.2 hc
    refine lv_iload_n hx hb d_Di_word_6 rfl (lv_at hl 1 rfl) ?_
    refine lv_bipush (v := 100) hx hb d_Di_word_7 (by decide) ?_
    refine lv_aload_n hx hb d_Di_word_9 rfl (lv_at hl 0 rfl) ?_
    refine va_get (D := g.1) (ci := 8) (v := .int ((S.1 12))) (C := R_Di) (T := F_Di) (N := 2) hx hb hts hin_Di hown hK hP 13 rfl rfl 1 (by decide) (hts _ k_C_93) (fun _ h9 => h9) rfl d_Di_word_10 ?_
    refine lv_iadd hx hb d_Di_word_13 ?_
    refine lv_icmp_ge hx hb d_Di_word_14 (tgt := 21) (by decide) (fun hc => ?_) (fun hc => ?_)
    · have hw := hw.1 hc
      exact J21 S (a0) _ _ _ hw (lv_sub hl [0, 1] rfl) hP hD hS
    · have hw := hw.2 hc
      refine lv_iconst (v := 1) hx hb d_Di_word_17 (by decide) ?_
      refine lv_goto hx hb d_Di_word_18 (tgt := 22) (by decide) ?_
      exact J22 S (a0) (1) _ _ _ hw (lv_sub hl [0, 1] rfl) hP hD hS
theorem qC_6 {R : Room} {s : State} {args : Array Value} (hts : ∀ w ∈ w_C, w.before args s = true) (hR : (rmM 0 0).frames + 1 ≤ R.frames ∧ 8 + (3 + 11) + (rmM 0 0).locals ≤ R.locals) : CallW R s args "WordSmith$Dictionary" R_Di 37 y_Di_word b_Di_word 3 (some (.object "WordSmith$MadeWord")) (.code y_Di_word b_Di_word 3 (some (.object "WordSmith$MadeWord")) :: w_C) (rmM 0 0) 0 0 1 := ⟨callB_of 1 hts (good_C k_C_466) rfl rfl rfl (hts _ k_C_9) (hts _ k_C_580) ⟨by decide +kernel, by decide +kernel, by decide +kernel⟩ hR, hts _ k_C_464, hts _ k_C_465⟩
theorem d_Di_isImmediate_0 : decode b_Di_isImmediate 0 = .ok (.aload_n 0, 1) := by decide +kernel
theorem d_Di_isImmediate_1 : decode b_Di_isImmediate 1 = .ok (.iload_n 1, 1) := by decide +kernel
theorem d_Di_isImmediate_2 : decode b_Di_isImmediate 2 = .ok (.invokevirtual 37, 3) := by decide +kernel
theorem d_Di_isImmediate_5 : decode b_Di_isImmediate 5 = .ok (.astore_n 2, 1) := by decide +kernel
theorem d_Di_isImmediate_6 : decode b_Di_isImmediate 6 = .ok (.aload_n 2, 1) := by decide +kernel
theorem d_Di_isImmediate_7 : decode b_Di_isImmediate 7 = .ok (.ifnull 14, 3) := by decide +kernel
theorem d_Di_isImmediate_10 : decode b_Di_isImmediate 10 = .ok (.aload_n 2, 1) := by decide +kernel
theorem d_Di_isImmediate_11 : decode b_Di_isImmediate 11 = .ok (.getfield 41, 3) := by decide +kernel
theorem d_Di_isImmediate_14 : decode b_Di_isImmediate 14 = .ok (.ifCond .eq 7, 3) := by decide +kernel
theorem d_Di_isImmediate_17 : decode b_Di_isImmediate 17 = .ok (.iconst 1, 1) := by decide +kernel
theorem d_Di_isImmediate_18 : decode b_Di_isImmediate 18 = .ok (.goto 4, 3) := by decide +kernel
theorem d_Di_isImmediate_21 : decode b_Di_isImmediate 21 = .ok (.iconst 0, 1) := by decide +kernel
theorem d_Di_isImmediate_22 : decode b_Di_isImmediate 22 = .ok (.ireturn, 1) := by decide +kernel
def wq_Di_isImmediate_22 (g : Gm) (post : Int32 → StC → Prop)  (S : StC) (t0 : Int32) : Prop :=
  (narrow .boolean (.int (t0)) = .int (t0)) ∧ (post (t0) S)
def wq_Di_isImmediate_21 (g : Gm) (post : Int32 → StC → Prop)  (S : StC)  : Prop :=
  wq_Di_isImmediate_22 g post  S (0)
def wp_Di_isImmediate (g : Gm) (post : Int32 → StC → Prop) (S : StC) (a0 : Int32) : Prop :=
  wp_Di_word g (fun (r2 : Option Nat) (S1 : StC) => (((r2) = none → wq_Di_isImmediate_21 g post  S1 ) ∧ (∀ y3 : Nat, (r2) = some y3 → ∃ (vs5 : List Value) (z9 : Int32), (y3 ∈ S1.2.2.2.2.2.1) ∧ (S1.2.2.2.2.2.2 y3 = .inr (11, vs5)) ∧ (vs5[4]? = some (.int (z9))) ∧ (((z9 = 0) → wq_Di_isImmediate_21 g post  S1 ) ∧ (¬ (z9 = 0) → wq_Di_isImmediate_22 g post  S1 (1)))))) S (a0)
set_option maxRecDepth 100000 in
set_option maxHeartbeats 4000000 in
theorem c_Di_isImmediate (l : Launch) (g : Gm) (sz : Nat) (S : StC) (a0 : Int32) (post : Int32 → StC → Prop) (hw : wp_Di_isImmediate g post S a0) : Met l y_Di_isImmediate (.code y_Di_isImmediate b_Di_isImmediate 3 (some .boolean) :: w_C) (rmM 1 22) (va_Pc [.ref (g.2.2 13), .int (a0)] (PC g sz S)) (va_Qi post (BC g (AC g sz S)) (AC g sz S)) 0 0 (AC g sz S) := by
  refine ofC_z (by decide) (Nat.le_of_ble_eq_true rfl) (fun p e s m args below meth c Q A H locs ls hx hb hml hts hown hK hA hC hN kr hl hP hD hS => ?_)
  have hl : lv_has ls 3 [(0, .ref (g.2.2 13)), (1, .int (a0))] := hl
  unfold wp_Di_isImmediate at hw
  have J22 : ∀ (S : StC) (t0 : Int32) (H : Heap) (locs : List Loc) (ls : Array Slot), wq_Di_isImmediate_22 g post  S t0 → lv_has ls 3 [] → va_P g.1 classes (wC g S) H → va_D A (wC g S) → va_S A s.heap H locs → W p l e (rmM 1 22) s m args below meth c H locs 0 0 Q (F0 m 22 ls [.int (t0)]) := by
    intro S t0 H locs ls hw hl hP hD hS
    unfold wq_Di_isImmediate_22 at hw
    obtain ⟨hnz, hw⟩ := hw
    exact kr (t0) S _ _ _ _ hnz hw hP hD hS d_Di_isImmediate_22
  have J21 : ∀ (S : StC)  (H : Heap) (locs : List Loc) (ls : Array Slot), wq_Di_isImmediate_21 g post  S  → lv_has ls 3 [] → va_P g.1 classes (wC g S) H → va_D A (wC g S) → va_S A s.heap H locs → W p l e (rmM 1 22) s m args below meth c H locs 0 0 Q (F0 m 21 ls []) := by
    intro S  H locs ls hw hl hP hD hS
    unfold wq_Di_isImmediate_21 at hw
    refine lv_iconst (v := 0) hx hb d_Di_isImmediate_21 (by decide) ?_
    exact J22 S (0) _ _ _ hw (lv_sub hl [] rfl) hP hD hS
  refine lv_aload_n hx hb d_Di_isImmediate_0 rfl (lv_at hl 0 rfl) ?_
  refine lv_iload_n hx hb d_Di_isImmediate_1 rfl (lv_at hl 1 rfl) ?_
  refine cC_qV (As := [.int (a0)]) (rest := []) hx hb hml hown hts hK hC hN hP hD hS hA (Nat.zero_le _) (Nat.zero_le _) hl.1 (va_recv (q0 := 13) (ci := 8) (q := (R_Di, F_Di, 2)) hK hP rfl rfl) (qC_6 hts ⟨Nat.le_of_ble_eq_true rfl, Nat.le_of_ble_eq_true rfl⟩) (c_Di_word l g H.size _ (a0) _ hw) rfl rfl (Nat.le_of_ble_eq_true rfl) d_Di_isImmediate_2 (fun r2 S1 H locs hw hP hD hS => ?_)
  refine lv_astore_nq (lv' := [(2, va_rf (r2)), (0, .ref (g.2.2 13)), (1, .int (a0))]) hx hb d_Di_isImmediate_5 rfl hl (by decide) rfl (fun ls hl => ?_)
  refine lv_aload_nq hx hb d_Di_isImmediate_6 rfl (lv_at hl 0 rfl) ?_
  refine lv_ifnullq hx hb d_Di_isImmediate_7 (tgt := 21) (by decide) (fun hq4 => ?_) (fun y3 hq4 => ?_)
  · have hw := hw.1 hq4
    have hl : lv_has ls 3 [(2, .null), (0, .ref (g.2.2 13)), (1, .int (a0))] := by rw [hq4] at hl; exact hl
    exact J21 S1  _ _ _ hw (lv_sub hl [] rfl) hP hD hS
  · have hw := hw.2 y3 hq4
    have hl : lv_has ls 3 [(2, .ref (y3)), (0, .ref (g.2.2 13)), (1, .int (a0))] := by rw [hq4] at hl; exact hl
    refine lv_aload_n hx hb d_Di_isImmediate_10 rfl (lv_at hl 0 rfl) ?_
    obtain ⟨vs5, z9, ha6, hf7, hv8, hw⟩ := hw
    refine pgN_C (S := S1) (vs := vs5) (v := .int (z9)) (C := R_Mw) (F := F_Mw) (N := 5) hx hb hts hin_Mw hown hK hP ha6 hf7 rfl 4 (by decide) hv8 (va_Nw.use rfl (hN.1 _ kn_C_35)) d_Di_isImmediate_11 ?_
    refine lv_if_eq hx hb d_Di_isImmediate_14 (tgt := 21) (by decide) (fun hc => ?_) (fun hc => ?_)
    · have hw := hw.1 hc
      exact J21 S1  _ _ _ hw (lv_sub hl [] rfl) hP hD hS
    · have hw := hw.2 hc
      refine lv_iconst (v := 1) hx hb d_Di_isImmediate_17 (by decide) ?_
      refine lv_goto hx hb d_Di_isImmediate_18 (tgt := 22) (by decide) ?_
      exact J22 S1 (1) _ _ _ hw (lv_sub hl [] rfl) hP hD hS
theorem d_Di_nextNumber_0 : decode b_Di_nextNumber 0 = .ok (.bipush 100, 2) := by decide +kernel
theorem d_Di_nextNumber_2 : decode b_Di_nextNumber 2 = .ok (.aload_n 0, 1) := by decide +kernel
theorem d_Di_nextNumber_3 : decode b_Di_nextNumber 3 = .ok (.getfield 17, 3) := by decide +kernel
theorem d_Di_nextNumber_6 : decode b_Di_nextNumber 6 = .ok (.iadd, 1) := by decide +kernel
theorem d_Di_nextNumber_7 : decode b_Di_nextNumber 7 = .ok (.ireturn, 1) := by decide +kernel
def wp_Di_nextNumber (g : Gm) (post : Int32 → StC → Prop) (S : StC)  : Prop :=
  post ((100 + (S.1 12))) S
set_option maxRecDepth 100000 in
set_option maxHeartbeats 4000000 in
theorem c_Di_nextNumber (l : Launch) (g : Gm) (sz : Nat) (S : StC)  (post : Int32 → StC → Prop) (hw : wp_Di_nextNumber g post S ) : Met l y_Di_nextNumber (.code y_Di_nextNumber b_Di_nextNumber 1 (some .int) :: w_C) (rmM 0 0) (va_Pc [.ref (g.2.2 13)] (PC g sz S)) (va_Qi post (BC g (AC g sz S)) (AC g sz S)) 0 0 (AC g sz S) := by
  refine ofC_i (by decide) (Nat.le_of_ble_eq_true rfl) (fun p e s m args below meth c Q A H locs ls hx hb hml hts hown hK hA hC hN kr hl hP hD hS => ?_)
  have hl : lv_has ls 1 [(0, .ref (g.2.2 13))] := hl
  unfold wp_Di_nextNumber at hw
  refine lv_bipush (v := 100) hx hb d_Di_nextNumber_0 (by decide) ?_
  refine lv_aload_n hx hb d_Di_nextNumber_2 rfl (lv_at hl 0 rfl) ?_
  refine va_get (D := g.1) (ci := 8) (v := .int ((S.1 12))) (C := R_Di) (T := F_Di) (N := 2) hx hb hts hin_Di hown hK hP 13 rfl rfl 1 (by decide) (hts _ k_C_93) (fun _ h9 => h9) rfl d_Di_nextNumber_3 ?_
  refine lv_iadd hx hb d_Di_nextNumber_6 ?_
  exact kr ((100 + (S.1 12))) S _ _ _ _ hw hP hD hS d_Di_nextNumber_7
theorem d_Ca_start_0 : decode b_Ca_start 0 = .ok (.aload_n 0, 1) := by decide +kernel
theorem d_Ca_start_1 : decode b_Ca_start 1 = .ok (.aload_n 1, 1) := by decide +kernel
theorem d_Ca_start_2 : decode b_Ca_start 2 = .ok (.putfield 18, 3) := by decide +kernel
theorem d_Ca_start_5 : decode b_Ca_start 5 = .ok (.aload_n 0, 1) := by decide +kernel
theorem d_Ca_start_6 : decode b_Ca_start 6 = .ok (.iconst 0, 1) := by decide +kernel
theorem d_Ca_start_7 : decode b_Ca_start 7 = .ok (.putfield 22, 3) := by decide +kernel
theorem d_Ca_start_10 : decode b_Ca_start 10 = .ok (.aload_n 0, 1) := by decide +kernel
theorem d_Ca_start_11 : decode b_Ca_start 11 = .ok (.iconst 0, 1) := by decide +kernel
theorem d_Ca_start_12 : decode b_Ca_start 12 = .ok (.putfield 26, 3) := by decide +kernel
theorem d_Ca_start_15 : decode b_Ca_start 15 = .ok (.return_, 1) := by decide +kernel
def wp_Ca_start (g : Gm) (post : StC → Prop) (S : StC) (h0 : Nat) (a0 : Option Nat) : Prop :=
  ∃ (vs1 : List Value), (h0 ∈ S.2.2.2.2.2.1) ∧ (S.2.2.2.2.2.2 h0 = .inr (9, vs1)) ∧ (0 < vs1.length) ∧ (∃ (vs5 : List Value), (h0 ∈ S.2.2.2.2.2.1) ∧ ((va_up S.2.2.2.2.2.2 h0 (.inr (9, vs1.set 0 (va_rf (a0))))) h0 = .inr (9, vs5)) ∧ (1 < vs5.length) ∧ (∃ (vs9 : List Value), (h0 ∈ S.2.2.2.2.2.1) ∧ ((va_up (va_up S.2.2.2.2.2.2 h0 (.inr (9, vs1.set 0 (va_rf (a0))))) h0 (.inr (9, vs5.set 1 (.int (0))))) h0 = .inr (9, vs9)) ∧ (4 < vs9.length) ∧ (post (S.1, S.2.1, S.2.2.1, S.2.2.2.1, S.2.2.2.2.1, S.2.2.2.2.2.1, (va_up (va_up (va_up S.2.2.2.2.2.2 h0 (.inr (9, vs1.set 0 (va_rf (a0))))) h0 (.inr (9, vs5.set 1 (.int (0))))) h0 (.inr (9, vs9.set 4 (.int (0)))))))))
set_option maxRecDepth 100000 in
set_option maxHeartbeats 4000000 in
theorem c_Ca_start (l : Launch) (g : Gm) (sz : Nat) (S : StC) (h0 : Nat) (a0 : Option Nat) (post : StC → Prop) (hw : wp_Ca_start g post S h0 a0) : Met l y_Ca_start (.code y_Ca_start b_Ca_start 2 none :: w_C) (rmM 0 0) (va_Pc [.ref (h0), va_rf (a0)] (PC g sz S)) (va_Qv post (BC g (AC g sz S)) (AC g sz S)) 0 0 (AC g sz S) := by
  refine ofC_v (by decide) (by cases a0 <;> exact Nat.le_of_ble_eq_true rfl) (fun p e s m args below meth c Q A H locs ls hx hb hml hts hown hK hA hC hN kr hl hP hD hS => ?_)
  have hl : lv_has ls 2 [(0, .ref (h0)), (1, va_rf (a0))] := hl
  unfold wp_Ca_start at hw
  refine lv_aload_n hx hb d_Ca_start_0 rfl (lv_at hl 0 rfl) ?_
  refine lv_aload_nq hx hb d_Ca_start_1 rfl (lv_at hl 1 rfl) ?_
  obtain ⟨vs1, ha2, hf3, hk4, hw⟩ := hw
  refine pp_C (S := S) (vs := vs1) (v := va_rf (a0)) (C := R_Ca) (F := F_Ca) (N := 5) hx hb hts hin_Ca t_Ca t_Ca_ok n_Ca hown hK hP hD hS ha2 hf3 rfl 0 (by decide) rfl (rf_nar _ _) (rf_fit _ _) hk4 k_C_100 d_Ca_start_2 (fun H locs hP hD hS => ?_)
  have hP : va_P g.1 classes (wC g (S.1, S.2.1, S.2.2.1, S.2.2.2.1, S.2.2.2.2.1, S.2.2.2.2.2.1, (va_up S.2.2.2.2.2.2 h0 (.inr (9, vs1.set 0 (va_rf (a0))))))) H := hP
  have hD : va_D A (wC g (S.1, S.2.1, S.2.2.1, S.2.2.2.1, S.2.2.2.2.1, S.2.2.2.2.2.1, (va_up S.2.2.2.2.2.2 h0 (.inr (9, vs1.set 0 (va_rf (a0))))))) := hD
  refine lv_aload_n hx hb d_Ca_start_5 rfl (lv_at hl 0 rfl) ?_
  refine lv_iconst (v := 0) hx hb d_Ca_start_6 (by decide) ?_
  obtain ⟨vs5, ha6, hf7, hk8, hw⟩ := hw
  refine pp_C (S := (S.1, S.2.1, S.2.2.1, S.2.2.2.1, S.2.2.2.2.1, S.2.2.2.2.2.1, (va_up S.2.2.2.2.2.2 h0 (.inr (9, vs1.set 0 (va_rf (a0))))))) (vs := vs5) (v := .int (0)) (C := R_Ca) (F := F_Ca) (N := 5) hx hb hts hin_Ca t_Ca t_Ca_ok n_Ca hown hK hP hD hS ha6 hf7 rfl 1 (by decide) rfl rfl rfl hk8 k_C_101 d_Ca_start_7 (fun H locs hP hD hS => ?_)
  have hP : va_P g.1 classes (wC g (S.1, S.2.1, S.2.2.1, S.2.2.2.1, S.2.2.2.2.1, S.2.2.2.2.2.1, (va_up (va_up S.2.2.2.2.2.2 h0 (.inr (9, vs1.set 0 (va_rf (a0))))) h0 (.inr (9, vs5.set 1 (.int (0))))))) H := hP
  have hD : va_D A (wC g (S.1, S.2.1, S.2.2.1, S.2.2.2.1, S.2.2.2.2.1, S.2.2.2.2.2.1, (va_up (va_up S.2.2.2.2.2.2 h0 (.inr (9, vs1.set 0 (va_rf (a0))))) h0 (.inr (9, vs5.set 1 (.int (0))))))) := hD
  refine lv_aload_n hx hb d_Ca_start_10 rfl (lv_at hl 0 rfl) ?_
  refine lv_iconst (v := 0) hx hb d_Ca_start_11 (by decide) ?_
  obtain ⟨vs9, ha10, hf11, hk12, hw⟩ := hw
  refine pp_C (S := (S.1, S.2.1, S.2.2.1, S.2.2.2.1, S.2.2.2.2.1, S.2.2.2.2.2.1, (va_up (va_up S.2.2.2.2.2.2 h0 (.inr (9, vs1.set 0 (va_rf (a0))))) h0 (.inr (9, vs5.set 1 (.int (0))))))) (vs := vs9) (v := .int (0)) (C := R_Ca) (F := F_Ca) (N := 5) hx hb hts hin_Ca t_Ca t_Ca_ok n_Ca hown hK hP hD hS ha10 hf11 rfl 4 (by decide) rfl rfl rfl hk12 k_C_104 d_Ca_start_12 (fun H locs hP hD hS => ?_)
  have hP : va_P g.1 classes (wC g (S.1, S.2.1, S.2.2.1, S.2.2.2.1, S.2.2.2.2.1, S.2.2.2.2.2.1, (va_up (va_up (va_up S.2.2.2.2.2.2 h0 (.inr (9, vs1.set 0 (va_rf (a0))))) h0 (.inr (9, vs5.set 1 (.int (0))))) h0 (.inr (9, vs9.set 4 (.int (0))))))) H := hP
  have hD : va_D A (wC g (S.1, S.2.1, S.2.2.1, S.2.2.2.1, S.2.2.2.2.1, S.2.2.2.2.2.1, (va_up (va_up (va_up S.2.2.2.2.2.2 h0 (.inr (9, vs1.set 0 (va_rf (a0))))) h0 (.inr (9, vs5.set 1 (.int (0))))) h0 (.inr (9, vs9.set 4 (.int (0))))))) := hD
  exact kr (S.1, S.2.1, S.2.2.1, S.2.2.2.1, S.2.2.2.2.1, S.2.2.2.2.2.1, (va_up (va_up (va_up S.2.2.2.2.2.2 h0 (.inr (9, vs1.set 0 (va_rf (a0))))) h0 (.inr (9, vs5.set 1 (.int (0))))) h0 (.inr (9, vs9.set 4 (.int (0)))))) _ _ _ _ hw hP hD hS d_Ca_start_15
theorem d_Ca_beginLoop_0 : decode b_Ca_beginLoop 0 = .ok (.aload_n 0, 1) := by decide +kernel
theorem d_Ca_beginLoop_1 : decode b_Ca_beginLoop 1 = .ok (.getfield 26, 3) := by decide +kernel
theorem d_Ca_beginLoop_4 : decode b_Ca_beginLoop 4 = .ok (.iconst 4, 1) := by decide +kernel
theorem d_Ca_beginLoop_5 : decode b_Ca_beginLoop 5 = .ok (.if_icmp .ge 33, 3) := by decide +kernel
theorem d_Ca_beginLoop_8 : decode b_Ca_beginLoop 8 = .ok (.aload_n 0, 1) := by decide +kernel
theorem d_Ca_beginLoop_9 : decode b_Ca_beginLoop 9 = .ok (.getfield 9, 3) := by decide +kernel
theorem d_Ca_beginLoop_12 : decode b_Ca_beginLoop 12 = .ok (.aload_n 0, 1) := by decide +kernel
theorem d_Ca_beginLoop_13 : decode b_Ca_beginLoop 13 = .ok (.getfield 26, 3) := by decide +kernel
theorem d_Ca_beginLoop_16 : decode b_Ca_beginLoop 16 = .ok (.iload_n 1, 1) := by decide +kernel
theorem d_Ca_beginLoop_17 : decode b_Ca_beginLoop 17 = .ok (.iastore, 1) := by decide +kernel
theorem d_Ca_beginLoop_18 : decode b_Ca_beginLoop 18 = .ok (.aload_n 0, 1) := by decide +kernel
theorem d_Ca_beginLoop_19 : decode b_Ca_beginLoop 19 = .ok (.getfield 15, 3) := by decide +kernel
theorem d_Ca_beginLoop_22 : decode b_Ca_beginLoop 22 = .ok (.aload_n 0, 1) := by decide +kernel
theorem d_Ca_beginLoop_23 : decode b_Ca_beginLoop 23 = .ok (.getfield 26, 3) := by decide +kernel
theorem d_Ca_beginLoop_26 : decode b_Ca_beginLoop 26 = .ok (.iload_n 2, 1) := by decide +kernel
theorem d_Ca_beginLoop_27 : decode b_Ca_beginLoop 27 = .ok (.iastore, 1) := by decide +kernel
theorem d_Ca_beginLoop_28 : decode b_Ca_beginLoop 28 = .ok (.aload_n 0, 1) := by decide +kernel
theorem d_Ca_beginLoop_29 : decode b_Ca_beginLoop 29 = .ok (.dup, 1) := by decide +kernel
theorem d_Ca_beginLoop_30 : decode b_Ca_beginLoop 30 = .ok (.getfield 26, 3) := by decide +kernel
theorem d_Ca_beginLoop_33 : decode b_Ca_beginLoop 33 = .ok (.iconst 1, 1) := by decide +kernel
theorem d_Ca_beginLoop_34 : decode b_Ca_beginLoop 34 = .ok (.iadd, 1) := by decide +kernel
theorem d_Ca_beginLoop_35 : decode b_Ca_beginLoop 35 = .ok (.putfield 26, 3) := by decide +kernel
theorem d_Ca_beginLoop_38 : decode b_Ca_beginLoop 38 = .ok (.return_, 1) := by decide +kernel
def wq_Ca_beginLoop_38 (g : Gm) (post : StC → Prop)  (S : StC)  : Prop :=
  post S
def wp_Ca_beginLoop (g : Gm) (post : StC → Prop) (S : StC) (h0 : Nat) (a0 : Int32) (a1 : Int32) : Prop :=
  ∃ (vs1 : List Value) (z5 : Int32), (h0 ∈ S.2.2.2.2.2.1) ∧ (S.2.2.2.2.2.2 h0 = .inr (9, vs1)) ∧ (vs1[4]? = some (.int (z5))) ∧ (((4 ≤ z5) → wq_Ca_beginLoop_38 g post  S ) ∧ (¬ (4 ≤ z5) → ∃ (vs6 : List Value) (z10 : Nat), (h0 ∈ S.2.2.2.2.2.1) ∧ (S.2.2.2.2.2.2 h0 = .inr (9, vs6)) ∧ (vs6[2]? = some (.ref (z10))) ∧ (∃ (vs11 : List Value) (z15 : Int32), (h0 ∈ S.2.2.2.2.2.1) ∧ (S.2.2.2.2.2.2 h0 = .inr (9, vs11)) ∧ (vs11[4]? = some (.int (z15))) ∧ (∃ (n16 : Nat) (f17 : Nat → Int32), (z10 ∈ S.2.2.2.2.2.1) ∧ (S.2.2.2.2.2.2 z10 = .inl (g.2.1 0, n16, .inl f17)) ∧ (vp_in z15 n16) ∧ (∃ (vs21 : List Value) (z25 : Nat), (h0 ∈ S.2.2.2.2.2.1) ∧ ((va_up S.2.2.2.2.2.2 z10 (.inl (g.2.1 0, n16, .inl (upd f17 (Int32.toNatClampNeg (z15)) (a0))))) h0 = .inr (9, vs21)) ∧ (vs21[3]? = some (.ref (z25))) ∧ (∃ (vs26 : List Value) (z30 : Int32), (h0 ∈ S.2.2.2.2.2.1) ∧ ((va_up S.2.2.2.2.2.2 z10 (.inl (g.2.1 0, n16, .inl (upd f17 (Int32.toNatClampNeg (z15)) (a0))))) h0 = .inr (9, vs26)) ∧ (vs26[4]? = some (.int (z30))) ∧ (∃ (n31 : Nat) (f32 : Nat → Int32), (z25 ∈ S.2.2.2.2.2.1) ∧ ((va_up S.2.2.2.2.2.2 z10 (.inl (g.2.1 0, n16, .inl (upd f17 (Int32.toNatClampNeg (z15)) (a0))))) z25 = .inl (g.2.1 0, n31, .inl f32)) ∧ (vp_in z30 n31) ∧ (∃ (vs36 : List Value) (z40 : Int32), (h0 ∈ S.2.2.2.2.2.1) ∧ ((va_up (va_up S.2.2.2.2.2.2 z10 (.inl (g.2.1 0, n16, .inl (upd f17 (Int32.toNatClampNeg (z15)) (a0))))) z25 (.inl (g.2.1 0, n31, .inl (upd f32 (Int32.toNatClampNeg (z30)) (a1))))) h0 = .inr (9, vs36)) ∧ (vs36[4]? = some (.int (z40))) ∧ (∃ (vs41 : List Value), (h0 ∈ S.2.2.2.2.2.1) ∧ ((va_up (va_up S.2.2.2.2.2.2 z10 (.inl (g.2.1 0, n16, .inl (upd f17 (Int32.toNatClampNeg (z15)) (a0))))) z25 (.inl (g.2.1 0, n31, .inl (upd f32 (Int32.toNatClampNeg (z30)) (a1))))) h0 = .inr (9, vs41)) ∧ (4 < vs41.length) ∧ (wq_Ca_beginLoop_38 g post  (S.1, S.2.1, S.2.2.1, S.2.2.2.1, S.2.2.2.2.1, S.2.2.2.2.2.1, (va_up (va_up (va_up S.2.2.2.2.2.2 z10 (.inl (g.2.1 0, n16, .inl (upd f17 (Int32.toNatClampNeg (z15)) (a0))))) z25 (.inl (g.2.1 0, n31, .inl (upd f32 (Int32.toNatClampNeg (z30)) (a1))))) h0 (.inr (9, vs41.set 4 (.int ((z40 + 1))))))) ))))))))))
set_option maxRecDepth 100000 in
set_option maxHeartbeats 4000000 in
theorem c_Ca_beginLoop (l : Launch) (g : Gm) (sz : Nat) (S : StC) (h0 : Nat) (a0 : Int32) (a1 : Int32) (post : StC → Prop) (hw : wp_Ca_beginLoop g post S h0 a0 a1) : Met l y_Ca_beginLoop (.code y_Ca_beginLoop b_Ca_beginLoop 3 none :: w_C) (rmM 0 0) (va_Pc [.ref (h0), .int (a0), .int (a1)] (PC g sz S)) (va_Qv post (BC g (AC g sz S)) (AC g sz S)) 0 0 (AC g sz S) := by
  refine ofC_v (by decide) (Nat.le_of_ble_eq_true rfl) (fun p e s m args below meth c Q A H locs ls hx hb hml hts hown hK hA hC hN kr hl hP hD hS => ?_)
  have hl : lv_has ls 3 [(0, .ref (h0)), (1, .int (a0)), (2, .int (a1))] := hl
  unfold wp_Ca_beginLoop at hw
  have J38 : ∀ (S : StC)  (H : Heap) (locs : List Loc) (ls : Array Slot), wq_Ca_beginLoop_38 g post  S  → lv_has ls 3 [] → va_P g.1 classes (wC g S) H → va_D A (wC g S) → va_S A s.heap H locs → W p l e (rmM 0 0) s m args below meth c H locs 0 0 Q (F0 m 38 ls []) := by
    intro S  H locs ls hw hl hP hD hS
    unfold wq_Ca_beginLoop_38 at hw
    exact kr S _ _ _ _ hw hP hD hS d_Ca_beginLoop_38
  refine lv_aload_n hx hb d_Ca_beginLoop_0 rfl (lv_at hl 0 rfl) ?_
  obtain ⟨vs1, z5, ha2, hf3, hv4, hw⟩ := hw
  refine pg_C (S := S) (vs := vs1) (v := .int (z5)) (C := R_Ca) (F := F_Ca) (N := 5) hx hb hts hin_Ca hown hK hP ha2 hf3 rfl 4 (by decide) hv4 k_C_104 d_Ca_beginLoop_1 ?_
  refine lv_iconst (v := 4) hx hb d_Ca_beginLoop_4 (by decide) ?_
  refine lv_icmp_ge hx hb d_Ca_beginLoop_5 (tgt := 38) (by decide) (fun hc => ?_) (fun hc => ?_)
  · have hw := hw.1 hc
    exact J38 S  _ _ _ hw (lv_sub hl [] rfl) hP hD hS
  · have hw := hw.2 hc
    refine lv_aload_n hx hb d_Ca_beginLoop_8 rfl (lv_at hl 0 rfl) ?_
    obtain ⟨vs6, z10, ha7, hf8, hv9, hw⟩ := hw
    refine pg_C (S := S) (vs := vs6) (v := .ref (z10)) (C := R_Ca) (F := F_Ca) (N := 5) hx hb hts hin_Ca hown hK hP ha7 hf8 rfl 2 (by decide) hv9 k_C_102 d_Ca_beginLoop_9 ?_
    refine lv_aload_n hx hb d_Ca_beginLoop_12 rfl (lv_at hl 0 rfl) ?_
    obtain ⟨vs11, z15, ha12, hf13, hv14, hw⟩ := hw
    refine pg_C (S := S) (vs := vs11) (v := .int (z15)) (C := R_Ca) (F := F_Ca) (N := 5) hx hb hts hin_Ca hown hK hP ha12 hf13 rfl 4 (by decide) hv14 k_C_104 d_Ca_beginLoop_13 ?_
    refine lv_iload_n hx hb d_Ca_beginLoop_16 rfl (lv_at hl 1 rfl) ?_
    obtain ⟨n16, f17, ha18, hf19, hi20, hw⟩ := hw
    refine pis_C (S := S) hx hb hK hP hD hS ha18 hf19 hi20 d_Ca_beginLoop_17 (fun H locs hP hD hS => ?_)
    have hP : va_P g.1 classes (wC g (S.1, S.2.1, S.2.2.1, S.2.2.2.1, S.2.2.2.2.1, S.2.2.2.2.2.1, (va_up S.2.2.2.2.2.2 z10 (.inl (g.2.1 0, n16, .inl (upd f17 (Int32.toNatClampNeg (z15)) (a0))))))) H := hP
    have hD : va_D A (wC g (S.1, S.2.1, S.2.2.1, S.2.2.2.1, S.2.2.2.2.1, S.2.2.2.2.2.1, (va_up S.2.2.2.2.2.2 z10 (.inl (g.2.1 0, n16, .inl (upd f17 (Int32.toNatClampNeg (z15)) (a0))))))) := hD
    refine lv_aload_n hx hb d_Ca_beginLoop_18 rfl (lv_at hl 0 rfl) ?_
    obtain ⟨vs21, z25, ha22, hf23, hv24, hw⟩ := hw
    refine pg_C (S := (S.1, S.2.1, S.2.2.1, S.2.2.2.1, S.2.2.2.2.1, S.2.2.2.2.2.1, (va_up S.2.2.2.2.2.2 z10 (.inl (g.2.1 0, n16, .inl (upd f17 (Int32.toNatClampNeg (z15)) (a0))))))) (vs := vs21) (v := .ref (z25)) (C := R_Ca) (F := F_Ca) (N := 5) hx hb hts hin_Ca hown hK hP ha22 hf23 rfl 3 (by decide) hv24 k_C_103 d_Ca_beginLoop_19 ?_
    refine lv_aload_n hx hb d_Ca_beginLoop_22 rfl (lv_at hl 0 rfl) ?_
    obtain ⟨vs26, z30, ha27, hf28, hv29, hw⟩ := hw
    refine pg_C (S := (S.1, S.2.1, S.2.2.1, S.2.2.2.1, S.2.2.2.2.1, S.2.2.2.2.2.1, (va_up S.2.2.2.2.2.2 z10 (.inl (g.2.1 0, n16, .inl (upd f17 (Int32.toNatClampNeg (z15)) (a0))))))) (vs := vs26) (v := .int (z30)) (C := R_Ca) (F := F_Ca) (N := 5) hx hb hts hin_Ca hown hK hP ha27 hf28 rfl 4 (by decide) hv29 k_C_104 d_Ca_beginLoop_23 ?_
    refine lv_iload_n hx hb d_Ca_beginLoop_26 rfl (lv_at hl 2 rfl) ?_
    obtain ⟨n31, f32, ha33, hf34, hi35, hw⟩ := hw
    refine pis_C (S := (S.1, S.2.1, S.2.2.1, S.2.2.2.1, S.2.2.2.2.1, S.2.2.2.2.2.1, (va_up S.2.2.2.2.2.2 z10 (.inl (g.2.1 0, n16, .inl (upd f17 (Int32.toNatClampNeg (z15)) (a0))))))) hx hb hK hP hD hS ha33 hf34 hi35 d_Ca_beginLoop_27 (fun H locs hP hD hS => ?_)
    have hP : va_P g.1 classes (wC g (S.1, S.2.1, S.2.2.1, S.2.2.2.1, S.2.2.2.2.1, S.2.2.2.2.2.1, (va_up (va_up S.2.2.2.2.2.2 z10 (.inl (g.2.1 0, n16, .inl (upd f17 (Int32.toNatClampNeg (z15)) (a0))))) z25 (.inl (g.2.1 0, n31, .inl (upd f32 (Int32.toNatClampNeg (z30)) (a1))))))) H := hP
    have hD : va_D A (wC g (S.1, S.2.1, S.2.2.1, S.2.2.2.1, S.2.2.2.2.1, S.2.2.2.2.2.1, (va_up (va_up S.2.2.2.2.2.2 z10 (.inl (g.2.1 0, n16, .inl (upd f17 (Int32.toNatClampNeg (z15)) (a0))))) z25 (.inl (g.2.1 0, n31, .inl (upd f32 (Int32.toNatClampNeg (z30)) (a1))))))) := hD
    refine lv_aload_n hx hb d_Ca_beginLoop_28 rfl (lv_at hl 0 rfl) ?_
    refine lv_dup hx hb d_Ca_beginLoop_29 rfl ?_
    obtain ⟨vs36, z40, ha37, hf38, hv39, hw⟩ := hw
    refine pg_C (S := (S.1, S.2.1, S.2.2.1, S.2.2.2.1, S.2.2.2.2.1, S.2.2.2.2.2.1, (va_up (va_up S.2.2.2.2.2.2 z10 (.inl (g.2.1 0, n16, .inl (upd f17 (Int32.toNatClampNeg (z15)) (a0))))) z25 (.inl (g.2.1 0, n31, .inl (upd f32 (Int32.toNatClampNeg (z30)) (a1))))))) (vs := vs36) (v := .int (z40)) (C := R_Ca) (F := F_Ca) (N := 5) hx hb hts hin_Ca hown hK hP ha37 hf38 rfl 4 (by decide) hv39 k_C_104 d_Ca_beginLoop_30 ?_
    refine lv_iconst (v := 1) hx hb d_Ca_beginLoop_33 (by decide) ?_
    refine lv_iadd hx hb d_Ca_beginLoop_34 ?_
    obtain ⟨vs41, ha42, hf43, hk44, hw⟩ := hw
    refine pp_C (S := (S.1, S.2.1, S.2.2.1, S.2.2.2.1, S.2.2.2.2.1, S.2.2.2.2.2.1, (va_up (va_up S.2.2.2.2.2.2 z10 (.inl (g.2.1 0, n16, .inl (upd f17 (Int32.toNatClampNeg (z15)) (a0))))) z25 (.inl (g.2.1 0, n31, .inl (upd f32 (Int32.toNatClampNeg (z30)) (a1))))))) (vs := vs41) (v := .int ((z40 + 1))) (C := R_Ca) (F := F_Ca) (N := 5) hx hb hts hin_Ca t_Ca t_Ca_ok n_Ca hown hK hP hD hS ha42 hf43 rfl 4 (by decide) rfl rfl rfl hk44 k_C_104 d_Ca_beginLoop_35 (fun H locs hP hD hS => ?_)
    have hP : va_P g.1 classes (wC g (S.1, S.2.1, S.2.2.1, S.2.2.2.1, S.2.2.2.2.1, S.2.2.2.2.2.1, (va_up (va_up (va_up S.2.2.2.2.2.2 z10 (.inl (g.2.1 0, n16, .inl (upd f17 (Int32.toNatClampNeg (z15)) (a0))))) z25 (.inl (g.2.1 0, n31, .inl (upd f32 (Int32.toNatClampNeg (z30)) (a1))))) h0 (.inr (9, vs41.set 4 (.int ((z40 + 1)))))))) H := hP
    have hD : va_D A (wC g (S.1, S.2.1, S.2.2.1, S.2.2.2.1, S.2.2.2.2.1, S.2.2.2.2.2.1, (va_up (va_up (va_up S.2.2.2.2.2.2 z10 (.inl (g.2.1 0, n16, .inl (upd f17 (Int32.toNatClampNeg (z15)) (a0))))) z25 (.inl (g.2.1 0, n31, .inl (upd f32 (Int32.toNatClampNeg (z30)) (a1))))) h0 (.inr (9, vs41.set 4 (.int ((z40 + 1)))))))) := hD
    exact J38 (S.1, S.2.1, S.2.2.1, S.2.2.2.1, S.2.2.2.2.1, S.2.2.2.2.2.1, (va_up (va_up (va_up S.2.2.2.2.2.2 z10 (.inl (g.2.1 0, n16, .inl (upd f17 (Int32.toNatClampNeg (z15)) (a0))))) z25 (.inl (g.2.1 0, n31, .inl (upd f32 (Int32.toNatClampNeg (z30)) (a1))))) h0 (.inr (9, vs41.set 4 (.int ((z40 + 1)))))))  _ _ _ hw (lv_sub hl [] rfl) hP hD hS
theorem d_Ca_countOn_0 : decode b_Ca_countOn 0 = .ok (.aload_n 0, 1) := by decide +kernel
theorem d_Ca_countOn_1 : decode b_Ca_countOn 1 = .ok (.getfield 26, 3) := by decide +kernel
theorem d_Ca_countOn_4 : decode b_Ca_countOn 4 = .ok (.ifCond .ne 5, 3) := by decide +kernel
theorem d_Ca_countOn_7 : decode b_Ca_countOn 7 = .ok (.iconst 0, 1) := by decide +kernel
theorem d_Ca_countOn_8 : decode b_Ca_countOn 8 = .ok (.ireturn, 1) := by decide +kernel
theorem d_Ca_countOn_9 : decode b_Ca_countOn 9 = .ok (.aload_n 0, 1) := by decide +kernel
theorem d_Ca_countOn_10 : decode b_Ca_countOn 10 = .ok (.getfield 15, 3) := by decide +kernel
theorem d_Ca_countOn_13 : decode b_Ca_countOn 13 = .ok (.aload_n 0, 1) := by decide +kernel
theorem d_Ca_countOn_14 : decode b_Ca_countOn 14 = .ok (.getfield 26, 3) := by decide +kernel
theorem d_Ca_countOn_17 : decode b_Ca_countOn 17 = .ok (.iconst 1, 1) := by decide +kernel
theorem d_Ca_countOn_18 : decode b_Ca_countOn 18 = .ok (.isub, 1) := by decide +kernel
theorem d_Ca_countOn_19 : decode b_Ca_countOn 19 = .ok (.dup2, 1) := by decide +kernel
theorem d_Ca_countOn_20 : decode b_Ca_countOn 20 = .ok (.iaload, 1) := by decide +kernel
theorem d_Ca_countOn_21 : decode b_Ca_countOn 21 = .ok (.iconst 1, 1) := by decide +kernel
theorem d_Ca_countOn_22 : decode b_Ca_countOn 22 = .ok (.iadd, 1) := by decide +kernel
theorem d_Ca_countOn_23 : decode b_Ca_countOn 23 = .ok (.iastore, 1) := by decide +kernel
theorem d_Ca_countOn_24 : decode b_Ca_countOn 24 = .ok (.aload_n 0, 1) := by decide +kernel
theorem d_Ca_countOn_25 : decode b_Ca_countOn 25 = .ok (.getfield 15, 3) := by decide +kernel
theorem d_Ca_countOn_28 : decode b_Ca_countOn 28 = .ok (.aload_n 0, 1) := by decide +kernel
theorem d_Ca_countOn_29 : decode b_Ca_countOn 29 = .ok (.getfield 26, 3) := by decide +kernel
theorem d_Ca_countOn_32 : decode b_Ca_countOn 32 = .ok (.iconst 1, 1) := by decide +kernel
theorem d_Ca_countOn_33 : decode b_Ca_countOn 33 = .ok (.isub, 1) := by decide +kernel
theorem d_Ca_countOn_34 : decode b_Ca_countOn 34 = .ok (.iaload, 1) := by decide +kernel
theorem d_Ca_countOn_35 : decode b_Ca_countOn 35 = .ok (.aload_n 0, 1) := by decide +kernel
theorem d_Ca_countOn_36 : decode b_Ca_countOn 36 = .ok (.getfield 9, 3) := by decide +kernel
theorem d_Ca_countOn_39 : decode b_Ca_countOn 39 = .ok (.aload_n 0, 1) := by decide +kernel
theorem d_Ca_countOn_40 : decode b_Ca_countOn 40 = .ok (.getfield 26, 3) := by decide +kernel
theorem d_Ca_countOn_43 : decode b_Ca_countOn 43 = .ok (.iconst 1, 1) := by decide +kernel
theorem d_Ca_countOn_44 : decode b_Ca_countOn 44 = .ok (.isub, 1) := by decide +kernel
theorem d_Ca_countOn_45 : decode b_Ca_countOn 45 = .ok (.iaload, 1) := by decide +kernel
theorem d_Ca_countOn_46 : decode b_Ca_countOn 46 = .ok (.if_icmp .eq 5, 3) := by decide +kernel
theorem d_Ca_countOn_49 : decode b_Ca_countOn 49 = .ok (.iconst 1, 1) := by decide +kernel
theorem d_Ca_countOn_50 : decode b_Ca_countOn 50 = .ok (.ireturn, 1) := by decide +kernel
theorem d_Ca_countOn_51 : decode b_Ca_countOn 51 = .ok (.aload_n 0, 1) := by decide +kernel
theorem d_Ca_countOn_52 : decode b_Ca_countOn 52 = .ok (.dup, 1) := by decide +kernel
theorem d_Ca_countOn_53 : decode b_Ca_countOn 53 = .ok (.getfield 26, 3) := by decide +kernel
theorem d_Ca_countOn_56 : decode b_Ca_countOn 56 = .ok (.iconst 1, 1) := by decide +kernel
theorem d_Ca_countOn_57 : decode b_Ca_countOn 57 = .ok (.isub, 1) := by decide +kernel
theorem d_Ca_countOn_58 : decode b_Ca_countOn 58 = .ok (.putfield 26, 3) := by decide +kernel
theorem d_Ca_countOn_61 : decode b_Ca_countOn 61 = .ok (.iconst 0, 1) := by decide +kernel
theorem d_Ca_countOn_62 : decode b_Ca_countOn 62 = .ok (.ireturn, 1) := by decide +kernel
def wp_Ca_countOn (g : Gm) (post : Int32 → StC → Prop) (S : StC) (h0 : Nat) : Prop :=
  ∃ (vs1 : List Value) (z5 : Int32), (h0 ∈ S.2.2.2.2.2.1) ∧ (S.2.2.2.2.2.2 h0 = .inr (9, vs1)) ∧ (vs1[4]? = some (.int (z5))) ∧ (((z5 = 0) → post (0) S) ∧ (¬ (z5 = 0) → ∃ (vs6 : List Value) (z10 : Nat), (h0 ∈ S.2.2.2.2.2.1) ∧ (S.2.2.2.2.2.2 h0 = .inr (9, vs6)) ∧ (vs6[3]? = some (.ref (z10))) ∧ (∃ (vs11 : List Value) (z15 : Int32), (h0 ∈ S.2.2.2.2.2.1) ∧ (S.2.2.2.2.2.2 h0 = .inr (9, vs11)) ∧ (vs11[4]? = some (.int (z15))) ∧ (∃ (n16 : Nat) (f17 : Nat → Int32), (z10 ∈ S.2.2.2.2.2.1) ∧ (S.2.2.2.2.2.2 z10 = .inl (g.2.1 0, n16, .inl f17)) ∧ (vp_in (z15 - 1) n16) ∧ (∃ (n21 : Nat) (f22 : Nat → Int32), (z10 ∈ S.2.2.2.2.2.1) ∧ (S.2.2.2.2.2.2 z10 = .inl (g.2.1 0, n21, .inl f22)) ∧ (vp_in (z15 - 1) n21) ∧ (∃ (vs26 : List Value) (z30 : Nat), (h0 ∈ S.2.2.2.2.2.1) ∧ ((va_up S.2.2.2.2.2.2 z10 (.inl (g.2.1 0, n21, .inl (upd f22 (Int32.toNatClampNeg ((z15 - 1))) (((f17 (Int32.toNatClampNeg ((z15 - 1)))) + 1)))))) h0 = .inr (9, vs26)) ∧ (vs26[3]? = some (.ref (z30))) ∧ (∃ (vs31 : List Value) (z35 : Int32), (h0 ∈ S.2.2.2.2.2.1) ∧ ((va_up S.2.2.2.2.2.2 z10 (.inl (g.2.1 0, n21, .inl (upd f22 (Int32.toNatClampNeg ((z15 - 1))) (((f17 (Int32.toNatClampNeg ((z15 - 1)))) + 1)))))) h0 = .inr (9, vs31)) ∧ (vs31[4]? = some (.int (z35))) ∧ (∃ (n36 : Nat) (f37 : Nat → Int32), (z30 ∈ S.2.2.2.2.2.1) ∧ ((va_up S.2.2.2.2.2.2 z10 (.inl (g.2.1 0, n21, .inl (upd f22 (Int32.toNatClampNeg ((z15 - 1))) (((f17 (Int32.toNatClampNeg ((z15 - 1)))) + 1)))))) z30 = .inl (g.2.1 0, n36, .inl f37)) ∧ (vp_in (z35 - 1) n36) ∧ (∃ (vs41 : List Value) (z45 : Nat), (h0 ∈ S.2.2.2.2.2.1) ∧ ((va_up S.2.2.2.2.2.2 z10 (.inl (g.2.1 0, n21, .inl (upd f22 (Int32.toNatClampNeg ((z15 - 1))) (((f17 (Int32.toNatClampNeg ((z15 - 1)))) + 1)))))) h0 = .inr (9, vs41)) ∧ (vs41[2]? = some (.ref (z45))) ∧ (∃ (vs46 : List Value) (z50 : Int32), (h0 ∈ S.2.2.2.2.2.1) ∧ ((va_up S.2.2.2.2.2.2 z10 (.inl (g.2.1 0, n21, .inl (upd f22 (Int32.toNatClampNeg ((z15 - 1))) (((f17 (Int32.toNatClampNeg ((z15 - 1)))) + 1)))))) h0 = .inr (9, vs46)) ∧ (vs46[4]? = some (.int (z50))) ∧ (∃ (n51 : Nat) (f52 : Nat → Int32), (z45 ∈ S.2.2.2.2.2.1) ∧ ((va_up S.2.2.2.2.2.2 z10 (.inl (g.2.1 0, n21, .inl (upd f22 (Int32.toNatClampNeg ((z15 - 1))) (((f17 (Int32.toNatClampNeg ((z15 - 1)))) + 1)))))) z45 = .inl (g.2.1 0, n51, .inl f52)) ∧ (vp_in (z50 - 1) n51) ∧ ((((f37 (Int32.toNatClampNeg ((z35 - 1)))) = (f52 (Int32.toNatClampNeg ((z50 - 1))))) → ∃ (vs56 : List Value) (z60 : Int32), (h0 ∈ S.2.2.2.2.2.1) ∧ ((va_up S.2.2.2.2.2.2 z10 (.inl (g.2.1 0, n21, .inl (upd f22 (Int32.toNatClampNeg ((z15 - 1))) (((f17 (Int32.toNatClampNeg ((z15 - 1)))) + 1)))))) h0 = .inr (9, vs56)) ∧ (vs56[4]? = some (.int (z60))) ∧ (∃ (vs61 : List Value), (h0 ∈ S.2.2.2.2.2.1) ∧ ((va_up S.2.2.2.2.2.2 z10 (.inl (g.2.1 0, n21, .inl (upd f22 (Int32.toNatClampNeg ((z15 - 1))) (((f17 (Int32.toNatClampNeg ((z15 - 1)))) + 1)))))) h0 = .inr (9, vs61)) ∧ (4 < vs61.length) ∧ (post (0) (S.1, S.2.1, S.2.2.1, S.2.2.2.1, S.2.2.2.2.1, S.2.2.2.2.2.1, (va_up (va_up S.2.2.2.2.2.2 z10 (.inl (g.2.1 0, n21, .inl (upd f22 (Int32.toNatClampNeg ((z15 - 1))) (((f17 (Int32.toNatClampNeg ((z15 - 1)))) + 1)))))) h0 (.inr (9, vs61.set 4 (.int ((z60 - 1)))))))))) ∧ (¬ ((f37 (Int32.toNatClampNeg ((z35 - 1)))) = (f52 (Int32.toNatClampNeg ((z50 - 1))))) → post (1) (S.1, S.2.1, S.2.2.1, S.2.2.2.1, S.2.2.2.2.1, S.2.2.2.2.2.1, (va_up S.2.2.2.2.2.2 z10 (.inl (g.2.1 0, n21, .inl (upd f22 (Int32.toNatClampNeg ((z15 - 1))) (((f17 (Int32.toNatClampNeg ((z15 - 1)))) + 1))))))))))))))))))))
set_option maxRecDepth 100000 in
set_option maxHeartbeats 4000000 in
theorem c_Ca_countOn (l : Launch) (g : Gm) (sz : Nat) (S : StC) (h0 : Nat) (post : Int32 → StC → Prop) (hw : wp_Ca_countOn g post S h0) : Met l y_Ca_countOn (.code y_Ca_countOn b_Ca_countOn 1 (some .boolean) :: w_C) (rmM 0 0) (va_Pc [.ref (h0)] (PC g sz S)) (va_Qi post (BC g (AC g sz S)) (AC g sz S)) 0 0 (AC g sz S) := by
  refine ofC_z (by decide) (Nat.le_of_ble_eq_true rfl) (fun p e s m args below meth c Q A H locs ls hx hb hml hts hown hK hA hC hN kr hl hP hD hS => ?_)
  have hl : lv_has ls 1 [(0, .ref (h0))] := hl
  unfold wp_Ca_countOn at hw
  refine lv_aload_n hx hb d_Ca_countOn_0 rfl (lv_at hl 0 rfl) ?_
  obtain ⟨vs1, z5, ha2, hf3, hv4, hw⟩ := hw
  refine pg_C (S := S) (vs := vs1) (v := .int (z5)) (C := R_Ca) (F := F_Ca) (N := 5) hx hb hts hin_Ca hown hK hP ha2 hf3 rfl 4 (by decide) hv4 k_C_104 d_Ca_countOn_1 ?_
  refine lv_if_ne hx hb d_Ca_countOn_4 (tgt := 9) (by decide) (fun hc => ?_) (fun hc => ?_)
  · have hw := hw.2 hc
    refine lv_aload_n hx hb d_Ca_countOn_9 rfl (lv_at hl 0 rfl) ?_
    obtain ⟨vs6, z10, ha7, hf8, hv9, hw⟩ := hw
    refine pg_C (S := S) (vs := vs6) (v := .ref (z10)) (C := R_Ca) (F := F_Ca) (N := 5) hx hb hts hin_Ca hown hK hP ha7 hf8 rfl 3 (by decide) hv9 k_C_103 d_Ca_countOn_10 ?_
    refine lv_aload_n hx hb d_Ca_countOn_13 rfl (lv_at hl 0 rfl) ?_
    obtain ⟨vs11, z15, ha12, hf13, hv14, hw⟩ := hw
    refine pg_C (S := S) (vs := vs11) (v := .int (z15)) (C := R_Ca) (F := F_Ca) (N := 5) hx hb hts hin_Ca hown hK hP ha12 hf13 rfl 4 (by decide) hv14 k_C_104 d_Ca_countOn_14 ?_
    refine lv_iconst (v := 1) hx hb d_Ca_countOn_17 (by decide) ?_
    refine lv_isub hx hb d_Ca_countOn_18 ?_
    refine lv_dup2_11 hx hb d_Ca_countOn_19 rfl rfl ?_
    obtain ⟨n16, f17, ha18, hf19, hi20, hw⟩ := hw
    refine pil_C (S := S) hx hb hK hP ha18 hf19 hi20 d_Ca_countOn_20 ?_
    refine lv_iconst (v := 1) hx hb d_Ca_countOn_21 (by decide) ?_
    refine lv_iadd hx hb d_Ca_countOn_22 ?_
    obtain ⟨n21, f22, ha23, hf24, hi25, hw⟩ := hw
    refine pis_C (S := S) hx hb hK hP hD hS ha23 hf24 hi25 d_Ca_countOn_23 (fun H locs hP hD hS => ?_)
    have hP : va_P g.1 classes (wC g (S.1, S.2.1, S.2.2.1, S.2.2.2.1, S.2.2.2.2.1, S.2.2.2.2.2.1, (va_up S.2.2.2.2.2.2 z10 (.inl (g.2.1 0, n21, .inl (upd f22 (Int32.toNatClampNeg ((z15 - 1))) (((f17 (Int32.toNatClampNeg ((z15 - 1)))) + 1)))))))) H := hP
    have hD : va_D A (wC g (S.1, S.2.1, S.2.2.1, S.2.2.2.1, S.2.2.2.2.1, S.2.2.2.2.2.1, (va_up S.2.2.2.2.2.2 z10 (.inl (g.2.1 0, n21, .inl (upd f22 (Int32.toNatClampNeg ((z15 - 1))) (((f17 (Int32.toNatClampNeg ((z15 - 1)))) + 1)))))))) := hD
    refine lv_aload_n hx hb d_Ca_countOn_24 rfl (lv_at hl 0 rfl) ?_
    obtain ⟨vs26, z30, ha27, hf28, hv29, hw⟩ := hw
    refine pg_C (S := (S.1, S.2.1, S.2.2.1, S.2.2.2.1, S.2.2.2.2.1, S.2.2.2.2.2.1, (va_up S.2.2.2.2.2.2 z10 (.inl (g.2.1 0, n21, .inl (upd f22 (Int32.toNatClampNeg ((z15 - 1))) (((f17 (Int32.toNatClampNeg ((z15 - 1)))) + 1)))))))) (vs := vs26) (v := .ref (z30)) (C := R_Ca) (F := F_Ca) (N := 5) hx hb hts hin_Ca hown hK hP ha27 hf28 rfl 3 (by decide) hv29 k_C_103 d_Ca_countOn_25 ?_
    refine lv_aload_n hx hb d_Ca_countOn_28 rfl (lv_at hl 0 rfl) ?_
    obtain ⟨vs31, z35, ha32, hf33, hv34, hw⟩ := hw
    refine pg_C (S := (S.1, S.2.1, S.2.2.1, S.2.2.2.1, S.2.2.2.2.1, S.2.2.2.2.2.1, (va_up S.2.2.2.2.2.2 z10 (.inl (g.2.1 0, n21, .inl (upd f22 (Int32.toNatClampNeg ((z15 - 1))) (((f17 (Int32.toNatClampNeg ((z15 - 1)))) + 1)))))))) (vs := vs31) (v := .int (z35)) (C := R_Ca) (F := F_Ca) (N := 5) hx hb hts hin_Ca hown hK hP ha32 hf33 rfl 4 (by decide) hv34 k_C_104 d_Ca_countOn_29 ?_
    refine lv_iconst (v := 1) hx hb d_Ca_countOn_32 (by decide) ?_
    refine lv_isub hx hb d_Ca_countOn_33 ?_
    obtain ⟨n36, f37, ha38, hf39, hi40, hw⟩ := hw
    refine pil_C (S := (S.1, S.2.1, S.2.2.1, S.2.2.2.1, S.2.2.2.2.1, S.2.2.2.2.2.1, (va_up S.2.2.2.2.2.2 z10 (.inl (g.2.1 0, n21, .inl (upd f22 (Int32.toNatClampNeg ((z15 - 1))) (((f17 (Int32.toNatClampNeg ((z15 - 1)))) + 1)))))))) hx hb hK hP ha38 hf39 hi40 d_Ca_countOn_34 ?_
    refine lv_aload_n hx hb d_Ca_countOn_35 rfl (lv_at hl 0 rfl) ?_
    obtain ⟨vs41, z45, ha42, hf43, hv44, hw⟩ := hw
    refine pg_C (S := (S.1, S.2.1, S.2.2.1, S.2.2.2.1, S.2.2.2.2.1, S.2.2.2.2.2.1, (va_up S.2.2.2.2.2.2 z10 (.inl (g.2.1 0, n21, .inl (upd f22 (Int32.toNatClampNeg ((z15 - 1))) (((f17 (Int32.toNatClampNeg ((z15 - 1)))) + 1)))))))) (vs := vs41) (v := .ref (z45)) (C := R_Ca) (F := F_Ca) (N := 5) hx hb hts hin_Ca hown hK hP ha42 hf43 rfl 2 (by decide) hv44 k_C_102 d_Ca_countOn_36 ?_
    refine lv_aload_n hx hb d_Ca_countOn_39 rfl (lv_at hl 0 rfl) ?_
    obtain ⟨vs46, z50, ha47, hf48, hv49, hw⟩ := hw
    refine pg_C (S := (S.1, S.2.1, S.2.2.1, S.2.2.2.1, S.2.2.2.2.1, S.2.2.2.2.2.1, (va_up S.2.2.2.2.2.2 z10 (.inl (g.2.1 0, n21, .inl (upd f22 (Int32.toNatClampNeg ((z15 - 1))) (((f17 (Int32.toNatClampNeg ((z15 - 1)))) + 1)))))))) (vs := vs46) (v := .int (z50)) (C := R_Ca) (F := F_Ca) (N := 5) hx hb hts hin_Ca hown hK hP ha47 hf48 rfl 4 (by decide) hv49 k_C_104 d_Ca_countOn_40 ?_
    refine lv_iconst (v := 1) hx hb d_Ca_countOn_43 (by decide) ?_
    refine lv_isub hx hb d_Ca_countOn_44 ?_
    obtain ⟨n51, f52, ha53, hf54, hi55, hw⟩ := hw
    refine pil_C (S := (S.1, S.2.1, S.2.2.1, S.2.2.2.1, S.2.2.2.2.1, S.2.2.2.2.2.1, (va_up S.2.2.2.2.2.2 z10 (.inl (g.2.1 0, n21, .inl (upd f22 (Int32.toNatClampNeg ((z15 - 1))) (((f17 (Int32.toNatClampNeg ((z15 - 1)))) + 1)))))))) hx hb hK hP ha53 hf54 hi55 d_Ca_countOn_45 ?_
    refine lv_icmp_eq hx hb d_Ca_countOn_46 (tgt := 51) (by decide) (fun hc => ?_) (fun hc => ?_)
    · have hw := hw.1 hc
      refine lv_aload_n hx hb d_Ca_countOn_51 rfl (lv_at hl 0 rfl) ?_
      refine lv_dup hx hb d_Ca_countOn_52 rfl ?_
      obtain ⟨vs56, z60, ha57, hf58, hv59, hw⟩ := hw
      refine pg_C (S := (S.1, S.2.1, S.2.2.1, S.2.2.2.1, S.2.2.2.2.1, S.2.2.2.2.2.1, (va_up S.2.2.2.2.2.2 z10 (.inl (g.2.1 0, n21, .inl (upd f22 (Int32.toNatClampNeg ((z15 - 1))) (((f17 (Int32.toNatClampNeg ((z15 - 1)))) + 1)))))))) (vs := vs56) (v := .int (z60)) (C := R_Ca) (F := F_Ca) (N := 5) hx hb hts hin_Ca hown hK hP ha57 hf58 rfl 4 (by decide) hv59 k_C_104 d_Ca_countOn_53 ?_
      refine lv_iconst (v := 1) hx hb d_Ca_countOn_56 (by decide) ?_
      refine lv_isub hx hb d_Ca_countOn_57 ?_
      obtain ⟨vs61, ha62, hf63, hk64, hw⟩ := hw
      refine pp_C (S := (S.1, S.2.1, S.2.2.1, S.2.2.2.1, S.2.2.2.2.1, S.2.2.2.2.2.1, (va_up S.2.2.2.2.2.2 z10 (.inl (g.2.1 0, n21, .inl (upd f22 (Int32.toNatClampNeg ((z15 - 1))) (((f17 (Int32.toNatClampNeg ((z15 - 1)))) + 1)))))))) (vs := vs61) (v := .int ((z60 - 1))) (C := R_Ca) (F := F_Ca) (N := 5) hx hb hts hin_Ca t_Ca t_Ca_ok n_Ca hown hK hP hD hS ha62 hf63 rfl 4 (by decide) rfl rfl rfl hk64 k_C_104 d_Ca_countOn_58 (fun H locs hP hD hS => ?_)
      have hP : va_P g.1 classes (wC g (S.1, S.2.1, S.2.2.1, S.2.2.2.1, S.2.2.2.2.1, S.2.2.2.2.2.1, (va_up (va_up S.2.2.2.2.2.2 z10 (.inl (g.2.1 0, n21, .inl (upd f22 (Int32.toNatClampNeg ((z15 - 1))) (((f17 (Int32.toNatClampNeg ((z15 - 1)))) + 1)))))) h0 (.inr (9, vs61.set 4 (.int ((z60 - 1)))))))) H := hP
      have hD : va_D A (wC g (S.1, S.2.1, S.2.2.1, S.2.2.2.1, S.2.2.2.2.1, S.2.2.2.2.2.1, (va_up (va_up S.2.2.2.2.2.2 z10 (.inl (g.2.1 0, n21, .inl (upd f22 (Int32.toNatClampNeg ((z15 - 1))) (((f17 (Int32.toNatClampNeg ((z15 - 1)))) + 1)))))) h0 (.inr (9, vs61.set 4 (.int ((z60 - 1)))))))) := hD
      refine lv_iconst (v := 0) hx hb d_Ca_countOn_61 (by decide) ?_
      exact kr (0) (S.1, S.2.1, S.2.2.1, S.2.2.2.1, S.2.2.2.2.1, S.2.2.2.2.2.1, (va_up (va_up S.2.2.2.2.2.2 z10 (.inl (g.2.1 0, n21, .inl (upd f22 (Int32.toNatClampNeg ((z15 - 1))) (((f17 (Int32.toNatClampNeg ((z15 - 1)))) + 1)))))) h0 (.inr (9, vs61.set 4 (.int ((z60 - 1))))))) _ _ _ _ rfl hw hP hD hS d_Ca_countOn_62
    · have hw := hw.2 hc
      refine lv_iconst (v := 1) hx hb d_Ca_countOn_49 (by decide) ?_
      exact kr (1) (S.1, S.2.1, S.2.2.1, S.2.2.2.1, S.2.2.2.2.1, S.2.2.2.2.2.1, (va_up S.2.2.2.2.2.2 z10 (.inl (g.2.1 0, n21, .inl (upd f22 (Int32.toNatClampNeg ((z15 - 1))) (((f17 (Int32.toNatClampNeg ((z15 - 1)))) + 1))))))) _ _ _ _ rfl hw hP hD hS d_Ca_countOn_50
  · have hw := hw.1 hc
    refine lv_iconst (v := 0) hx hb d_Ca_countOn_7 (by decide) ?_
    exact kr (0) S _ _ _ _ rfl hw hP hD hS d_Ca_countOn_8
theorem d_Ca_loopCount_0 : decode b_Ca_loopCount 0 = .ok (.iload_n 1, 1) := by decide +kernel
theorem d_Ca_loopCount_1 : decode b_Ca_loopCount 1 = .ok (.ifCond .lt 27, 3) := by decide +kernel
theorem d_Ca_loopCount_4 : decode b_Ca_loopCount 4 = .ok (.iload_n 1, 1) := by decide +kernel
theorem d_Ca_loopCount_5 : decode b_Ca_loopCount 5 = .ok (.aload_n 0, 1) := by decide +kernel
theorem d_Ca_loopCount_6 : decode b_Ca_loopCount 6 = .ok (.getfield 26, 3) := by decide +kernel
theorem d_Ca_loopCount_9 : decode b_Ca_loopCount 9 = .ok (.if_icmp .ge 19, 3) := by decide +kernel
theorem d_Ca_loopCount_12 : decode b_Ca_loopCount 12 = .ok (.aload_n 0, 1) := by decide +kernel
theorem d_Ca_loopCount_13 : decode b_Ca_loopCount 13 = .ok (.getfield 15, 3) := by decide +kernel
theorem d_Ca_loopCount_16 : decode b_Ca_loopCount 16 = .ok (.aload_n 0, 1) := by decide +kernel
theorem d_Ca_loopCount_17 : decode b_Ca_loopCount 17 = .ok (.getfield 26, 3) := by decide +kernel
theorem d_Ca_loopCount_20 : decode b_Ca_loopCount 20 = .ok (.iconst 1, 1) := by decide +kernel
theorem d_Ca_loopCount_21 : decode b_Ca_loopCount 21 = .ok (.isub, 1) := by decide +kernel
theorem d_Ca_loopCount_22 : decode b_Ca_loopCount 22 = .ok (.iload_n 1, 1) := by decide +kernel
theorem d_Ca_loopCount_23 : decode b_Ca_loopCount 23 = .ok (.isub, 1) := by decide +kernel
theorem d_Ca_loopCount_24 : decode b_Ca_loopCount 24 = .ok (.iaload, 1) := by decide +kernel
theorem d_Ca_loopCount_25 : decode b_Ca_loopCount 25 = .ok (.goto 4, 3) := by decide +kernel
theorem d_Ca_loopCount_28 : decode b_Ca_loopCount 28 = .ok (.iconst 0, 1) := by decide +kernel
theorem d_Ca_loopCount_29 : decode b_Ca_loopCount 29 = .ok (.ireturn, 1) := by decide +kernel
def wq_Ca_loopCount_29 (g : Gm) (post : Int32 → StC → Prop)  (S : StC) (t0 : Int32) : Prop :=
  post (t0) S
def wq_Ca_loopCount_28 (g : Gm) (post : Int32 → StC → Prop)  (S : StC)  : Prop :=
  wq_Ca_loopCount_29 g post  S (0)
def wp_Ca_loopCount (g : Gm) (post : Int32 → StC → Prop) (S : StC) (h0 : Nat) (a0 : Int32) : Prop :=
  ((a0 < 0) → wq_Ca_loopCount_28 g post  S ) ∧ (¬ (a0 < 0) → ∃ (vs1 : List Value) (z5 : Int32), (h0 ∈ S.2.2.2.2.2.1) ∧ (S.2.2.2.2.2.2 h0 = .inr (9, vs1)) ∧ (vs1[4]? = some (.int (z5))) ∧ (((z5 ≤ a0) → wq_Ca_loopCount_28 g post  S ) ∧ (¬ (z5 ≤ a0) → ∃ (vs6 : List Value) (z10 : Nat), (h0 ∈ S.2.2.2.2.2.1) ∧ (S.2.2.2.2.2.2 h0 = .inr (9, vs6)) ∧ (vs6[3]? = some (.ref (z10))) ∧ (∃ (vs11 : List Value) (z15 : Int32), (h0 ∈ S.2.2.2.2.2.1) ∧ (S.2.2.2.2.2.2 h0 = .inr (9, vs11)) ∧ (vs11[4]? = some (.int (z15))) ∧ (∃ (n16 : Nat) (f17 : Nat → Int32), (z10 ∈ S.2.2.2.2.2.1) ∧ (S.2.2.2.2.2.2 z10 = .inl (g.2.1 0, n16, .inl f17)) ∧ (vp_in ((z15 - 1) - a0) n16) ∧ (wq_Ca_loopCount_29 g post  S ((f17 (Int32.toNatClampNeg (((z15 - 1) - a0)))))))))))
set_option maxRecDepth 100000 in
set_option maxHeartbeats 4000000 in
theorem c_Ca_loopCount (l : Launch) (g : Gm) (sz : Nat) (S : StC) (h0 : Nat) (a0 : Int32) (post : Int32 → StC → Prop) (hw : wp_Ca_loopCount g post S h0 a0) : Met l y_Ca_loopCount (.code y_Ca_loopCount b_Ca_loopCount 2 (some .int) :: w_C) (rmM 0 0) (va_Pc [.ref (h0), .int (a0)] (PC g sz S)) (va_Qi post (BC g (AC g sz S)) (AC g sz S)) 0 0 (AC g sz S) := by
  refine ofC_i (by decide) (Nat.le_of_ble_eq_true rfl) (fun p e s m args below meth c Q A H locs ls hx hb hml hts hown hK hA hC hN kr hl hP hD hS => ?_)
  have hl : lv_has ls 2 [(0, .ref (h0)), (1, .int (a0))] := hl
  unfold wp_Ca_loopCount at hw
  have J29 : ∀ (S : StC) (t0 : Int32) (H : Heap) (locs : List Loc) (ls : Array Slot), wq_Ca_loopCount_29 g post  S t0 → lv_has ls 2 [] → va_P g.1 classes (wC g S) H → va_D A (wC g S) → va_S A s.heap H locs → W p l e (rmM 0 0) s m args below meth c H locs 0 0 Q (F0 m 29 ls [.int (t0)]) := by
    intro S t0 H locs ls hw hl hP hD hS
    unfold wq_Ca_loopCount_29 at hw
    exact kr (t0) S _ _ _ _ hw hP hD hS d_Ca_loopCount_29
  have J28 : ∀ (S : StC)  (H : Heap) (locs : List Loc) (ls : Array Slot), wq_Ca_loopCount_28 g post  S  → lv_has ls 2 [] → va_P g.1 classes (wC g S) H → va_D A (wC g S) → va_S A s.heap H locs → W p l e (rmM 0 0) s m args below meth c H locs 0 0 Q (F0 m 28 ls []) := by
    intro S  H locs ls hw hl hP hD hS
    unfold wq_Ca_loopCount_28 at hw
    refine lv_iconst (v := 0) hx hb d_Ca_loopCount_28 (by decide) ?_
    exact J29 S (0) _ _ _ hw (lv_sub hl [] rfl) hP hD hS
  refine lv_iload_n hx hb d_Ca_loopCount_0 rfl (lv_at hl 1 rfl) ?_
  refine lv_if_lt hx hb d_Ca_loopCount_1 (tgt := 28) (by decide) (fun hc => ?_) (fun hc => ?_)
  · have hw := hw.1 hc
    exact J28 S  _ _ _ hw (lv_sub hl [] rfl) hP hD hS
  · have hw := hw.2 hc
    refine lv_iload_n hx hb d_Ca_loopCount_4 rfl (lv_at hl 1 rfl) ?_
    refine lv_aload_n hx hb d_Ca_loopCount_5 rfl (lv_at hl 0 rfl) ?_
    obtain ⟨vs1, z5, ha2, hf3, hv4, hw⟩ := hw
    refine pg_C (S := S) (vs := vs1) (v := .int (z5)) (C := R_Ca) (F := F_Ca) (N := 5) hx hb hts hin_Ca hown hK hP ha2 hf3 rfl 4 (by decide) hv4 k_C_104 d_Ca_loopCount_6 ?_
    refine lv_icmp_ge hx hb d_Ca_loopCount_9 (tgt := 28) (by decide) (fun hc => ?_) (fun hc => ?_)
    · have hw := hw.1 hc
      exact J28 S  _ _ _ hw (lv_sub hl [] rfl) hP hD hS
    · have hw := hw.2 hc
      refine lv_aload_n hx hb d_Ca_loopCount_12 rfl (lv_at hl 0 rfl) ?_
      obtain ⟨vs6, z10, ha7, hf8, hv9, hw⟩ := hw
      refine pg_C (S := S) (vs := vs6) (v := .ref (z10)) (C := R_Ca) (F := F_Ca) (N := 5) hx hb hts hin_Ca hown hK hP ha7 hf8 rfl 3 (by decide) hv9 k_C_103 d_Ca_loopCount_13 ?_
      refine lv_aload_n hx hb d_Ca_loopCount_16 rfl (lv_at hl 0 rfl) ?_
      obtain ⟨vs11, z15, ha12, hf13, hv14, hw⟩ := hw
      refine pg_C (S := S) (vs := vs11) (v := .int (z15)) (C := R_Ca) (F := F_Ca) (N := 5) hx hb hts hin_Ca hown hK hP ha12 hf13 rfl 4 (by decide) hv14 k_C_104 d_Ca_loopCount_17 ?_
      refine lv_iconst (v := 1) hx hb d_Ca_loopCount_20 (by decide) ?_
      refine lv_isub hx hb d_Ca_loopCount_21 ?_
      refine lv_iload_n hx hb d_Ca_loopCount_22 rfl (lv_at hl 1 rfl) ?_
      refine lv_isub hx hb d_Ca_loopCount_23 ?_
      obtain ⟨n16, f17, ha18, hf19, hi20, hw⟩ := hw
      refine pil_C (S := S) hx hb hK hP ha18 hf19 hi20 d_Ca_loopCount_24 ?_
      refine lv_goto hx hb d_Ca_loopCount_25 (tgt := 29) (by decide) ?_
      exact J29 S ((f17 (Int32.toNatClampNeg (((z15 - 1) - a0))))) _ _ _ hw (lv_sub hl [] rfl) hP hD hS
theorem d_Mw_isFull_0 : decode b_Mw_isFull 0 = .ok (.aload_n 0, 1) := by decide +kernel
theorem d_Mw_isFull_1 : decode b_Mw_isFull 1 = .ok (.getfield 22, 3) := by decide +kernel
theorem d_Mw_isFull_4 : decode b_Mw_isFull 4 = .ok (.bipush 60, 2) := by decide +kernel
theorem d_Mw_isFull_6 : decode b_Mw_isFull 6 = .ok (.if_icmp .lt 7, 3) := by decide +kernel
theorem d_Mw_isFull_9 : decode b_Mw_isFull 9 = .ok (.iconst 1, 1) := by decide +kernel
theorem d_Mw_isFull_10 : decode b_Mw_isFull 10 = .ok (.goto 4, 3) := by decide +kernel
theorem d_Mw_isFull_13 : decode b_Mw_isFull 13 = .ok (.iconst 0, 1) := by decide +kernel
theorem d_Mw_isFull_14 : decode b_Mw_isFull 14 = .ok (.ireturn, 1) := by decide +kernel
def wq_Mw_isFull_14 (g : Gm) (post : Int32 → StC → Prop)  (S : StC) (t0 : Int32) : Prop :=
  (narrow .boolean (.int (t0)) = .int (t0)) ∧ (post (t0) S)
def wp_Mw_isFull (g : Gm) (post : Int32 → StC → Prop) (S : StC) (h0 : Nat) : Prop :=
  ∃ (vs1 : List Value) (z5 : Int32), (h0 ∈ S.2.2.2.2.2.1) ∧ (S.2.2.2.2.2.2 h0 = .inr (11, vs1)) ∧ (vs1[3]? = some (.int (z5))) ∧ (((z5 < 60) → wq_Mw_isFull_14 g post  S (0)) ∧ (¬ (z5 < 60) → wq_Mw_isFull_14 g post  S (1)))
set_option maxRecDepth 100000 in
set_option maxHeartbeats 4000000 in
theorem c_Mw_isFull (l : Launch) (g : Gm) (sz : Nat) (S : StC) (h0 : Nat) (post : Int32 → StC → Prop) (hw : wp_Mw_isFull g post S h0) : Met l y_Mw_isFull (.code y_Mw_isFull b_Mw_isFull 1 (some .boolean) :: w_C) (rmM 0 0) (va_Pc [.ref (h0)] (PC g sz S)) (va_Qi post (BC g (AC g sz S)) (AC g sz S)) 0 0 (AC g sz S) := by
  refine ofC_z (by decide) (Nat.le_of_ble_eq_true rfl) (fun p e s m args below meth c Q A H locs ls hx hb hml hts hown hK hA hC hN kr hl hP hD hS => ?_)
  have hl : lv_has ls 1 [(0, .ref (h0))] := hl
  unfold wp_Mw_isFull at hw
  have J14 : ∀ (S : StC) (t0 : Int32) (H : Heap) (locs : List Loc) (ls : Array Slot), wq_Mw_isFull_14 g post  S t0 → lv_has ls 1 [] → va_P g.1 classes (wC g S) H → va_D A (wC g S) → va_S A s.heap H locs → W p l e (rmM 0 0) s m args below meth c H locs 0 0 Q (F0 m 14 ls [.int (t0)]) := by
    intro S t0 H locs ls hw hl hP hD hS
    unfold wq_Mw_isFull_14 at hw
    obtain ⟨hnz, hw⟩ := hw
    exact kr (t0) S _ _ _ _ hnz hw hP hD hS d_Mw_isFull_14
  refine lv_aload_n hx hb d_Mw_isFull_0 rfl (lv_at hl 0 rfl) ?_
  obtain ⟨vs1, z5, ha2, hf3, hv4, hw⟩ := hw
  refine pg_C (S := S) (vs := vs1) (v := .int (z5)) (C := R_Mw) (F := F_Mw) (N := 5) hx hb hts hin_Mw hown hK hP ha2 hf3 rfl 3 (by decide) hv4 k_C_501 d_Mw_isFull_1 ?_
  refine lv_bipush (v := 60) hx hb d_Mw_isFull_4 (by decide) ?_
  refine lv_icmp_lt hx hb d_Mw_isFull_6 (tgt := 13) (by decide) (fun hc => ?_) (fun hc => ?_)
  · have hw := hw.1 hc
    refine lv_iconst (v := 0) hx hb d_Mw_isFull_13 (by decide) ?_
    exact J14 S (0) _ _ _ hw (lv_sub hl [] rfl) hP hD hS
  · have hw := hw.2 hc
    refine lv_iconst (v := 1) hx hb d_Mw_isFull_9 (by decide) ?_
    refine lv_goto hx hb d_Mw_isFull_10 (tgt := 14) (by decide) ?_
    exact J14 S (1) _ _ _ hw (lv_sub hl [] rfl) hP hD hS
theorem d_Mw_add_0 : decode b_Mw_add 0 = .ok (.aload_n 0, 1) := by decide +kernel
theorem d_Mw_add_1 : decode b_Mw_add 1 = .ok (.getfield 22, 3) := by decide +kernel
theorem d_Mw_add_4 : decode b_Mw_add 4 = .ok (.bipush 60, 2) := by decide +kernel
theorem d_Mw_add_6 : decode b_Mw_add 6 = .ok (.if_icmp .ge 33, 3) := by decide +kernel
theorem d_Mw_add_9 : decode b_Mw_add 9 = .ok (.aload_n 0, 1) := by decide +kernel
theorem d_Mw_add_10 : decode b_Mw_add 10 = .ok (.getfield 9, 3) := by decide +kernel
theorem d_Mw_add_13 : decode b_Mw_add 13 = .ok (.aload_n 0, 1) := by decide +kernel
theorem d_Mw_add_14 : decode b_Mw_add 14 = .ok (.getfield 22, 3) := by decide +kernel
theorem d_Mw_add_17 : decode b_Mw_add 17 = .ok (.iload_n 1, 1) := by decide +kernel
theorem d_Mw_add_18 : decode b_Mw_add 18 = .ok (.iastore, 1) := by decide +kernel
theorem d_Mw_add_19 : decode b_Mw_add 19 = .ok (.aload_n 0, 1) := by decide +kernel
theorem d_Mw_add_20 : decode b_Mw_add 20 = .ok (.getfield 15, 3) := by decide +kernel
theorem d_Mw_add_23 : decode b_Mw_add 23 = .ok (.aload_n 0, 1) := by decide +kernel
theorem d_Mw_add_24 : decode b_Mw_add 24 = .ok (.getfield 22, 3) := by decide +kernel
theorem d_Mw_add_27 : decode b_Mw_add 27 = .ok (.iload_n 2, 1) := by decide +kernel
theorem d_Mw_add_28 : decode b_Mw_add 28 = .ok (.iastore, 1) := by decide +kernel
theorem d_Mw_add_29 : decode b_Mw_add 29 = .ok (.aload_n 0, 1) := by decide +kernel
theorem d_Mw_add_30 : decode b_Mw_add 30 = .ok (.dup, 1) := by decide +kernel
theorem d_Mw_add_31 : decode b_Mw_add 31 = .ok (.getfield 22, 3) := by decide +kernel
theorem d_Mw_add_34 : decode b_Mw_add 34 = .ok (.iconst 1, 1) := by decide +kernel
theorem d_Mw_add_35 : decode b_Mw_add 35 = .ok (.iadd, 1) := by decide +kernel
theorem d_Mw_add_36 : decode b_Mw_add 36 = .ok (.putfield 22, 3) := by decide +kernel
theorem d_Mw_add_39 : decode b_Mw_add 39 = .ok (.return_, 1) := by decide +kernel
def wq_Mw_add_39 (g : Gm) (post : StC → Prop)  (S : StC)  : Prop :=
  post S
def wp_Mw_add (g : Gm) (post : StC → Prop) (S : StC) (h0 : Nat) (a0 : Int32) (a1 : Int32) : Prop :=
  ∃ (vs1 : List Value) (z5 : Int32), (h0 ∈ S.2.2.2.2.2.1) ∧ (S.2.2.2.2.2.2 h0 = .inr (11, vs1)) ∧ (vs1[3]? = some (.int (z5))) ∧ (((60 ≤ z5) → wq_Mw_add_39 g post  S ) ∧ (¬ (60 ≤ z5) → ∃ (vs6 : List Value) (z10 : Nat), (h0 ∈ S.2.2.2.2.2.1) ∧ (S.2.2.2.2.2.2 h0 = .inr (11, vs6)) ∧ (vs6[1]? = some (.ref (z10))) ∧ (∃ (vs11 : List Value) (z15 : Int32), (h0 ∈ S.2.2.2.2.2.1) ∧ (S.2.2.2.2.2.2 h0 = .inr (11, vs11)) ∧ (vs11[3]? = some (.int (z15))) ∧ (∃ (n16 : Nat) (f17 : Nat → Int32), (z10 ∈ S.2.2.2.2.2.1) ∧ (S.2.2.2.2.2.2 z10 = .inl (g.2.1 0, n16, .inl f17)) ∧ (vp_in z15 n16) ∧ (∃ (vs21 : List Value) (z25 : Nat), (h0 ∈ S.2.2.2.2.2.1) ∧ ((va_up S.2.2.2.2.2.2 z10 (.inl (g.2.1 0, n16, .inl (upd f17 (Int32.toNatClampNeg (z15)) (a0))))) h0 = .inr (11, vs21)) ∧ (vs21[2]? = some (.ref (z25))) ∧ (∃ (vs26 : List Value) (z30 : Int32), (h0 ∈ S.2.2.2.2.2.1) ∧ ((va_up S.2.2.2.2.2.2 z10 (.inl (g.2.1 0, n16, .inl (upd f17 (Int32.toNatClampNeg (z15)) (a0))))) h0 = .inr (11, vs26)) ∧ (vs26[3]? = some (.int (z30))) ∧ (∃ (n31 : Nat) (f32 : Nat → Int32), (z25 ∈ S.2.2.2.2.2.1) ∧ ((va_up S.2.2.2.2.2.2 z10 (.inl (g.2.1 0, n16, .inl (upd f17 (Int32.toNatClampNeg (z15)) (a0))))) z25 = .inl (g.2.1 0, n31, .inl f32)) ∧ (vp_in z30 n31) ∧ (∃ (vs36 : List Value) (z40 : Int32), (h0 ∈ S.2.2.2.2.2.1) ∧ ((va_up (va_up S.2.2.2.2.2.2 z10 (.inl (g.2.1 0, n16, .inl (upd f17 (Int32.toNatClampNeg (z15)) (a0))))) z25 (.inl (g.2.1 0, n31, .inl (upd f32 (Int32.toNatClampNeg (z30)) (a1))))) h0 = .inr (11, vs36)) ∧ (vs36[3]? = some (.int (z40))) ∧ (∃ (vs41 : List Value), (h0 ∈ S.2.2.2.2.2.1) ∧ ((va_up (va_up S.2.2.2.2.2.2 z10 (.inl (g.2.1 0, n16, .inl (upd f17 (Int32.toNatClampNeg (z15)) (a0))))) z25 (.inl (g.2.1 0, n31, .inl (upd f32 (Int32.toNatClampNeg (z30)) (a1))))) h0 = .inr (11, vs41)) ∧ (3 < vs41.length) ∧ (wq_Mw_add_39 g post  (S.1, S.2.1, S.2.2.1, S.2.2.2.1, S.2.2.2.2.1, S.2.2.2.2.2.1, (va_up (va_up (va_up S.2.2.2.2.2.2 z10 (.inl (g.2.1 0, n16, .inl (upd f17 (Int32.toNatClampNeg (z15)) (a0))))) z25 (.inl (g.2.1 0, n31, .inl (upd f32 (Int32.toNatClampNeg (z30)) (a1))))) h0 (.inr (11, vs41.set 3 (.int ((z40 + 1))))))) ))))))))))
set_option maxRecDepth 100000 in
set_option maxHeartbeats 4000000 in
theorem c_Mw_add (l : Launch) (g : Gm) (sz : Nat) (S : StC) (h0 : Nat) (a0 : Int32) (a1 : Int32) (post : StC → Prop) (hw : wp_Mw_add g post S h0 a0 a1) : Met l y_Mw_add (.code y_Mw_add b_Mw_add 3 none :: w_C) (rmM 0 0) (va_Pc [.ref (h0), .int (a0), .int (a1)] (PC g sz S)) (va_Qv post (BC g (AC g sz S)) (AC g sz S)) 0 0 (AC g sz S) := by
  refine ofC_v (by decide) (Nat.le_of_ble_eq_true rfl) (fun p e s m args below meth c Q A H locs ls hx hb hml hts hown hK hA hC hN kr hl hP hD hS => ?_)
  have hl : lv_has ls 3 [(0, .ref (h0)), (1, .int (a0)), (2, .int (a1))] := hl
  unfold wp_Mw_add at hw
  have J39 : ∀ (S : StC)  (H : Heap) (locs : List Loc) (ls : Array Slot), wq_Mw_add_39 g post  S  → lv_has ls 3 [] → va_P g.1 classes (wC g S) H → va_D A (wC g S) → va_S A s.heap H locs → W p l e (rmM 0 0) s m args below meth c H locs 0 0 Q (F0 m 39 ls []) := by
    intro S  H locs ls hw hl hP hD hS
    unfold wq_Mw_add_39 at hw
    exact kr S _ _ _ _ hw hP hD hS d_Mw_add_39
  refine lv_aload_n hx hb d_Mw_add_0 rfl (lv_at hl 0 rfl) ?_
  obtain ⟨vs1, z5, ha2, hf3, hv4, hw⟩ := hw
  refine pg_C (S := S) (vs := vs1) (v := .int (z5)) (C := R_Mw) (F := F_Mw) (N := 5) hx hb hts hin_Mw hown hK hP ha2 hf3 rfl 3 (by decide) hv4 k_C_501 d_Mw_add_1 ?_
  refine lv_bipush (v := 60) hx hb d_Mw_add_4 (by decide) ?_
  refine lv_icmp_ge hx hb d_Mw_add_6 (tgt := 39) (by decide) (fun hc => ?_) (fun hc => ?_)
  · have hw := hw.1 hc
    exact J39 S  _ _ _ hw (lv_sub hl [] rfl) hP hD hS
  · have hw := hw.2 hc
    refine lv_aload_n hx hb d_Mw_add_9 rfl (lv_at hl 0 rfl) ?_
    obtain ⟨vs6, z10, ha7, hf8, hv9, hw⟩ := hw
    refine pg_C (S := S) (vs := vs6) (v := .ref (z10)) (C := R_Mw) (F := F_Mw) (N := 5) hx hb hts hin_Mw hown hK hP ha7 hf8 rfl 1 (by decide) hv9 k_C_499 d_Mw_add_10 ?_
    refine lv_aload_n hx hb d_Mw_add_13 rfl (lv_at hl 0 rfl) ?_
    obtain ⟨vs11, z15, ha12, hf13, hv14, hw⟩ := hw
    refine pg_C (S := S) (vs := vs11) (v := .int (z15)) (C := R_Mw) (F := F_Mw) (N := 5) hx hb hts hin_Mw hown hK hP ha12 hf13 rfl 3 (by decide) hv14 k_C_501 d_Mw_add_14 ?_
    refine lv_iload_n hx hb d_Mw_add_17 rfl (lv_at hl 1 rfl) ?_
    obtain ⟨n16, f17, ha18, hf19, hi20, hw⟩ := hw
    refine pis_C (S := S) hx hb hK hP hD hS ha18 hf19 hi20 d_Mw_add_18 (fun H locs hP hD hS => ?_)
    have hP : va_P g.1 classes (wC g (S.1, S.2.1, S.2.2.1, S.2.2.2.1, S.2.2.2.2.1, S.2.2.2.2.2.1, (va_up S.2.2.2.2.2.2 z10 (.inl (g.2.1 0, n16, .inl (upd f17 (Int32.toNatClampNeg (z15)) (a0))))))) H := hP
    have hD : va_D A (wC g (S.1, S.2.1, S.2.2.1, S.2.2.2.1, S.2.2.2.2.1, S.2.2.2.2.2.1, (va_up S.2.2.2.2.2.2 z10 (.inl (g.2.1 0, n16, .inl (upd f17 (Int32.toNatClampNeg (z15)) (a0))))))) := hD
    refine lv_aload_n hx hb d_Mw_add_19 rfl (lv_at hl 0 rfl) ?_
    obtain ⟨vs21, z25, ha22, hf23, hv24, hw⟩ := hw
    refine pg_C (S := (S.1, S.2.1, S.2.2.1, S.2.2.2.1, S.2.2.2.2.1, S.2.2.2.2.2.1, (va_up S.2.2.2.2.2.2 z10 (.inl (g.2.1 0, n16, .inl (upd f17 (Int32.toNatClampNeg (z15)) (a0))))))) (vs := vs21) (v := .ref (z25)) (C := R_Mw) (F := F_Mw) (N := 5) hx hb hts hin_Mw hown hK hP ha22 hf23 rfl 2 (by decide) hv24 k_C_500 d_Mw_add_20 ?_
    refine lv_aload_n hx hb d_Mw_add_23 rfl (lv_at hl 0 rfl) ?_
    obtain ⟨vs26, z30, ha27, hf28, hv29, hw⟩ := hw
    refine pg_C (S := (S.1, S.2.1, S.2.2.1, S.2.2.2.1, S.2.2.2.2.1, S.2.2.2.2.2.1, (va_up S.2.2.2.2.2.2 z10 (.inl (g.2.1 0, n16, .inl (upd f17 (Int32.toNatClampNeg (z15)) (a0))))))) (vs := vs26) (v := .int (z30)) (C := R_Mw) (F := F_Mw) (N := 5) hx hb hts hin_Mw hown hK hP ha27 hf28 rfl 3 (by decide) hv29 k_C_501 d_Mw_add_24 ?_
    refine lv_iload_n hx hb d_Mw_add_27 rfl (lv_at hl 2 rfl) ?_
    obtain ⟨n31, f32, ha33, hf34, hi35, hw⟩ := hw
    refine pis_C (S := (S.1, S.2.1, S.2.2.1, S.2.2.2.1, S.2.2.2.2.1, S.2.2.2.2.2.1, (va_up S.2.2.2.2.2.2 z10 (.inl (g.2.1 0, n16, .inl (upd f17 (Int32.toNatClampNeg (z15)) (a0))))))) hx hb hK hP hD hS ha33 hf34 hi35 d_Mw_add_28 (fun H locs hP hD hS => ?_)
    have hP : va_P g.1 classes (wC g (S.1, S.2.1, S.2.2.1, S.2.2.2.1, S.2.2.2.2.1, S.2.2.2.2.2.1, (va_up (va_up S.2.2.2.2.2.2 z10 (.inl (g.2.1 0, n16, .inl (upd f17 (Int32.toNatClampNeg (z15)) (a0))))) z25 (.inl (g.2.1 0, n31, .inl (upd f32 (Int32.toNatClampNeg (z30)) (a1))))))) H := hP
    have hD : va_D A (wC g (S.1, S.2.1, S.2.2.1, S.2.2.2.1, S.2.2.2.2.1, S.2.2.2.2.2.1, (va_up (va_up S.2.2.2.2.2.2 z10 (.inl (g.2.1 0, n16, .inl (upd f17 (Int32.toNatClampNeg (z15)) (a0))))) z25 (.inl (g.2.1 0, n31, .inl (upd f32 (Int32.toNatClampNeg (z30)) (a1))))))) := hD
    refine lv_aload_n hx hb d_Mw_add_29 rfl (lv_at hl 0 rfl) ?_
    refine lv_dup hx hb d_Mw_add_30 rfl ?_
    obtain ⟨vs36, z40, ha37, hf38, hv39, hw⟩ := hw
    refine pg_C (S := (S.1, S.2.1, S.2.2.1, S.2.2.2.1, S.2.2.2.2.1, S.2.2.2.2.2.1, (va_up (va_up S.2.2.2.2.2.2 z10 (.inl (g.2.1 0, n16, .inl (upd f17 (Int32.toNatClampNeg (z15)) (a0))))) z25 (.inl (g.2.1 0, n31, .inl (upd f32 (Int32.toNatClampNeg (z30)) (a1))))))) (vs := vs36) (v := .int (z40)) (C := R_Mw) (F := F_Mw) (N := 5) hx hb hts hin_Mw hown hK hP ha37 hf38 rfl 3 (by decide) hv39 k_C_501 d_Mw_add_31 ?_
    refine lv_iconst (v := 1) hx hb d_Mw_add_34 (by decide) ?_
    refine lv_iadd hx hb d_Mw_add_35 ?_
    obtain ⟨vs41, ha42, hf43, hk44, hw⟩ := hw
    refine pp_C (S := (S.1, S.2.1, S.2.2.1, S.2.2.2.1, S.2.2.2.2.1, S.2.2.2.2.2.1, (va_up (va_up S.2.2.2.2.2.2 z10 (.inl (g.2.1 0, n16, .inl (upd f17 (Int32.toNatClampNeg (z15)) (a0))))) z25 (.inl (g.2.1 0, n31, .inl (upd f32 (Int32.toNatClampNeg (z30)) (a1))))))) (vs := vs41) (v := .int ((z40 + 1))) (C := R_Mw) (F := F_Mw) (N := 5) hx hb hts hin_Mw t_Mw t_Mw_ok n_Mw hown hK hP hD hS ha42 hf43 rfl 3 (by decide) rfl rfl rfl hk44 k_C_501 d_Mw_add_36 (fun H locs hP hD hS => ?_)
    have hP : va_P g.1 classes (wC g (S.1, S.2.1, S.2.2.1, S.2.2.2.1, S.2.2.2.2.1, S.2.2.2.2.2.1, (va_up (va_up (va_up S.2.2.2.2.2.2 z10 (.inl (g.2.1 0, n16, .inl (upd f17 (Int32.toNatClampNeg (z15)) (a0))))) z25 (.inl (g.2.1 0, n31, .inl (upd f32 (Int32.toNatClampNeg (z30)) (a1))))) h0 (.inr (11, vs41.set 3 (.int ((z40 + 1)))))))) H := hP
    have hD : va_D A (wC g (S.1, S.2.1, S.2.2.1, S.2.2.2.1, S.2.2.2.2.1, S.2.2.2.2.2.1, (va_up (va_up (va_up S.2.2.2.2.2.2 z10 (.inl (g.2.1 0, n16, .inl (upd f17 (Int32.toNatClampNeg (z15)) (a0))))) z25 (.inl (g.2.1 0, n31, .inl (upd f32 (Int32.toNatClampNeg (z30)) (a1))))) h0 (.inr (11, vs41.set 3 (.int ((z40 + 1)))))))) := hD
    exact J39 (S.1, S.2.1, S.2.2.1, S.2.2.2.1, S.2.2.2.2.1, S.2.2.2.2.2.1, (va_up (va_up (va_up S.2.2.2.2.2.2 z10 (.inl (g.2.1 0, n16, .inl (upd f17 (Int32.toNatClampNeg (z15)) (a0))))) z25 (.inl (g.2.1 0, n31, .inl (upd f32 (Int32.toNatClampNeg (z30)) (a1))))) h0 (.inr (11, vs41.set 3 (.int ((z40 + 1)))))))  _ _ _ hw (lv_sub hl [] rfl) hP hD hS
theorem d_Mw_aim_0 : decode b_Mw_aim 0 = .ok (.iload_n 1, 1) := by decide +kernel
theorem d_Mw_aim_1 : decode b_Mw_aim 1 = .ok (.ifCond .lt 21, 3) := by decide +kernel
theorem d_Mw_aim_4 : decode b_Mw_aim 4 = .ok (.iload_n 1, 1) := by decide +kernel
theorem d_Mw_aim_5 : decode b_Mw_aim 5 = .ok (.aload_n 0, 1) := by decide +kernel
theorem d_Mw_aim_6 : decode b_Mw_aim 6 = .ok (.getfield 22, 3) := by decide +kernel
theorem d_Mw_aim_9 : decode b_Mw_aim 9 = .ok (.if_icmp .ge 13, 3) := by decide +kernel
theorem d_Mw_aim_12 : decode b_Mw_aim 12 = .ok (.aload_n 0, 1) := by decide +kernel
theorem d_Mw_aim_13 : decode b_Mw_aim 13 = .ok (.getfield 15, 3) := by decide +kernel
theorem d_Mw_aim_16 : decode b_Mw_aim 16 = .ok (.iload_n 1, 1) := by decide +kernel
theorem d_Mw_aim_17 : decode b_Mw_aim 17 = .ok (.aload_n 0, 1) := by decide +kernel
theorem d_Mw_aim_18 : decode b_Mw_aim 18 = .ok (.getfield 22, 3) := by decide +kernel
theorem d_Mw_aim_21 : decode b_Mw_aim 21 = .ok (.iastore, 1) := by decide +kernel
theorem d_Mw_aim_22 : decode b_Mw_aim 22 = .ok (.return_, 1) := by decide +kernel
def wq_Mw_aim_22 (g : Gm) (post : StC → Prop)  (S : StC)  : Prop :=
  post S
def wp_Mw_aim (g : Gm) (post : StC → Prop) (S : StC) (h0 : Nat) (a0 : Int32) : Prop :=
  ((a0 < 0) → wq_Mw_aim_22 g post  S ) ∧ (¬ (a0 < 0) → ∃ (vs1 : List Value) (z5 : Int32), (h0 ∈ S.2.2.2.2.2.1) ∧ (S.2.2.2.2.2.2 h0 = .inr (11, vs1)) ∧ (vs1[3]? = some (.int (z5))) ∧ (((z5 ≤ a0) → wq_Mw_aim_22 g post  S ) ∧ (¬ (z5 ≤ a0) → ∃ (vs6 : List Value) (z10 : Nat), (h0 ∈ S.2.2.2.2.2.1) ∧ (S.2.2.2.2.2.2 h0 = .inr (11, vs6)) ∧ (vs6[2]? = some (.ref (z10))) ∧ (∃ (vs11 : List Value) (z15 : Int32), (h0 ∈ S.2.2.2.2.2.1) ∧ (S.2.2.2.2.2.2 h0 = .inr (11, vs11)) ∧ (vs11[3]? = some (.int (z15))) ∧ (∃ (n16 : Nat) (f17 : Nat → Int32), (z10 ∈ S.2.2.2.2.2.1) ∧ (S.2.2.2.2.2.2 z10 = .inl (g.2.1 0, n16, .inl f17)) ∧ (vp_in a0 n16) ∧ (wq_Mw_aim_22 g post  (S.1, S.2.1, S.2.2.1, S.2.2.2.1, S.2.2.2.2.1, S.2.2.2.2.2.1, (va_up S.2.2.2.2.2.2 z10 (.inl (g.2.1 0, n16, .inl (upd f17 (Int32.toNatClampNeg (a0)) (z15)))))) ))))))
set_option maxRecDepth 100000 in
set_option maxHeartbeats 4000000 in
theorem c_Mw_aim (l : Launch) (g : Gm) (sz : Nat) (S : StC) (h0 : Nat) (a0 : Int32) (post : StC → Prop) (hw : wp_Mw_aim g post S h0 a0) : Met l y_Mw_aim (.code y_Mw_aim b_Mw_aim 2 none :: w_C) (rmM 0 0) (va_Pc [.ref (h0), .int (a0)] (PC g sz S)) (va_Qv post (BC g (AC g sz S)) (AC g sz S)) 0 0 (AC g sz S) := by
  refine ofC_v (by decide) (Nat.le_of_ble_eq_true rfl) (fun p e s m args below meth c Q A H locs ls hx hb hml hts hown hK hA hC hN kr hl hP hD hS => ?_)
  have hl : lv_has ls 2 [(0, .ref (h0)), (1, .int (a0))] := hl
  unfold wp_Mw_aim at hw
  have J22 : ∀ (S : StC)  (H : Heap) (locs : List Loc) (ls : Array Slot), wq_Mw_aim_22 g post  S  → lv_has ls 2 [] → va_P g.1 classes (wC g S) H → va_D A (wC g S) → va_S A s.heap H locs → W p l e (rmM 0 0) s m args below meth c H locs 0 0 Q (F0 m 22 ls []) := by
    intro S  H locs ls hw hl hP hD hS
    unfold wq_Mw_aim_22 at hw
    exact kr S _ _ _ _ hw hP hD hS d_Mw_aim_22
  refine lv_iload_n hx hb d_Mw_aim_0 rfl (lv_at hl 1 rfl) ?_
  refine lv_if_lt hx hb d_Mw_aim_1 (tgt := 22) (by decide) (fun hc => ?_) (fun hc => ?_)
  · have hw := hw.1 hc
    exact J22 S  _ _ _ hw (lv_sub hl [] rfl) hP hD hS
  · have hw := hw.2 hc
    refine lv_iload_n hx hb d_Mw_aim_4 rfl (lv_at hl 1 rfl) ?_
    refine lv_aload_n hx hb d_Mw_aim_5 rfl (lv_at hl 0 rfl) ?_
    obtain ⟨vs1, z5, ha2, hf3, hv4, hw⟩ := hw
    refine pg_C (S := S) (vs := vs1) (v := .int (z5)) (C := R_Mw) (F := F_Mw) (N := 5) hx hb hts hin_Mw hown hK hP ha2 hf3 rfl 3 (by decide) hv4 k_C_501 d_Mw_aim_6 ?_
    refine lv_icmp_ge hx hb d_Mw_aim_9 (tgt := 22) (by decide) (fun hc => ?_) (fun hc => ?_)
    · have hw := hw.1 hc
      exact J22 S  _ _ _ hw (lv_sub hl [] rfl) hP hD hS
    · have hw := hw.2 hc
      refine lv_aload_n hx hb d_Mw_aim_12 rfl (lv_at hl 0 rfl) ?_
      obtain ⟨vs6, z10, ha7, hf8, hv9, hw⟩ := hw
      refine pg_C (S := S) (vs := vs6) (v := .ref (z10)) (C := R_Mw) (F := F_Mw) (N := 5) hx hb hts hin_Mw hown hK hP ha7 hf8 rfl 2 (by decide) hv9 k_C_500 d_Mw_aim_13 ?_
      refine lv_iload_n hx hb d_Mw_aim_16 rfl (lv_at hl 1 rfl) ?_
      refine lv_aload_n hx hb d_Mw_aim_17 rfl (lv_at hl 0 rfl) ?_
      obtain ⟨vs11, z15, ha12, hf13, hv14, hw⟩ := hw
      refine pg_C (S := S) (vs := vs11) (v := .int (z15)) (C := R_Mw) (F := F_Mw) (N := 5) hx hb hts hin_Mw hown hK hP ha12 hf13 rfl 3 (by decide) hv14 k_C_501 d_Mw_aim_18 ?_
      obtain ⟨n16, f17, ha18, hf19, hi20, hw⟩ := hw
      refine pis_C (S := S) hx hb hK hP hD hS ha18 hf19 hi20 d_Mw_aim_21 (fun H locs hP hD hS => ?_)
      have hP : va_P g.1 classes (wC g (S.1, S.2.1, S.2.2.1, S.2.2.2.1, S.2.2.2.2.1, S.2.2.2.2.2.1, (va_up S.2.2.2.2.2.2 z10 (.inl (g.2.1 0, n16, .inl (upd f17 (Int32.toNatClampNeg (a0)) (z15))))))) H := hP
      have hD : va_D A (wC g (S.1, S.2.1, S.2.2.1, S.2.2.2.1, S.2.2.2.2.1, S.2.2.2.2.2.1, (va_up S.2.2.2.2.2.2 z10 (.inl (g.2.1 0, n16, .inl (upd f17 (Int32.toNatClampNeg (a0)) (z15))))))) := hD
      exact J22 (S.1, S.2.1, S.2.2.1, S.2.2.2.1, S.2.2.2.2.1, S.2.2.2.2.2.1, (va_up S.2.2.2.2.2.2 z10 (.inl (g.2.1 0, n16, .inl (upd f17 (Int32.toNatClampNeg (a0)) (z15))))))  _ _ _ hw (lv_sub hl [] rfl) hP hD hS
theorem d_Bi_numbered_0 : decode b_Bi_numbered 0 = .ok (.iload_n 0, 1) := by decide +kernel
theorem d_Bi_numbered_1 : decode b_Bi_numbered 1 = .ok (.ifCond .lt 19, 3) := by decide +kernel
theorem d_Bi_numbered_4 : decode b_Bi_numbered 4 = .ok (.iload_n 0, 1) := by decide +kernel
theorem d_Bi_numbered_5 : decode b_Bi_numbered 5 = .ok (.getstatic 198, 3) := by decide +kernel
theorem d_Bi_numbered_8 : decode b_Bi_numbered 8 = .ok (.arraylength, 1) := by decide +kernel
theorem d_Bi_numbered_9 : decode b_Bi_numbered 9 = .ok (.if_icmp .ge 11, 3) := by decide +kernel
theorem d_Bi_numbered_12 : decode b_Bi_numbered 12 = .ok (.getstatic 198, 3) := by decide +kernel
theorem d_Bi_numbered_15 : decode b_Bi_numbered 15 = .ok (.iload_n 0, 1) := by decide +kernel
theorem d_Bi_numbered_16 : decode b_Bi_numbered 16 = .ok (.aaload, 1) := by decide +kernel
theorem d_Bi_numbered_17 : decode b_Bi_numbered 17 = .ok (.goto 4, 3) := by decide +kernel
theorem d_Bi_numbered_20 : decode b_Bi_numbered 20 = .ok (.aconst_null, 1) := by decide +kernel
theorem d_Bi_numbered_21 : decode b_Bi_numbered 21 = .ok (.areturn, 1) := by decide +kernel
def wq_Bi_numbered_21 (g : Gm) (post : Option Nat → StC → Prop)  (S : StC) (t0 : Option Nat) : Prop :=
  post (t0) S
def wq_Bi_numbered_20 (g : Gm) (post : Option Nat → StC → Prop)  (S : StC)  : Prop :=
  wq_Bi_numbered_21 g post  S (none)
def wp_Bi_numbered (g : Gm) (post : Option Nat → StC → Prop) (S : StC) (a0 : Int32) : Prop :=
  ((a0 < 0) → wq_Bi_numbered_20 g post  S ) ∧ (¬ (a0 < 0) → ((52 ≤ a0) → wq_Bi_numbered_20 g post  S ) ∧ (¬ (52 ≤ a0) → (vp_in a0 52) ∧ (wq_Bi_numbered_21 g post  S (some ((g.2.2 (100 + (Int32.toNatClampNeg (a0)))))))))
set_option maxRecDepth 100000 in
set_option maxHeartbeats 4000000 in
theorem c_Bi_numbered (l : Launch) (g : Gm) (sz : Nat) (S : StC) (a0 : Int32) (post : Option Nat → StC → Prop) (hw : wp_Bi_numbered g post S a0) : Met l y_Bi_numbered (.code y_Bi_numbered b_Bi_numbered 1 (some (.object "WordSmith$BuiltIn")) :: w_C) (rmM 0 0) (va_Pc [.int (a0)] (PC g sz S)) (va_Qq post (BC g (AC g sz S)) (AC g sz S)) 0 0 (AC g sz S) := by
  refine ofC_q (by decide) (Nat.le_of_ble_eq_true rfl) (fun p e s m args below meth c Q A H locs ls hx hb hml hts hown hK hA hC hN kr hl hP hD hS => ?_)
  have hl : lv_has ls 1 [(0, .int (a0))] := hl
  unfold wp_Bi_numbered at hw
  have J21 : ∀ (S : StC) (t0 : Option Nat) (H : Heap) (locs : List Loc) (ls : Array Slot), wq_Bi_numbered_21 g post  S t0 → lv_has ls 1 [] → va_P g.1 classes (wC g S) H → va_D A (wC g S) → va_S A s.heap H locs → W p l e (rmM 0 0) s m args below meth c H locs 0 0 Q (F0 m 21 ls [va_rf (t0)]) := by
    intro S t0 H locs ls hw hl hP hD hS
    unfold wq_Bi_numbered_21 at hw
    exact kr (t0) S _ _ _ _ hw hP hD hS d_Bi_numbered_21
  have J20 : ∀ (S : StC)  (H : Heap) (locs : List Loc) (ls : Array Slot), wq_Bi_numbered_20 g post  S  → lv_has ls 1 [] → va_P g.1 classes (wC g S) H → va_D A (wC g S) → va_S A s.heap H locs → W p l e (rmM 0 0) s m args below meth c H locs 0 0 Q (F0 m 20 ls []) := by
    intro S  H locs ls hw hl hP hD hS
    unfold wq_Bi_numbered_20 at hw
    refine lv_null hx hb d_Bi_numbered_20 ?_
    exact J21 S (none) _ _ _ hw (lv_sub hl [] rfl) hP hD hS
  refine lv_iload_n hx hb d_Bi_numbered_0 rfl (lv_at hl 0 rfl) ?_
  refine lv_if_lt hx hb d_Bi_numbered_1 (tgt := 20) (by decide) (fun hc => ?_) (fun hc => ?_)
  · have hw := hw.1 hc
    exact J20 S  _ _ _ hw (lv_sub hl [] rfl) hP hD hS
  · have hw := hw.2 hc
    refine lv_iload_n hx hb d_Bi_numbered_4 rfl (lv_at hl 0 rfl) ?_
    refine va_gets (C := "WordSmith$BuiltIn") (n := "ALL") (d := "[LWordSmith$BuiltIn;") (v := .ref (g.2.2 92)) hx hb hC.1.2.2.2.2.2.1 hS hown (hts _ k_C_441) (fun _ h9 => h9) d_Bi_numbered_5 ?_
    refine va_tlen (v := 52) hx hb hC.1.2.2.2.2.2.2 hS rfl d_Bi_numbered_8 ?_
    refine lv_icmp_ge hx hb d_Bi_numbered_9 (tgt := 20) (by decide) (fun hc => ?_) (fun hc => ?_)
    · have hw := hw.1 hc
      exact J20 S  _ _ _ hw (lv_sub hl [] rfl) hP hD hS
    · have hw := hw.2 hc
      refine va_gets (C := "WordSmith$BuiltIn") (n := "ALL") (d := "[LWordSmith$BuiltIn;") (v := .ref (g.2.2 92)) hx hb hC.1.2.2.2.2.2.1 hS hown (hts _ k_C_441) (fun _ h9 => h9) d_Bi_numbered_12 ?_
      refine lv_iload_n hx hb d_Bi_numbered_15 rfl (lv_at hl 0 rfl) ?_
      obtain ⟨hi, hw⟩ := hw
      refine vb_tq (v := .ref ((g.2.2 (100 + (Int32.toNatClampNeg (a0)))))) hx hb hC.1.2.2.2.2.2.2 hS hi rfl d_Bi_numbered_16 ?_
      refine lv_goto hx hb d_Bi_numbered_17 (tgt := 21) (by decide) ?_
      exact J21 S (some ((g.2.2 (100 + (Int32.toNatClampNeg (a0)))))) _ _ _ hw (lv_sub hl [] rfl) hP hD hS
theorem d_Bi_isCalculating_0 : decode b_Bi_isCalculating 0 = .ok (.aload_n 0, 1) := by decide +kernel
theorem d_Bi_isCalculating_1 : decode b_Bi_isCalculating 1 = .ok (.getfield 184, 3) := by decide +kernel
theorem d_Bi_isCalculating_4 : decode b_Bi_isCalculating 4 = .ok (.getstatic 39, 3) := by decide +kernel
theorem d_Bi_isCalculating_7 : decode b_Bi_isCalculating 7 = .ok (.getfield 184, 3) := by decide +kernel
theorem d_Bi_isCalculating_10 : decode b_Bi_isCalculating 10 = .ok (.if_icmp .gt 7, 3) := by decide +kernel
theorem d_Bi_isCalculating_13 : decode b_Bi_isCalculating 13 = .ok (.iconst 1, 1) := by decide +kernel
theorem d_Bi_isCalculating_14 : decode b_Bi_isCalculating 14 = .ok (.goto 4, 3) := by decide +kernel
theorem d_Bi_isCalculating_17 : decode b_Bi_isCalculating 17 = .ok (.iconst 0, 1) := by decide +kernel
theorem d_Bi_isCalculating_18 : decode b_Bi_isCalculating 18 = .ok (.ireturn, 1) := by decide +kernel
def wq_Bi_isCalculating_18 (g : Gm) (post : Int32 → StC → Prop)  (S : StC) (t0 : Int32) : Prop :=
  (narrow .boolean (.int (t0)) = .int (t0)) ∧ (post (t0) S)
def wp_Bi_isCalculating (g : Gm) (post : Int32 → StC → Prop) (S : StC) (h0 : Nat) : Prop :=
  ∃ (i1 : Nat), (i1 < 52) ∧ (h0 = g.2.2 (100 + i1)) ∧ ((((numE.getD 11 0) < (numE.getD i1 0)) → wq_Bi_isCalculating_18 g post  S (0)) ∧ (¬ ((numE.getD 11 0) < (numE.getD i1 0)) → wq_Bi_isCalculating_18 g post  S (1)))
set_option maxRecDepth 100000 in
set_option maxHeartbeats 4000000 in
theorem c_Bi_isCalculating (l : Launch) (g : Gm) (sz : Nat) (S : StC) (h0 : Nat) (post : Int32 → StC → Prop) (hw : wp_Bi_isCalculating g post S h0) : Met l y_Bi_isCalculating (.code y_Bi_isCalculating b_Bi_isCalculating 1 (some .boolean) :: w_C) (rmM 0 0) (va_Pc [.ref (h0)] (PC g sz S)) (va_Qi post (BC g (AC g sz S)) (AC g sz S)) 0 0 (AC g sz S) := by
  refine ofC_z (by decide) (Nat.le_of_ble_eq_true rfl) (fun p e s m args below meth c Q A H locs ls hx hb hml hts hown hK hA hC hN kr hl hP hD hS => ?_)
  have hl : lv_has ls 1 [(0, .ref (h0))] := hl
  unfold wp_Bi_isCalculating at hw
  have J18 : ∀ (S : StC) (t0 : Int32) (H : Heap) (locs : List Loc) (ls : Array Slot), wq_Bi_isCalculating_18 g post  S t0 → lv_has ls 1 [] → va_P g.1 classes (wC g S) H → va_D A (wC g S) → va_S A s.heap H locs → W p l e (rmM 0 0) s m args below meth c H locs 0 0 Q (F0 m 18 ls [.int (t0)]) := by
    intro S t0 H locs ls hw hl hP hD hS
    unfold wq_Bi_isCalculating_18 at hw
    obtain ⟨hnz, hw⟩ := hw
    exact kr (t0) S _ _ _ _ hnz hw hP hD hS d_Bi_isCalculating_18
  refine lv_aload_n hx hb d_Bi_isCalculating_0 rfl (lv_at hl 0 rfl) ?_
  obtain ⟨i1, hi2, he3, hw⟩ := hw
  refine ge_C (i := i1) (q := fe_number) hx hb hts hC hS hown he3 hi2 fe_number_in k_C_773 d_Bi_isCalculating_1 ?_
  refine va_gets (C := "WordSmith$BuiltIn") (n := "NEGATE") (d := "LWordSmith$BuiltIn;") (v := .ref ((g.2.2 111))) hx hb (hC.1.1.1 11 (by decide)).1 hS hown (hts _ k_C_638) (fun _ h9 => h9) d_Bi_isCalculating_4 ?_
  refine ge_C (i := 11) (q := fe_number) hx hb hts hC hS hown rfl (by decide) fe_number_in k_C_773 d_Bi_isCalculating_7 ?_
  refine lv_icmp_gt hx hb d_Bi_isCalculating_10 (tgt := 17) (by decide) (fun hc => ?_) (fun hc => ?_)
  · have hw := hw.1 hc
    refine lv_iconst (v := 0) hx hb d_Bi_isCalculating_17 (by decide) ?_
    exact J18 S (0) _ _ _ hw (lv_sub hl [] rfl) hP hD hS
  · have hw := hw.2 hc
    refine lv_iconst (v := 1) hx hb d_Bi_isCalculating_13 (by decide) ?_
    refine lv_goto hx hb d_Bi_isCalculating_14 (tgt := 18) (by decide) ?_
    exact J18 S (1) _ _ _ hw (lv_sub hl [] rfl) hP hD hS
theorem d_Bi_isDefining_0 : decode b_Bi_isDefining 0 = .ok (.aload_n 0, 1) := by decide +kernel
theorem d_Bi_isDefining_1 : decode b_Bi_isDefining 1 = .ok (.getfield 184, 3) := by decide +kernel
theorem d_Bi_isDefining_4 : decode b_Bi_isDefining 4 = .ok (.getstatic 102, 3) := by decide +kernel
theorem d_Bi_isDefining_7 : decode b_Bi_isDefining 7 = .ok (.getfield 184, 3) := by decide +kernel
theorem d_Bi_isDefining_10 : decode b_Bi_isDefining 10 = .ok (.if_icmp .lt 20, 3) := by decide +kernel
theorem d_Bi_isDefining_13 : decode b_Bi_isDefining 13 = .ok (.aload_n 0, 1) := by decide +kernel
theorem d_Bi_isDefining_14 : decode b_Bi_isDefining 14 = .ok (.getfield 184, 3) := by decide +kernel
theorem d_Bi_isDefining_17 : decode b_Bi_isDefining 17 = .ok (.getstatic 114, 3) := by decide +kernel
theorem d_Bi_isDefining_20 : decode b_Bi_isDefining 20 = .ok (.getfield 184, 3) := by decide +kernel
theorem d_Bi_isDefining_23 : decode b_Bi_isDefining 23 = .ok (.if_icmp .gt 7, 3) := by decide +kernel
theorem d_Bi_isDefining_26 : decode b_Bi_isDefining 26 = .ok (.iconst 1, 1) := by decide +kernel
theorem d_Bi_isDefining_27 : decode b_Bi_isDefining 27 = .ok (.goto 4, 3) := by decide +kernel
theorem d_Bi_isDefining_30 : decode b_Bi_isDefining 30 = .ok (.iconst 0, 1) := by decide +kernel
theorem d_Bi_isDefining_31 : decode b_Bi_isDefining 31 = .ok (.ireturn, 1) := by decide +kernel
def wq_Bi_isDefining_31 (g : Gm) (post : Int32 → StC → Prop)  (S : StC) (t0 : Int32) : Prop :=
  (narrow .boolean (.int (t0)) = .int (t0)) ∧ (post (t0) S)
def wq_Bi_isDefining_30 (g : Gm) (post : Int32 → StC → Prop)  (S : StC)  : Prop :=
  wq_Bi_isDefining_31 g post  S (0)
def wp_Bi_isDefining (g : Gm) (post : Int32 → StC → Prop) (S : StC) (h0 : Nat) : Prop :=
  ∃ (i1 : Nat), (i1 < 52) ∧ (h0 = g.2.2 (100 + i1)) ∧ ((((numE.getD i1 0) < (numE.getD 32 0)) → wq_Bi_isDefining_30 g post  S ) ∧ (¬ ((numE.getD i1 0) < (numE.getD 32 0)) → ∃ (i4 : Nat), (i4 < 52) ∧ (h0 = g.2.2 (100 + i4)) ∧ ((((numE.getD 36 0) < (numE.getD i4 0)) → wq_Bi_isDefining_30 g post  S ) ∧ (¬ ((numE.getD 36 0) < (numE.getD i4 0)) → wq_Bi_isDefining_31 g post  S (1)))))
set_option maxRecDepth 100000 in
set_option maxHeartbeats 4000000 in
theorem c_Bi_isDefining (l : Launch) (g : Gm) (sz : Nat) (S : StC) (h0 : Nat) (post : Int32 → StC → Prop) (hw : wp_Bi_isDefining g post S h0) : Met l y_Bi_isDefining (.code y_Bi_isDefining b_Bi_isDefining 1 (some .boolean) :: w_C) (rmM 0 0) (va_Pc [.ref (h0)] (PC g sz S)) (va_Qi post (BC g (AC g sz S)) (AC g sz S)) 0 0 (AC g sz S) := by
  refine ofC_z (by decide) (Nat.le_of_ble_eq_true rfl) (fun p e s m args below meth c Q A H locs ls hx hb hml hts hown hK hA hC hN kr hl hP hD hS => ?_)
  have hl : lv_has ls 1 [(0, .ref (h0))] := hl
  unfold wp_Bi_isDefining at hw
  have J31 : ∀ (S : StC) (t0 : Int32) (H : Heap) (locs : List Loc) (ls : Array Slot), wq_Bi_isDefining_31 g post  S t0 → lv_has ls 1 [] → va_P g.1 classes (wC g S) H → va_D A (wC g S) → va_S A s.heap H locs → W p l e (rmM 0 0) s m args below meth c H locs 0 0 Q (F0 m 31 ls [.int (t0)]) := by
    intro S t0 H locs ls hw hl hP hD hS
    unfold wq_Bi_isDefining_31 at hw
    obtain ⟨hnz, hw⟩ := hw
    exact kr (t0) S _ _ _ _ hnz hw hP hD hS d_Bi_isDefining_31
  have J30 : ∀ (S : StC)  (H : Heap) (locs : List Loc) (ls : Array Slot), wq_Bi_isDefining_30 g post  S  → lv_has ls 1 [] → va_P g.1 classes (wC g S) H → va_D A (wC g S) → va_S A s.heap H locs → W p l e (rmM 0 0) s m args below meth c H locs 0 0 Q (F0 m 30 ls []) := by
    intro S  H locs ls hw hl hP hD hS
    unfold wq_Bi_isDefining_30 at hw
    refine lv_iconst (v := 0) hx hb d_Bi_isDefining_30 (by decide) ?_
    exact J31 S (0) _ _ _ hw (lv_sub hl [] rfl) hP hD hS
  refine lv_aload_n hx hb d_Bi_isDefining_0 rfl (lv_at hl 0 rfl) ?_
  obtain ⟨i1, hi2, he3, hw⟩ := hw
  refine ge_C (i := i1) (q := fe_number) hx hb hts hC hS hown he3 hi2 fe_number_in k_C_773 d_Bi_isDefining_1 ?_
  refine va_gets (C := "WordSmith$BuiltIn") (n := "TICK") (d := "LWordSmith$BuiltIn;") (v := .ref ((g.2.2 132))) hx hb (hC.1.1.1 32 (by decide)).1 hS hown (hts _ k_C_450) (fun _ h9 => h9) d_Bi_isDefining_4 ?_
  refine ge_C (i := 32) (q := fe_number) hx hb hts hC hS hown rfl (by decide) fe_number_in k_C_773 d_Bi_isDefining_7 ?_
  refine lv_icmp_lt hx hb d_Bi_isDefining_10 (tgt := 30) (by decide) (fun hc => ?_) (fun hc => ?_)
  · have hw := hw.1 hc
    exact J30 S  _ _ _ hw (lv_sub hl [] rfl) hP hD hS
  · have hw := hw.2 hc
    refine lv_aload_n hx hb d_Bi_isDefining_13 rfl (lv_at hl 0 rfl) ?_
    obtain ⟨i4, hi5, he6, hw⟩ := hw
    refine ge_C (i := i4) (q := fe_number) hx hb hts hC hS hown he6 hi5 fe_number_in k_C_773 d_Bi_isDefining_14 ?_
    refine va_gets (C := "WordSmith$BuiltIn") (n := "IMMEDIATE") (d := "LWordSmith$BuiltIn;") (v := .ref ((g.2.2 136))) hx hb (hC.1.1.1 36 (by decide)).1 hS hown (hts _ k_C_451) (fun _ h9 => h9) d_Bi_isDefining_17 ?_
    refine ge_C (i := 36) (q := fe_number) hx hb hts hC hS hown rfl (by decide) fe_number_in k_C_773 d_Bi_isDefining_20 ?_
    refine lv_icmp_gt hx hb d_Bi_isDefining_23 (tgt := 30) (by decide) (fun hc => ?_) (fun hc => ?_)
    · have hw := hw.1 hc
      exact J30 S  _ _ _ hw (lv_sub hl [] rfl) hP hD hS
    · have hw := hw.2 hc
      refine lv_iconst (v := 1) hx hb d_Bi_isDefining_26 (by decide) ?_
      refine lv_goto hx hb d_Bi_isDefining_27 (tgt := 31) (by decide) ?_
      exact J31 S (1) _ _ _ hw (lv_sub hl [] rfl) hP hD hS
theorem d_Bi_isCompiling_0 : decode b_Bi_isCompiling 0 = .ok (.aload_n 0, 1) := by decide +kernel
theorem d_Bi_isCompiling_1 : decode b_Bi_isCompiling 1 = .ok (.getfield 184, 3) := by decide +kernel
theorem d_Bi_isCompiling_4 : decode b_Bi_isCompiling 4 = .ok (.getstatic 126, 3) := by decide +kernel
theorem d_Bi_isCompiling_7 : decode b_Bi_isCompiling 7 = .ok (.getfield 184, 3) := by decide +kernel
theorem d_Bi_isCompiling_10 : decode b_Bi_isCompiling 10 = .ok (.if_icmp .lt 7, 3) := by decide +kernel
theorem d_Bi_isCompiling_13 : decode b_Bi_isCompiling 13 = .ok (.iconst 1, 1) := by decide +kernel
theorem d_Bi_isCompiling_14 : decode b_Bi_isCompiling 14 = .ok (.goto 4, 3) := by decide +kernel
theorem d_Bi_isCompiling_17 : decode b_Bi_isCompiling 17 = .ok (.iconst 0, 1) := by decide +kernel
theorem d_Bi_isCompiling_18 : decode b_Bi_isCompiling 18 = .ok (.ireturn, 1) := by decide +kernel
def wq_Bi_isCompiling_18 (g : Gm) (post : Int32 → StC → Prop)  (S : StC) (t0 : Int32) : Prop :=
  (narrow .boolean (.int (t0)) = .int (t0)) ∧ (post (t0) S)
def wp_Bi_isCompiling (g : Gm) (post : Int32 → StC → Prop) (S : StC) (h0 : Nat) : Prop :=
  ∃ (i1 : Nat), (i1 < 52) ∧ (h0 = g.2.2 (100 + i1)) ∧ ((((numE.getD i1 0) < (numE.getD 40 0)) → wq_Bi_isCompiling_18 g post  S (0)) ∧ (¬ ((numE.getD i1 0) < (numE.getD 40 0)) → wq_Bi_isCompiling_18 g post  S (1)))
set_option maxRecDepth 100000 in
set_option maxHeartbeats 4000000 in
theorem c_Bi_isCompiling (l : Launch) (g : Gm) (sz : Nat) (S : StC) (h0 : Nat) (post : Int32 → StC → Prop) (hw : wp_Bi_isCompiling g post S h0) : Met l y_Bi_isCompiling (.code y_Bi_isCompiling b_Bi_isCompiling 1 (some .boolean) :: w_C) (rmM 0 0) (va_Pc [.ref (h0)] (PC g sz S)) (va_Qi post (BC g (AC g sz S)) (AC g sz S)) 0 0 (AC g sz S) := by
  refine ofC_z (by decide) (Nat.le_of_ble_eq_true rfl) (fun p e s m args below meth c Q A H locs ls hx hb hml hts hown hK hA hC hN kr hl hP hD hS => ?_)
  have hl : lv_has ls 1 [(0, .ref (h0))] := hl
  unfold wp_Bi_isCompiling at hw
  have J18 : ∀ (S : StC) (t0 : Int32) (H : Heap) (locs : List Loc) (ls : Array Slot), wq_Bi_isCompiling_18 g post  S t0 → lv_has ls 1 [] → va_P g.1 classes (wC g S) H → va_D A (wC g S) → va_S A s.heap H locs → W p l e (rmM 0 0) s m args below meth c H locs 0 0 Q (F0 m 18 ls [.int (t0)]) := by
    intro S t0 H locs ls hw hl hP hD hS
    unfold wq_Bi_isCompiling_18 at hw
    obtain ⟨hnz, hw⟩ := hw
    exact kr (t0) S _ _ _ _ hnz hw hP hD hS d_Bi_isCompiling_18
  refine lv_aload_n hx hb d_Bi_isCompiling_0 rfl (lv_at hl 0 rfl) ?_
  obtain ⟨i1, hi2, he3, hw⟩ := hw
  refine ge_C (i := i1) (q := fe_number) hx hb hts hC hS hown he3 hi2 fe_number_in k_C_773 d_Bi_isCompiling_1 ?_
  refine va_gets (C := "WordSmith$BuiltIn") (n := "SEMICOLON") (d := "LWordSmith$BuiltIn;") (v := .ref ((g.2.2 140))) hx hb (hC.1.1.1 40 (by decide)).1 hS hown (hts _ k_C_527) (fun _ h9 => h9) d_Bi_isCompiling_4 ?_
  refine ge_C (i := 40) (q := fe_number) hx hb hts hC hS hown rfl (by decide) fe_number_in k_C_773 d_Bi_isCompiling_7 ?_
  refine lv_icmp_lt hx hb d_Bi_isCompiling_10 (tgt := 17) (by decide) (fun hc => ?_) (fun hc => ?_)
  · have hw := hw.1 hc
    refine lv_iconst (v := 0) hx hb d_Bi_isCompiling_17 (by decide) ?_
    exact J18 S (0) _ _ _ hw (lv_sub hl [] rfl) hP hD hS
  · have hw := hw.2 hc
    refine lv_iconst (v := 1) hx hb d_Bi_isCompiling_13 (by decide) ?_
    refine lv_goto hx hb d_Bi_isCompiling_14 (tgt := 18) (by decide) ?_
    exact J18 S (1) _ _ _ hw (lv_sub hl [] rfl) hP hD hS
theorem d_Co_isCompiling_0 : decode b_Co_isCompiling 0 = .ok (.aload_n 0, 1) := by decide +kernel
theorem d_Co_isCompiling_1 : decode b_Co_isCompiling 1 = .ok (.getfield 21, 3) := by decide +kernel
theorem d_Co_isCompiling_4 : decode b_Co_isCompiling 4 = .ok (.ifnull 7, 3) := by decide +kernel
theorem d_Co_isCompiling_7 : decode b_Co_isCompiling 7 = .ok (.iconst 1, 1) := by decide +kernel
theorem d_Co_isCompiling_8 : decode b_Co_isCompiling 8 = .ok (.goto 4, 3) := by decide +kernel
theorem d_Co_isCompiling_11 : decode b_Co_isCompiling 11 = .ok (.iconst 0, 1) := by decide +kernel
theorem d_Co_isCompiling_12 : decode b_Co_isCompiling 12 = .ok (.ireturn, 1) := by decide +kernel
def wq_Co_isCompiling_12 (g : Gm) (post : Int32 → StC → Prop)  (S : StC) (t0 : Int32) : Prop :=
  (narrow .boolean (.int (t0)) = .int (t0)) ∧ (post (t0) S)
def wp_Co_isCompiling (g : Gm) (post : Int32 → StC → Prop) (S : StC)  : Prop :=
  (((S.2.2.2.1 0)) = none → wq_Co_isCompiling_12 g post  S (0)) ∧ (∀ y1 : Nat, ((S.2.2.2.1 0)) = some y1 → wq_Co_isCompiling_12 g post  S (1))
set_option maxRecDepth 100000 in
set_option maxHeartbeats 4000000 in
theorem c_Co_isCompiling (l : Launch) (g : Gm) (sz : Nat) (S : StC)  (post : Int32 → StC → Prop) (hw : wp_Co_isCompiling g post S ) : Met l y_Co_isCompiling (.code y_Co_isCompiling b_Co_isCompiling 1 (some .boolean) :: w_C) (rmM 0 0) (va_Pc [.ref (g.2.2 17)] (PC g sz S)) (va_Qi post (BC g (AC g sz S)) (AC g sz S)) 0 0 (AC g sz S) := by
  refine ofC_z (by decide) (Nat.le_of_ble_eq_true rfl) (fun p e s m args below meth c Q A H locs ls hx hb hml hts hown hK hA hC hN kr hl hP hD hS => ?_)
  have hl : lv_has ls 1 [(0, .ref (g.2.2 17))] := hl
  unfold wp_Co_isCompiling at hw
  have J12 : ∀ (S : StC) (t0 : Int32) (H : Heap) (locs : List Loc) (ls : Array Slot), wq_Co_isCompiling_12 g post  S t0 → lv_has ls 1 [] → va_P g.1 classes (wC g S) H → va_D A (wC g S) → va_S A s.heap H locs → W p l e (rmM 0 0) s m args below meth c H locs 0 0 Q (F0 m 12 ls [.int (t0)]) := by
    intro S t0 H locs ls hw hl hP hD hS
    unfold wq_Co_isCompiling_12 at hw
    obtain ⟨hnz, hw⟩ := hw
    exact kr (t0) S _ _ _ _ hnz hw hP hD hS d_Co_isCompiling_12
  refine lv_aload_n hx hb d_Co_isCompiling_0 rfl (lv_at hl 0 rfl) ?_
  refine va_get (D := g.1) (ci := 10) (v := va_rf ((S.2.2.2.1 0))) (C := R_Co) (T := F_Co) (N := 4) hx hb hts hin_Co hown hK hP 17 rfl rfl 0 (by decide) (hts _ k_C_122) (fun _ h9 => h9) rfl d_Co_isCompiling_1 ?_
  refine lv_ifnullq hx hb d_Co_isCompiling_4 (tgt := 11) (by decide) (fun hq2 => ?_) (fun y1 hq2 => ?_)
  · have hw := hw.1 hq2
    refine lv_iconst (v := 0) hx hb d_Co_isCompiling_11 (by decide) ?_
    exact J12 S (0) _ _ _ hw (lv_sub hl [] rfl) hP hD hS
  · have hw := hw.2 y1 hq2
    refine lv_iconst (v := 1) hx hb d_Co_isCompiling_7 (by decide) ?_
    refine lv_goto hx hb d_Co_isCompiling_8 (tgt := 12) (by decide) ?_
    exact J12 S (1) _ _ _ hw (lv_sub hl [] rfl) hP hD hS
theorem d_Co_end_0 : decode b_Co_end 0 = .ok (.aload_n 0, 1) := by decide +kernel
theorem d_Co_end_1 : decode b_Co_end 1 = .ok (.getfield 21, 3) := by decide +kernel
theorem d_Co_end_4 : decode b_Co_end 4 = .ok (.astore_n 1, 1) := by decide +kernel
theorem d_Co_end_5 : decode b_Co_end 5 = .ok (.aload_n 0, 1) := by decide +kernel
theorem d_Co_end_6 : decode b_Co_end 6 = .ok (.aconst_null, 1) := by decide +kernel
theorem d_Co_end_7 : decode b_Co_end 7 = .ok (.putfield 21, 3) := by decide +kernel
theorem d_Co_end_10 : decode b_Co_end 10 = .ok (.aload_n 1, 1) := by decide +kernel
theorem d_Co_end_11 : decode b_Co_end 11 = .ok (.areturn, 1) := by decide +kernel
def wp_Co_end (g : Gm) (post : Option Nat → StC → Prop) (S : StC)  : Prop :=
  post ((S.2.2.2.1 0)) (S.1, S.2.1, S.2.2.1, (va_up S.2.2.2.1 0 (none)), S.2.2.2.2)
set_option maxRecDepth 100000 in
set_option maxHeartbeats 4000000 in
theorem c_Co_end (l : Launch) (g : Gm) (sz : Nat) (S : StC)  (post : Option Nat → StC → Prop) (hw : wp_Co_end g post S ) : Met l y_Co_end (.code y_Co_end b_Co_end 2 (some (.object "WordSmith$MadeWord")) :: w_C) (rmM 0 0) (va_Pc [.ref (g.2.2 17)] (PC g sz S)) (va_Qq post (BC g (AC g sz S)) (AC g sz S)) 0 0 (AC g sz S) := by
  refine ofC_q (by decide) (Nat.le_of_ble_eq_true rfl) (fun p e s m args below meth c Q A H locs ls hx hb hml hts hown hK hA hC hN kr hl hP hD hS => ?_)
  have hl : lv_has ls 2 [(0, .ref (g.2.2 17))] := hl
  unfold wp_Co_end at hw
  refine lv_aload_n hx hb d_Co_end_0 rfl (lv_at hl 0 rfl) ?_
  refine va_get (D := g.1) (ci := 10) (v := va_rf ((S.2.2.2.1 0))) (C := R_Co) (T := F_Co) (N := 4) hx hb hts hin_Co hown hK hP 17 rfl rfl 0 (by decide) (hts _ k_C_122) (fun _ h9 => h9) rfl d_Co_end_1 ?_
  refine lv_astore_nq (lv' := [(1, va_rf ((S.2.2.2.1 0))), (0, .ref (g.2.2 17))]) hx hb d_Co_end_4 rfl hl (by decide) rfl (fun ls hl => ?_)
  refine lv_aload_n hx hb d_Co_end_5 rfl (lv_at hl 1 rfl) ?_
  refine lv_null hx hb d_Co_end_6 ?_
  refine pt_C (S2 := (S.1, S.2.1, S.2.2.1, (va_up S.2.2.2.1 0 (none)), S.2.2.2.2)) (v := va_rf (none)) (C := R_Co) (F := F_Co) (N := 4) (ci := 10) hx hb hts hin_Co t_Co t_Co_ok n_Co hown hK hP hD hS 17 rfl rfl 0 (by decide) rfl (rf_nar _ _) (rf_fit _ _) (Nat.le_of_ble_eq_true rfl) (sR_C_0 g _ _) k_C_122 d_Co_end_7 (fun H locs hP hD hS => ?_)
  refine lv_aload_nq hx hb d_Co_end_10 rfl (lv_at hl 0 rfl) ?_
  exact kr ((S.2.2.2.1 0)) (S.1, S.2.1, S.2.2.1, (va_up S.2.2.2.1 0 (none)), S.2.2.2.2) _ _ _ _ hw hP hD hS d_Co_end_11
theorem qC_7 {R : Room} {s : State} {args : Array Value} (hts : ∀ w ∈ w_C, w.before args s = true) (hR : (rmM 0 0).frames + 1 ≤ R.frames ∧ 8 + (1 + 11) + (rmM 0 0).locals ≤ R.locals) : CallW R s args "WordSmith$Compiler" R_Mw 34 y_Mw_isFull b_Mw_isFull 1 (some .boolean) (.code y_Mw_isFull b_Mw_isFull 1 (some .boolean) :: w_C) (rmM 0 0) 0 0 0 := ⟨callB_of 0 hts (good_C k_C_406) rfl rfl rfl (hts _ k_C_21) (hts _ k_C_403) ⟨by decide +kernel, by decide +kernel, by decide +kernel⟩ hR, hts _ k_C_404, hts _ k_C_405⟩
theorem qC_8 {R : Room} {s : State} {args : Array Value} (hts : ∀ w ∈ w_C, w.before args s = true) (hR : (rmM 0 0).frames + 1 ≤ R.frames ∧ 8 + (3 + 11) + (rmM 0 0).locals ≤ R.locals) : CallW R s args "WordSmith$Compiler" R_Mw 38 y_Mw_add b_Mw_add 3 none (.code y_Mw_add b_Mw_add 3 none :: w_C) (rmM 0 0) 0 0 2 := ⟨callB_of 2 hts (good_C k_C_410) rfl rfl rfl (hts _ k_C_21) (hts _ k_C_407) ⟨by decide +kernel, by decide +kernel, by decide +kernel⟩ hR, hts _ k_C_408, hts _ k_C_409⟩
theorem d_Co_addItem_0 : decode b_Co_addItem 0 = .ok (.aload_n 0, 1) := by decide +kernel
theorem d_Co_addItem_1 : decode b_Co_addItem 1 = .ok (.getfield 21, 3) := by decide +kernel
theorem d_Co_addItem_4 : decode b_Co_addItem 4 = .ok (.ifnonnull 6, 3) := by decide +kernel
theorem d_Co_addItem_7 : decode b_Co_addItem 7 = .ok (.bipush 6, 2) := by decide +kernel
theorem d_Co_addItem_9 : decode b_Co_addItem 9 = .ok (.ireturn, 1) := by decide +kernel
theorem d_Co_addItem_10 : decode b_Co_addItem 10 = .ok (.aload_n 0, 1) := by decide +kernel
theorem d_Co_addItem_11 : decode b_Co_addItem 11 = .ok (.getfield 21, 3) := by decide +kernel
theorem d_Co_addItem_14 : decode b_Co_addItem 14 = .ok (.invokevirtual 34, 3) := by decide +kernel
theorem d_Co_addItem_17 : decode b_Co_addItem 17 = .ok (.ifCond .eq 5, 3) := by decide +kernel
theorem d_Co_addItem_20 : decode b_Co_addItem 20 = .ok (.iconst 3, 1) := by decide +kernel
theorem d_Co_addItem_21 : decode b_Co_addItem 21 = .ok (.ireturn, 1) := by decide +kernel
theorem d_Co_addItem_22 : decode b_Co_addItem 22 = .ok (.aload_n 0, 1) := by decide +kernel
theorem d_Co_addItem_23 : decode b_Co_addItem 23 = .ok (.getfield 21, 3) := by decide +kernel
theorem d_Co_addItem_26 : decode b_Co_addItem 26 = .ok (.iload_n 1, 1) := by decide +kernel
theorem d_Co_addItem_27 : decode b_Co_addItem 27 = .ok (.iload_n 2, 1) := by decide +kernel
theorem d_Co_addItem_28 : decode b_Co_addItem 28 = .ok (.invokevirtual 38, 3) := by decide +kernel
theorem d_Co_addItem_31 : decode b_Co_addItem 31 = .ok (.iconst 0, 1) := by decide +kernel
theorem d_Co_addItem_32 : decode b_Co_addItem 32 = .ok (.ireturn, 1) := by decide +kernel
def wp_Co_addItem (g : Gm) (post : Int32 → StC → Prop) (S : StC) (a0 : Int32) (a1 : Int32) : Prop :=
  (((S.2.2.2.1 0)) = none → post (6) S) ∧ (∀ y1 : Nat, ((S.2.2.2.1 0)) = some y1 → ∃ (y3 : Nat), ((S.2.2.2.1 0) = some y3) ∧ (∃ (vs5 : List Value), (y3 ∈ S.2.2.2.2.2.1) ∧ (S.2.2.2.2.2.2 y3 = .inr (11, vs5)) ∧ (wp_Mw_isFull g (fun (r9 : Int32) (S8 : StC) => (((r9 = 0) → ∃ (y10 : Nat), ((S8.2.2.2.1 0) = some y10) ∧ (∃ (vs12 : List Value), (y10 ∈ S8.2.2.2.2.2.1) ∧ (S8.2.2.2.2.2.2 y10 = .inr (11, vs12)) ∧ (wp_Mw_add g (fun S15 : StC => (post (0) S15)) S8 (y10) (a0) (a1)))) ∧ (¬ (r9 = 0) → post (3) S8))) S (y3))))
set_option maxRecDepth 100000 in
set_option maxHeartbeats 4000000 in
theorem c_Co_addItem (l : Launch) (g : Gm) (sz : Nat) (S : StC) (a0 : Int32) (a1 : Int32) (post : Int32 → StC → Prop) (hw : wp_Co_addItem g post S a0 a1) : Met l y_Co_addItem (.code y_Co_addItem b_Co_addItem 3 (some .int) :: w_C) (rmM 1 22) (va_Pc [.ref (g.2.2 17), .int (a0), .int (a1)] (PC g sz S)) (va_Qi post (BC g (AC g sz S)) (AC g sz S)) 0 0 (AC g sz S) := by
  refine ofC_i (by decide) (Nat.le_of_ble_eq_true rfl) (fun p e s m args below meth c Q A H locs ls hx hb hml hts hown hK hA hC hN kr hl hP hD hS => ?_)
  have hl : lv_has ls 3 [(0, .ref (g.2.2 17)), (1, .int (a0)), (2, .int (a1))] := hl
  unfold wp_Co_addItem at hw
  refine lv_aload_n hx hb d_Co_addItem_0 rfl (lv_at hl 0 rfl) ?_
  refine va_get (D := g.1) (ci := 10) (v := va_rf ((S.2.2.2.1 0))) (C := R_Co) (T := F_Co) (N := 4) hx hb hts hin_Co hown hK hP 17 rfl rfl 0 (by decide) (hts _ k_C_122) (fun _ h9 => h9) rfl d_Co_addItem_1 ?_
  refine lv_ifnonnullq hx hb d_Co_addItem_4 (tgt := 10) (by decide) (fun y1 hq2 => ?_) (fun hq2 => ?_)
  · have hw := hw.2 y1 hq2
    refine lv_aload_n hx hb d_Co_addItem_10 rfl (lv_at hl 0 rfl) ?_
    refine va_get (D := g.1) (ci := 10) (v := va_rf ((S.2.2.2.1 0))) (C := R_Co) (T := F_Co) (N := 4) hx hb hts hin_Co hown hK hP 17 rfl rfl 0 (by decide) (hts _ k_C_122) (fun _ h9 => h9) rfl d_Co_addItem_11 ?_
    obtain ⟨y3, hy4, hw⟩ := hw
    refine W_rf hy4 ?_
    obtain ⟨vs5, ha6, hf7, hw⟩ := hw
    refine cC_iV (As := []) (rest := []) hx hb hml hown hts hK hC hN hP hD hS hA (Nat.zero_le _) (Nat.zero_le _) hl.1 (precv_C (C := R_Mw) (F := F_Mw) (N := 5) hK hP ha6 hf7 rfl) (qC_7 hts ⟨Nat.le_of_ble_eq_true rfl, Nat.le_of_ble_eq_true rfl⟩) (c_Mw_isFull l g H.size _ (y3) _ hw) rfl rfl (Nat.le_of_ble_eq_true rfl) d_Co_addItem_14 (fun r9 S8 H locs hw hP hD hS => ?_)
    refine lv_if_eq hx hb d_Co_addItem_17 (tgt := 22) (by decide) (fun hc => ?_) (fun hc => ?_)
    · have hw := hw.1 hc
      refine lv_aload_n hx hb d_Co_addItem_22 rfl (lv_at hl 0 rfl) ?_
      refine va_get (D := g.1) (ci := 10) (v := va_rf ((S8.2.2.2.1 0))) (C := R_Co) (T := F_Co) (N := 4) hx hb hts hin_Co hown hK hP 17 rfl rfl 0 (by decide) (hts _ k_C_122) (fun _ h9 => h9) rfl d_Co_addItem_23 ?_
      obtain ⟨y10, hy11, hw⟩ := hw
      refine W_rf hy11 ?_
      refine lv_iload_n hx hb d_Co_addItem_26 rfl (lv_at hl 1 rfl) ?_
      refine lv_iload_n hx hb d_Co_addItem_27 rfl (lv_at hl 2 rfl) ?_
      obtain ⟨vs12, ha13, hf14, hw⟩ := hw
      refine cC_vV (As := [.int (a0), .int (a1)]) (rest := []) hx hb hml hown hts hK hC hN hP hD hS hA (Nat.zero_le _) (Nat.zero_le _) hl.1 (precv_C (C := R_Mw) (F := F_Mw) (N := 5) hK hP ha13 hf14 rfl) (qC_8 hts ⟨Nat.le_of_ble_eq_true rfl, Nat.le_of_ble_eq_true rfl⟩) (c_Mw_add l g H.size _ (y10) (a0) (a1) _ hw) rfl rfl (Nat.le_of_ble_eq_true rfl) d_Co_addItem_28 (fun S15 H locs hw hP hD hS => ?_)
      refine lv_iconst (v := 0) hx hb d_Co_addItem_31 (by decide) ?_
      exact kr (0) S15 _ _ _ _ hw hP hD hS d_Co_addItem_32
    · have hw := hw.2 hc
      refine lv_iconst (v := 3) hx hb d_Co_addItem_20 (by decide) ?_
      exact kr (3) S8 _ _ _ _ hw hP hD hS d_Co_addItem_21
  · have hw := hw.1 hq2
    refine lv_bipush (v := 6) hx hb d_Co_addItem_7 (by decide) ?_
    exact kr (6) S _ _ _ _ hw hP hD hS d_Co_addItem_9
theorem qC_9 {R : Room} {s : State} {args : Array Value} (hts : ∀ w ∈ w_C, w.before args s = true) (hR : (rmM 0 0).frames + 1 ≤ R.frames ∧ 8 + (1 + 11) + (rmM 0 0).locals ≤ R.locals) : va_CU R s args "WordSmith$Compiler" "WordSmith$BuiltIn" "java/lang/Enum" 57 ⟨"WordSmith$BuiltIn", "ordinal", "()I"⟩ y_En_ordinal b_En_ordinal 1 (some .int) (.code y_En_ordinal b_En_ordinal 1 (some .int) :: w_C) (rmM 0 0) 0 0 0 := va_cwU 0 hts (good_U k_C_539 k_C_480 k_C_481 k_C_482 k_C_18 k_C_483) rfl rfl rfl rfl ⟨by decide +kernel, by decide +kernel, by decide +kernel⟩ hR
theorem d_Co_fits_0 : decode b_Co_fits 0 = .ok (.aload_n 0, 1) := by decide +kernel
theorem d_Co_fits_1 : decode b_Co_fits 1 = .ok (.getfield 30, 3) := by decide +kernel
theorem d_Co_fits_4 : decode b_Co_fits 4 = .ok (.ifCond .ne 7, 3) := by decide +kernel
theorem d_Co_fits_7 : decode b_Co_fits 7 = .ok (.aconst_null, 1) := by decide +kernel
theorem d_Co_fits_8 : decode b_Co_fits 8 = .ok (.goto 14, 3) := by decide +kernel
theorem d_Co_fits_11 : decode b_Co_fits 11 = .ok (.aload_n 0, 1) := by decide +kernel
theorem d_Co_fits_12 : decode b_Co_fits 12 = .ok (.getfield 11, 3) := by decide +kernel
theorem d_Co_fits_15 : decode b_Co_fits 15 = .ok (.aload_n 0, 1) := by decide +kernel
theorem d_Co_fits_16 : decode b_Co_fits 16 = .ok (.getfield 30, 3) := by decide +kernel
theorem d_Co_fits_19 : decode b_Co_fits 19 = .ok (.iconst 1, 1) := by decide +kernel
theorem d_Co_fits_20 : decode b_Co_fits 20 = .ok (.isub, 1) := by decide +kernel
theorem d_Co_fits_21 : decode b_Co_fits 21 = .ok (.aaload, 1) := by decide +kernel
theorem d_Co_fits_22 : decode b_Co_fits 22 = .ok (.astore_n 2, 1) := by decide +kernel
theorem d_Co_fits_23 : decode b_Co_fits 23 = .ok (.getstatic 52, 3) := by decide +kernel
theorem d_Co_fits_26 : decode b_Co_fits 26 = .ok (.aload_n 1, 1) := by decide +kernel
theorem d_Co_fits_27 : decode b_Co_fits 27 = .ok (.invokevirtual 57, 3) := by decide +kernel
theorem d_Co_fits_30 : decode b_Co_fits 30 = .ok (.iaload, 1) := by decide +kernel
theorem d_Co_fits_31 : decode b_Co_fits 31 = .ok (.tableswitch 127 34 41 #[45, 55, 75, 88, 88, 88, 101, 114], 45) := by decide +kernel
theorem d_Co_fits_76 : decode b_Co_fits 76 = .ok (.aload_n 2, 1) := by decide +kernel
theorem d_Co_fits_77 : decode b_Co_fits 77 = .ok (.ifnonnull 7, 3) := by decide +kernel
theorem d_Co_fits_80 : decode b_Co_fits 80 = .ok (.iconst 1, 1) := by decide +kernel
theorem d_Co_fits_81 : decode b_Co_fits 81 = .ok (.goto 4, 3) := by decide +kernel
theorem d_Co_fits_84 : decode b_Co_fits 84 = .ok (.iconst 0, 1) := by decide +kernel
theorem d_Co_fits_85 : decode b_Co_fits 85 = .ok (.ireturn, 1) := by decide +kernel
theorem d_Co_fits_86 : decode b_Co_fits 86 = .ok (.aload_n 2, 1) := by decide +kernel
theorem d_Co_fits_87 : decode b_Co_fits 87 = .ok (.getstatic 61, 3) := by decide +kernel
theorem d_Co_fits_90 : decode b_Co_fits 90 = .ok (.if_acmp .eq 10, 3) := by decide +kernel
theorem d_Co_fits_93 : decode b_Co_fits 93 = .ok (.aload_n 2, 1) := by decide +kernel
theorem d_Co_fits_94 : decode b_Co_fits 94 = .ok (.getstatic 65, 3) := by decide +kernel
theorem d_Co_fits_97 : decode b_Co_fits 97 = .ok (.if_acmp .ne 7, 3) := by decide +kernel
theorem d_Co_fits_100 : decode b_Co_fits 100 = .ok (.iconst 1, 1) := by decide +kernel
theorem d_Co_fits_101 : decode b_Co_fits 101 = .ok (.goto 4, 3) := by decide +kernel
theorem d_Co_fits_104 : decode b_Co_fits 104 = .ok (.iconst 0, 1) := by decide +kernel
theorem d_Co_fits_105 : decode b_Co_fits 105 = .ok (.ireturn, 1) := by decide +kernel
theorem d_Co_fits_106 : decode b_Co_fits 106 = .ok (.aload_n 2, 1) := by decide +kernel
theorem d_Co_fits_107 : decode b_Co_fits 107 = .ok (.getstatic 61, 3) := by decide +kernel
theorem d_Co_fits_110 : decode b_Co_fits 110 = .ok (.if_acmp .ne 7, 3) := by decide +kernel
theorem d_Co_fits_113 : decode b_Co_fits 113 = .ok (.iconst 1, 1) := by decide +kernel
theorem d_Co_fits_114 : decode b_Co_fits 114 = .ok (.goto 4, 3) := by decide +kernel
theorem d_Co_fits_117 : decode b_Co_fits 117 = .ok (.iconst 0, 1) := by decide +kernel
theorem d_Co_fits_118 : decode b_Co_fits 118 = .ok (.ireturn, 1) := by decide +kernel
theorem d_Co_fits_119 : decode b_Co_fits 119 = .ok (.aload_n 2, 1) := by decide +kernel
theorem d_Co_fits_120 : decode b_Co_fits 120 = .ok (.getstatic 68, 3) := by decide +kernel
theorem d_Co_fits_123 : decode b_Co_fits 123 = .ok (.if_acmp .ne 7, 3) := by decide +kernel
theorem d_Co_fits_126 : decode b_Co_fits 126 = .ok (.iconst 1, 1) := by decide +kernel
theorem d_Co_fits_127 : decode b_Co_fits 127 = .ok (.goto 4, 3) := by decide +kernel
theorem d_Co_fits_130 : decode b_Co_fits 130 = .ok (.iconst 0, 1) := by decide +kernel
theorem d_Co_fits_131 : decode b_Co_fits 131 = .ok (.ireturn, 1) := by decide +kernel
theorem d_Co_fits_132 : decode b_Co_fits 132 = .ok (.aload_n 2, 1) := by decide +kernel
theorem d_Co_fits_133 : decode b_Co_fits 133 = .ok (.getstatic 71, 3) := by decide +kernel
theorem d_Co_fits_136 : decode b_Co_fits 136 = .ok (.if_acmp .ne 7, 3) := by decide +kernel
theorem d_Co_fits_139 : decode b_Co_fits 139 = .ok (.iconst 1, 1) := by decide +kernel
theorem d_Co_fits_140 : decode b_Co_fits 140 = .ok (.goto 4, 3) := by decide +kernel
theorem d_Co_fits_143 : decode b_Co_fits 143 = .ok (.iconst 0, 1) := by decide +kernel
theorem d_Co_fits_144 : decode b_Co_fits 144 = .ok (.ireturn, 1) := by decide +kernel
theorem d_Co_fits_145 : decode b_Co_fits 145 = .ok (.aload_n 2, 1) := by decide +kernel
theorem d_Co_fits_146 : decode b_Co_fits 146 = .ok (.getstatic 74, 3) := by decide +kernel
theorem d_Co_fits_149 : decode b_Co_fits 149 = .ok (.if_acmp .ne 7, 3) := by decide +kernel
theorem d_Co_fits_152 : decode b_Co_fits 152 = .ok (.iconst 1, 1) := by decide +kernel
theorem d_Co_fits_153 : decode b_Co_fits 153 = .ok (.goto 4, 3) := by decide +kernel
theorem d_Co_fits_156 : decode b_Co_fits 156 = .ok (.iconst 0, 1) := by decide +kernel
theorem d_Co_fits_157 : decode b_Co_fits 157 = .ok (.ireturn, 1) := by decide +kernel
theorem d_Co_fits_158 : decode b_Co_fits 158 = .ok (.iconst 1, 1) := by decide +kernel
theorem d_Co_fits_159 : decode b_Co_fits 159 = .ok (.ireturn, 1) := by decide +kernel
def wq_Co_fits_157 (g : Gm) (post : Int32 → StC → Prop)  (S : StC) (t0 : Int32) : Prop :=
  (narrow .boolean (.int (t0)) = .int (t0)) ∧ (post (t0) S)
def wq_Co_fits_144 (g : Gm) (post : Int32 → StC → Prop)  (S : StC) (t0 : Int32) : Prop :=
  (narrow .boolean (.int (t0)) = .int (t0)) ∧ (post (t0) S)
def wq_Co_fits_131 (g : Gm) (post : Int32 → StC → Prop)  (S : StC) (t0 : Int32) : Prop :=
  (narrow .boolean (.int (t0)) = .int (t0)) ∧ (post (t0) S)
def wq_Co_fits_118 (g : Gm) (post : Int32 → StC → Prop)  (S : StC) (t0 : Int32) : Prop :=
  (narrow .boolean (.int (t0)) = .int (t0)) ∧ (post (t0) S)
def wq_Co_fits_105 (g : Gm) (post : Int32 → StC → Prop)  (S : StC) (t0 : Int32) : Prop :=
  (narrow .boolean (.int (t0)) = .int (t0)) ∧ (post (t0) S)
def wq_Co_fits_100 (g : Gm) (post : Int32 → StC → Prop)  (S : StC)  : Prop :=
  wq_Co_fits_105 g post  S (1)
def wq_Co_fits_85 (g : Gm) (post : Int32 → StC → Prop)  (S : StC) (t0 : Int32) : Prop :=
  (narrow .boolean (.int (t0)) = .int (t0)) ∧ (post (t0) S)
def wq_Co_fits_22 (g : Gm) (post : Int32 → StC → Prop)  (S : StC) (x1 : Nat) (t0 : Option Nat) : Prop :=
  ∃ (i1 : Nat), (i1 < 52) ∧ (x1 = g.2.2 (100 + i1)) ∧ (wp_En_ordinal g (fun (r5 : Int32) (S4 : StC) => ((vp_in r5 52) ∧ ((((swE.getD (Int32.toNatClampNeg (r5)) 0) = 34) → ((t0) = none → wq_Co_fits_85 g post  S4 (1)) ∧ (∀ y7 : Nat, (t0) = some y7 → wq_Co_fits_85 g post  S4 (0))) ∧ (¬ ((swE.getD (Int32.toNatClampNeg (r5)) 0) = 34) → (((swE.getD (Int32.toNatClampNeg (r5)) 0) = 35) → (((t0) = (some ((g.2.2 141)))) → wq_Co_fits_100 g post  S4 ) ∧ (¬ ((t0) = (some ((g.2.2 141)))) → (((t0) = (some ((g.2.2 143)))) → wq_Co_fits_100 g post  S4 ) ∧ (¬ ((t0) = (some ((g.2.2 143)))) → wq_Co_fits_105 g post  S4 (0)))) ∧ (¬ ((swE.getD (Int32.toNatClampNeg (r5)) 0) = 35) → (((swE.getD (Int32.toNatClampNeg (r5)) 0) = 36) → (((t0) = (some ((g.2.2 141)))) → wq_Co_fits_118 g post  S4 (1)) ∧ (¬ ((t0) = (some ((g.2.2 141)))) → wq_Co_fits_118 g post  S4 (0))) ∧ (¬ ((swE.getD (Int32.toNatClampNeg (r5)) 0) = 36) → (((swE.getD (Int32.toNatClampNeg (r5)) 0) = 37) → (((t0) = (some ((g.2.2 144)))) → wq_Co_fits_131 g post  S4 (1)) ∧ (¬ ((t0) = (some ((g.2.2 144)))) → wq_Co_fits_131 g post  S4 (0))) ∧ (¬ ((swE.getD (Int32.toNatClampNeg (r5)) 0) = 37) → (((swE.getD (Int32.toNatClampNeg (r5)) 0) = 38) → (((t0) = (some ((g.2.2 144)))) → wq_Co_fits_131 g post  S4 (1)) ∧ (¬ ((t0) = (some ((g.2.2 144)))) → wq_Co_fits_131 g post  S4 (0))) ∧ (¬ ((swE.getD (Int32.toNatClampNeg (r5)) 0) = 38) → (((swE.getD (Int32.toNatClampNeg (r5)) 0) = 39) → (((t0) = (some ((g.2.2 144)))) → wq_Co_fits_131 g post  S4 (1)) ∧ (¬ ((t0) = (some ((g.2.2 144)))) → wq_Co_fits_131 g post  S4 (0))) ∧ (¬ ((swE.getD (Int32.toNatClampNeg (r5)) 0) = 39) → (((swE.getD (Int32.toNatClampNeg (r5)) 0) = 40) → (((t0) = (some ((g.2.2 147)))) → wq_Co_fits_144 g post  S4 (1)) ∧ (¬ ((t0) = (some ((g.2.2 147)))) → wq_Co_fits_144 g post  S4 (0))) ∧ (¬ ((swE.getD (Int32.toNatClampNeg (r5)) 0) = 40) → (((swE.getD (Int32.toNatClampNeg (r5)) 0) = 41) → (((t0) = (some ((g.2.2 149)))) → wq_Co_fits_157 g post  S4 (1)) ∧ (¬ ((t0) = (some ((g.2.2 149)))) → wq_Co_fits_157 g post  S4 (0))) ∧ (¬ ((swE.getD (Int32.toNatClampNeg (r5)) 0) = 41) → post (1) S4))))))))))) S (x1))
def wp_Co_fits (g : Gm) (post : Int32 → StC → Prop) (S : StC) (a0 : Nat) : Prop :=
  (((S.1 13) = 0) → wq_Co_fits_22 g post  S (a0) (none)) ∧ (¬ ((S.1 13) = 0) → (vp_in ((S.1 13) - 1) 8) ∧ (wq_Co_fits_22 g post  S (a0) (((S.2.2.2.2.1 2) (Int32.toNatClampNeg (((S.1 13) - 1)))))))
set_option maxRecDepth 100000 in
set_option maxHeartbeats 4000000 in
theorem c_Co_fits (l : Launch) (g : Gm) (sz : Nat) (S : StC) (a0 : Nat) (post : Int32 → StC → Prop) (hw : wp_Co_fits g post S a0) : Met l y_Co_fits (.code y_Co_fits b_Co_fits 3 (some .boolean) :: w_C) (rmM 1 20) (va_Pc [.ref (g.2.2 17), .ref (a0)] (PC g sz S)) (va_Qi post (BC g (AC g sz S)) (AC g sz S)) 0 0 (AC g sz S) := by
  refine ofC_z (by decide) (Nat.le_of_ble_eq_true rfl) (fun p e s m args below meth c Q A H locs ls hx hb hml hts hown hK hA hC hN kr hl hP hD hS => ?_)
  have hl : lv_has ls 3 [(0, .ref (g.2.2 17)), (1, .ref (a0))] := hl
  unfold wp_Co_fits at hw
  have J157 : ∀ (S : StC) (t0 : Int32) (H : Heap) (locs : List Loc) (ls : Array Slot), wq_Co_fits_157 g post  S t0 → lv_has ls 3 [] → va_P g.1 classes (wC g S) H → va_D A (wC g S) → va_S A s.heap H locs → W p l e (rmM 1 20) s m args below meth c H locs 0 0 Q (F0 m 157 ls [.int (t0)]) := by
    intro S t0 H locs ls hw hl hP hD hS
    unfold wq_Co_fits_157 at hw
    obtain ⟨hnz, hw⟩ := hw
    exact kr (t0) S _ _ _ _ hnz hw hP hD hS d_Co_fits_157
  have J144 : ∀ (S : StC) (t0 : Int32) (H : Heap) (locs : List Loc) (ls : Array Slot), wq_Co_fits_144 g post  S t0 → lv_has ls 3 [] → va_P g.1 classes (wC g S) H → va_D A (wC g S) → va_S A s.heap H locs → W p l e (rmM 1 20) s m args below meth c H locs 0 0 Q (F0 m 144 ls [.int (t0)]) := by
    intro S t0 H locs ls hw hl hP hD hS
    unfold wq_Co_fits_144 at hw
    obtain ⟨hnz, hw⟩ := hw
    exact kr (t0) S _ _ _ _ hnz hw hP hD hS d_Co_fits_144
  have J131 : ∀ (S : StC) (t0 : Int32) (H : Heap) (locs : List Loc) (ls : Array Slot), wq_Co_fits_131 g post  S t0 → lv_has ls 3 [] → va_P g.1 classes (wC g S) H → va_D A (wC g S) → va_S A s.heap H locs → W p l e (rmM 1 20) s m args below meth c H locs 0 0 Q (F0 m 131 ls [.int (t0)]) := by
    intro S t0 H locs ls hw hl hP hD hS
    unfold wq_Co_fits_131 at hw
    obtain ⟨hnz, hw⟩ := hw
    exact kr (t0) S _ _ _ _ hnz hw hP hD hS d_Co_fits_131
  have J118 : ∀ (S : StC) (t0 : Int32) (H : Heap) (locs : List Loc) (ls : Array Slot), wq_Co_fits_118 g post  S t0 → lv_has ls 3 [] → va_P g.1 classes (wC g S) H → va_D A (wC g S) → va_S A s.heap H locs → W p l e (rmM 1 20) s m args below meth c H locs 0 0 Q (F0 m 118 ls [.int (t0)]) := by
    intro S t0 H locs ls hw hl hP hD hS
    unfold wq_Co_fits_118 at hw
    obtain ⟨hnz, hw⟩ := hw
    exact kr (t0) S _ _ _ _ hnz hw hP hD hS d_Co_fits_118
  have J105 : ∀ (S : StC) (t0 : Int32) (H : Heap) (locs : List Loc) (ls : Array Slot), wq_Co_fits_105 g post  S t0 → lv_has ls 3 [] → va_P g.1 classes (wC g S) H → va_D A (wC g S) → va_S A s.heap H locs → W p l e (rmM 1 20) s m args below meth c H locs 0 0 Q (F0 m 105 ls [.int (t0)]) := by
    intro S t0 H locs ls hw hl hP hD hS
    unfold wq_Co_fits_105 at hw
    obtain ⟨hnz, hw⟩ := hw
    exact kr (t0) S _ _ _ _ hnz hw hP hD hS d_Co_fits_105
  have J100 : ∀ (S : StC)  (H : Heap) (locs : List Loc) (ls : Array Slot), wq_Co_fits_100 g post  S  → lv_has ls 3 [] → va_P g.1 classes (wC g S) H → va_D A (wC g S) → va_S A s.heap H locs → W p l e (rmM 1 20) s m args below meth c H locs 0 0 Q (F0 m 100 ls []) := by
    intro S  H locs ls hw hl hP hD hS
    unfold wq_Co_fits_100 at hw
    refine lv_iconst (v := 1) hx hb d_Co_fits_100 (by decide) ?_
    refine lv_goto hx hb d_Co_fits_101 (tgt := 105) (by decide) ?_
    exact J105 S (1) _ _ _ hw (lv_sub hl [] rfl) hP hD hS
  have J85 : ∀ (S : StC) (t0 : Int32) (H : Heap) (locs : List Loc) (ls : Array Slot), wq_Co_fits_85 g post  S t0 → lv_has ls 3 [] → va_P g.1 classes (wC g S) H → va_D A (wC g S) → va_S A s.heap H locs → W p l e (rmM 1 20) s m args below meth c H locs 0 0 Q (F0 m 85 ls [.int (t0)]) := by
    intro S t0 H locs ls hw hl hP hD hS
    unfold wq_Co_fits_85 at hw
    obtain ⟨hnz, hw⟩ := hw
    exact kr (t0) S _ _ _ _ hnz hw hP hD hS d_Co_fits_85
  have J22 : ∀ (S : StC) (x1 : Nat) (t0 : Option Nat) (H : Heap) (locs : List Loc) (ls : Array Slot), wq_Co_fits_22 g post  S x1 t0 → lv_has ls 3 [(1, .ref (x1))] → va_P g.1 classes (wC g S) H → va_D A (wC g S) → va_S A s.heap H locs → W p l e (rmM 1 20) s m args below meth c H locs 0 0 Q (F0 m 22 ls [va_rf (t0)]) := by
    intro S x1 t0 H locs ls hw hl hP hD hS
    unfold wq_Co_fits_22 at hw
    refine lv_astore_nq (lv' := [(2, va_rf (t0)), (1, .ref (x1))]) hx hb d_Co_fits_22 rfl hl (by decide) rfl (fun ls hl => ?_)
    refine va_gets (C := "WordSmith$1") (n := "$SwitchMap$WordSmith$BuiltIn") (d := "[I") (v := .ref (g.2.2 90)) hx hb hC.1.2.1 hS hown (hts _ k_C_538) (fun _ h9 => h9) d_Co_fits_23 ?_
    refine lv_aload_n hx hb d_Co_fits_26 rfl (lv_at hl 1 rfl) ?_
    obtain ⟨i1, hi2, he3, hw⟩ := hw
    refine cC_iU (As := []) (rest := [.ref (g.2.2 90)]) hx hb hml hown hts hK hC hN hP hD hS hA (Nat.zero_le _) (Nat.zero_le _) hl.1 (erecv_C hC hS he3 hi2) (qC_9 hts ⟨Nat.le_of_ble_eq_true rfl, Nat.le_of_ble_eq_true rfl⟩) (c_En_ordinal l g H.size _ (x1) _ hw) rfl rfl (Nat.le_of_ble_eq_true rfl) d_Co_fits_27 (fun r5 S4 H locs hw hP hD hS => ?_)
    obtain ⟨hi, hw⟩ := hw
    refine va_ti (v := .int (swE.getD (Int32.toNatClampNeg (r5)) 0)) hx hb hC.1.2.2.1 hS hi rfl d_Co_fits_30 ?_
    by_cases hk6 : (swE.getD (Int32.toNatClampNeg (r5)) 0) = 34
    · have hw := hw.1 hk6
      refine sw_in hx hb d_Co_fits_31 hk6 (tgt := 76) (off := 45) (by decide) (by decide) rfl (by decide) ?_
      refine lv_aload_nq hx hb d_Co_fits_76 rfl (lv_at hl 0 rfl) ?_
      refine lv_ifnonnullq hx hb d_Co_fits_77 (tgt := 84) (by decide) (fun y7 hq8 => ?_) (fun hq8 => ?_)
      · have hw := hw.2 y7 hq8
        have hl : lv_has ls 3 [(2, .ref (y7)), (1, .ref (x1))] := by rw [hq8] at hl; exact hl
        refine lv_iconst (v := 0) hx hb d_Co_fits_84 (by decide) ?_
        exact J85 S4 (0) _ _ _ hw (lv_sub hl [] rfl) hP hD hS
      · have hw := hw.1 hq8
        have hl : lv_has ls 3 [(2, .null), (1, .ref (x1))] := by rw [hq8] at hl; exact hl
        refine lv_iconst (v := 1) hx hb d_Co_fits_80 (by decide) ?_
        refine lv_goto hx hb d_Co_fits_81 (tgt := 85) (by decide) ?_
        exact J85 S4 (1) _ _ _ hw (lv_sub hl [] rfl) hP hD hS
    · have hw := hw.2 hk6
      by_cases hk9 : (swE.getD (Int32.toNatClampNeg (r5)) 0) = 35
      · have hw := hw.1 hk9
        refine sw_in hx hb d_Co_fits_31 hk9 (tgt := 86) (off := 55) (by decide) (by decide) rfl (by decide) ?_
        refine lv_aload_nq hx hb d_Co_fits_86 rfl (lv_at hl 0 rfl) ?_
        refine va_gets (C := "WordSmith$BuiltIn") (n := "IF") (d := "LWordSmith$BuiltIn;") (v := .ref ((g.2.2 141))) hx hb (hC.1.1.1 41 (by decide)).1 hS hown (hts _ k_C_540) (fun _ h9 => h9) d_Co_fits_87 ?_
        refine lv_acmp_eq (rx := (t0)) (ry := (some ((g.2.2 141)))) hx hb d_Co_fits_90 (tgt := 100) (by decide) (fun hc => ?_) (fun hc => ?_)
        · have hw := hw.1 hc
          exact J100 S4  _ _ _ hw (lv_sub hl [] rfl) hP hD hS
        · have hw := hw.2 hc
          refine lv_aload_nq hx hb d_Co_fits_93 rfl (lv_at hl 0 rfl) ?_
          refine va_gets (C := "WordSmith$BuiltIn") (n := "ELSE") (d := "LWordSmith$BuiltIn;") (v := .ref ((g.2.2 143))) hx hb (hC.1.1.1 43 (by decide)).1 hS hown (hts _ k_C_541) (fun _ h9 => h9) d_Co_fits_94 ?_
          refine lv_acmp_ne (rx := (t0)) (ry := (some ((g.2.2 143)))) hx hb d_Co_fits_97 (tgt := 104) (by decide) (fun hc => ?_) (fun hc => ?_)
          · have hw := hw.2 hc
            refine lv_iconst (v := 0) hx hb d_Co_fits_104 (by decide) ?_
            exact J105 S4 (0) _ _ _ hw (lv_sub hl [] rfl) hP hD hS
          · have hw := hw.1 hc
            exact J100 S4  _ _ _ hw (lv_sub hl [] rfl) hP hD hS
      · have hw := hw.2 hk9
        by_cases hk10 : (swE.getD (Int32.toNatClampNeg (r5)) 0) = 36
        · have hw := hw.1 hk10
          refine sw_in hx hb d_Co_fits_31 hk10 (tgt := 106) (off := 75) (by decide) (by decide) rfl (by decide) ?_
          refine lv_aload_nq hx hb d_Co_fits_106 rfl (lv_at hl 0 rfl) ?_
          refine va_gets (C := "WordSmith$BuiltIn") (n := "IF") (d := "LWordSmith$BuiltIn;") (v := .ref ((g.2.2 141))) hx hb (hC.1.1.1 41 (by decide)).1 hS hown (hts _ k_C_540) (fun _ h9 => h9) d_Co_fits_107 ?_
          refine lv_acmp_ne (rx := (t0)) (ry := (some ((g.2.2 141)))) hx hb d_Co_fits_110 (tgt := 117) (by decide) (fun hc => ?_) (fun hc => ?_)
          · have hw := hw.2 hc
            refine lv_iconst (v := 0) hx hb d_Co_fits_117 (by decide) ?_
            exact J118 S4 (0) _ _ _ hw (lv_sub hl [] rfl) hP hD hS
          · have hw := hw.1 hc
            refine lv_iconst (v := 1) hx hb d_Co_fits_113 (by decide) ?_
            refine lv_goto hx hb d_Co_fits_114 (tgt := 118) (by decide) ?_
            exact J118 S4 (1) _ _ _ hw (lv_sub hl [] rfl) hP hD hS
        · have hw := hw.2 hk10
          by_cases hk11 : (swE.getD (Int32.toNatClampNeg (r5)) 0) = 37
          · have hw := hw.1 hk11
            refine sw_in hx hb d_Co_fits_31 hk11 (tgt := 119) (off := 88) (by decide) (by decide) rfl (by decide) ?_
            refine lv_aload_nq hx hb d_Co_fits_119 rfl (lv_at hl 0 rfl) ?_
            refine va_gets (C := "WordSmith$BuiltIn") (n := "BEGIN") (d := "LWordSmith$BuiltIn;") (v := .ref ((g.2.2 144))) hx hb (hC.1.1.1 44 (by decide)).1 hS hown (hts _ k_C_542) (fun _ h9 => h9) d_Co_fits_120 ?_
            refine lv_acmp_ne (rx := (t0)) (ry := (some ((g.2.2 144)))) hx hb d_Co_fits_123 (tgt := 130) (by decide) (fun hc => ?_) (fun hc => ?_)
            · have hw := hw.2 hc
              refine lv_iconst (v := 0) hx hb d_Co_fits_130 (by decide) ?_
              exact J131 S4 (0) _ _ _ hw (lv_sub hl [] rfl) hP hD hS
            · have hw := hw.1 hc
              refine lv_iconst (v := 1) hx hb d_Co_fits_126 (by decide) ?_
              refine lv_goto hx hb d_Co_fits_127 (tgt := 131) (by decide) ?_
              exact J131 S4 (1) _ _ _ hw (lv_sub hl [] rfl) hP hD hS
          · have hw := hw.2 hk11
            by_cases hk12 : (swE.getD (Int32.toNatClampNeg (r5)) 0) = 38
            · have hw := hw.1 hk12
              refine sw_in hx hb d_Co_fits_31 hk12 (tgt := 119) (off := 88) (by decide) (by decide) rfl (by decide) ?_
              refine lv_aload_nq hx hb d_Co_fits_119 rfl (lv_at hl 0 rfl) ?_
              refine va_gets (C := "WordSmith$BuiltIn") (n := "BEGIN") (d := "LWordSmith$BuiltIn;") (v := .ref ((g.2.2 144))) hx hb (hC.1.1.1 44 (by decide)).1 hS hown (hts _ k_C_542) (fun _ h9 => h9) d_Co_fits_120 ?_
              refine lv_acmp_ne (rx := (t0)) (ry := (some ((g.2.2 144)))) hx hb d_Co_fits_123 (tgt := 130) (by decide) (fun hc => ?_) (fun hc => ?_)
              · have hw := hw.2 hc
                refine lv_iconst (v := 0) hx hb d_Co_fits_130 (by decide) ?_
                exact J131 S4 (0) _ _ _ hw (lv_sub hl [] rfl) hP hD hS
              · have hw := hw.1 hc
                refine lv_iconst (v := 1) hx hb d_Co_fits_126 (by decide) ?_
                refine lv_goto hx hb d_Co_fits_127 (tgt := 131) (by decide) ?_
                exact J131 S4 (1) _ _ _ hw (lv_sub hl [] rfl) hP hD hS
            · have hw := hw.2 hk12
              by_cases hk13 : (swE.getD (Int32.toNatClampNeg (r5)) 0) = 39
              · have hw := hw.1 hk13
                refine sw_in hx hb d_Co_fits_31 hk13 (tgt := 119) (off := 88) (by decide) (by decide) rfl (by decide) ?_
                refine lv_aload_nq hx hb d_Co_fits_119 rfl (lv_at hl 0 rfl) ?_
                refine va_gets (C := "WordSmith$BuiltIn") (n := "BEGIN") (d := "LWordSmith$BuiltIn;") (v := .ref ((g.2.2 144))) hx hb (hC.1.1.1 44 (by decide)).1 hS hown (hts _ k_C_542) (fun _ h9 => h9) d_Co_fits_120 ?_
                refine lv_acmp_ne (rx := (t0)) (ry := (some ((g.2.2 144)))) hx hb d_Co_fits_123 (tgt := 130) (by decide) (fun hc => ?_) (fun hc => ?_)
                · have hw := hw.2 hc
                  refine lv_iconst (v := 0) hx hb d_Co_fits_130 (by decide) ?_
                  exact J131 S4 (0) _ _ _ hw (lv_sub hl [] rfl) hP hD hS
                · have hw := hw.1 hc
                  refine lv_iconst (v := 1) hx hb d_Co_fits_126 (by decide) ?_
                  refine lv_goto hx hb d_Co_fits_127 (tgt := 131) (by decide) ?_
                  exact J131 S4 (1) _ _ _ hw (lv_sub hl [] rfl) hP hD hS
              · have hw := hw.2 hk13
                by_cases hk14 : (swE.getD (Int32.toNatClampNeg (r5)) 0) = 40
                · have hw := hw.1 hk14
                  refine sw_in hx hb d_Co_fits_31 hk14 (tgt := 132) (off := 101) (by decide) (by decide) rfl (by decide) ?_
                  refine lv_aload_nq hx hb d_Co_fits_132 rfl (lv_at hl 0 rfl) ?_
                  refine va_gets (C := "WordSmith$BuiltIn") (n := "WHILE") (d := "LWordSmith$BuiltIn;") (v := .ref ((g.2.2 147))) hx hb (hC.1.1.1 47 (by decide)).1 hS hown (hts _ k_C_543) (fun _ h9 => h9) d_Co_fits_133 ?_
                  refine lv_acmp_ne (rx := (t0)) (ry := (some ((g.2.2 147)))) hx hb d_Co_fits_136 (tgt := 143) (by decide) (fun hc => ?_) (fun hc => ?_)
                  · have hw := hw.2 hc
                    refine lv_iconst (v := 0) hx hb d_Co_fits_143 (by decide) ?_
                    exact J144 S4 (0) _ _ _ hw (lv_sub hl [] rfl) hP hD hS
                  · have hw := hw.1 hc
                    refine lv_iconst (v := 1) hx hb d_Co_fits_139 (by decide) ?_
                    refine lv_goto hx hb d_Co_fits_140 (tgt := 144) (by decide) ?_
                    exact J144 S4 (1) _ _ _ hw (lv_sub hl [] rfl) hP hD hS
                · have hw := hw.2 hk14
                  by_cases hk15 : (swE.getD (Int32.toNatClampNeg (r5)) 0) = 41
                  · have hw := hw.1 hk15
                    refine sw_in hx hb d_Co_fits_31 hk15 (tgt := 145) (off := 114) (by decide) (by decide) rfl (by decide) ?_
                    refine lv_aload_nq hx hb d_Co_fits_145 rfl (lv_at hl 0 rfl) ?_
                    refine va_gets (C := "WordSmith$BuiltIn") (n := "DO") (d := "LWordSmith$BuiltIn;") (v := .ref ((g.2.2 149))) hx hb (hC.1.1.1 49 (by decide)).1 hS hown (hts _ k_C_544) (fun _ h9 => h9) d_Co_fits_146 ?_
                    refine lv_acmp_ne (rx := (t0)) (ry := (some ((g.2.2 149)))) hx hb d_Co_fits_149 (tgt := 156) (by decide) (fun hc => ?_) (fun hc => ?_)
                    · have hw := hw.2 hc
                      refine lv_iconst (v := 0) hx hb d_Co_fits_156 (by decide) ?_
                      exact J157 S4 (0) _ _ _ hw (lv_sub hl [] rfl) hP hD hS
                    · have hw := hw.1 hc
                      refine lv_iconst (v := 1) hx hb d_Co_fits_152 (by decide) ?_
                      refine lv_goto hx hb d_Co_fits_153 (tgt := 157) (by decide) ?_
                      exact J157 S4 (1) _ _ _ hw (lv_sub hl [] rfl) hP hD hS
                  · have hw := hw.2 hk15
                    have n0 := lv_neT hk6 (by decide : (34 : Int32).toInt = 34)
                    have n1 := lv_neT hk9 (by decide : (35 : Int32).toInt = 35)
                    have n2 := lv_neT hk10 (by decide : (36 : Int32).toInt = 36)
                    have n3 := lv_neT hk11 (by decide : (37 : Int32).toInt = 37)
                    have n4 := lv_neT hk12 (by decide : (38 : Int32).toInt = 38)
                    have n5 := lv_neT hk13 (by decide : (39 : Int32).toInt = 39)
                    have n6 := lv_neT hk14 (by decide : (40 : Int32).toInt = 40)
                    have n7 := lv_neT hk15 (by decide : (41 : Int32).toInt = 41)
                    refine lv_tableOut hx hb d_Co_fits_31 (tgt := 158) (by omega) (by decide) ?_
                    refine lv_iconst (v := 1) hx hb d_Co_fits_158 (by decide) ?_
                    exact kr (1) S4 _ _ _ _ rfl hw hP hD hS d_Co_fits_159
  refine lv_aload_n hx hb d_Co_fits_0 rfl (lv_at hl 0 rfl) ?_
  refine va_get (D := g.1) (ci := 10) (v := .int ((S.1 13))) (C := R_Co) (T := F_Co) (N := 4) hx hb hts hin_Co hown hK hP 17 rfl rfl 3 (by decide) (hts _ k_C_125) (fun _ h9 => h9) rfl d_Co_fits_1 ?_
  refine lv_if_ne hx hb d_Co_fits_4 (tgt := 11) (by decide) (fun hc => ?_) (fun hc => ?_)
  · have hw := hw.2 hc
    refine lv_aload_n hx hb d_Co_fits_11 rfl (lv_at hl 0 rfl) ?_
    refine va_get (D := g.1) (ci := 10) (v := .ref (g.2.2 18)) (C := R_Co) (T := F_Co) (N := 4) hx hb hts hin_Co hown hK hP 17 rfl rfl 1 (by decide) (hts _ k_C_123) (fun _ h9 => h9) rfl d_Co_fits_12 ?_
    refine lv_aload_n hx hb d_Co_fits_15 rfl (lv_at hl 0 rfl) ?_
    refine va_get (D := g.1) (ci := 10) (v := .int ((S.1 13))) (C := R_Co) (T := F_Co) (N := 4) hx hb hts hin_Co hown hK hP 17 rfl rfl 3 (by decide) (hts _ k_C_125) (fun _ h9 => h9) rfl d_Co_fits_16 ?_
    refine lv_iconst (v := 1) hx hb d_Co_fits_19 (by decide) ?_
    refine lv_isub hx hb d_Co_fits_20 ?_
    obtain ⟨hi, hw⟩ := hw
    refine va_aldq (f := (S.2.2.2.2.1 2)) hx hb hK hP 18 5 rfl rfl hi d_Co_fits_21 ?_
    exact J22 S (a0) (((S.2.2.2.2.1 2) (Int32.toNatClampNeg (((S.1 13) - 1))))) _ _ _ hw (lv_sub hl [1] rfl) hP hD hS
  · have hw := hw.1 hc
    refine lv_null hx hb d_Co_fits_7 ?_
    refine lv_goto hx hb d_Co_fits_8 (tgt := 22) (by decide) ?_
    exact J22 S (a0) (none) _ _ _ hw (lv_sub hl [1] rfl) hP hD hS
theorem d_Co_opensOne_0 : decode b_Co_opensOne 0 = .ok (.aload_n 0, 1) := by decide +kernel
theorem d_Co_opensOne_1 : decode b_Co_opensOne 1 = .ok (.getstatic 61, 3) := by decide +kernel
theorem d_Co_opensOne_4 : decode b_Co_opensOne 4 = .ok (.if_acmp .eq 24, 3) := by decide +kernel
theorem d_Co_opensOne_7 : decode b_Co_opensOne 7 = .ok (.aload_n 0, 1) := by decide +kernel
theorem d_Co_opensOne_8 : decode b_Co_opensOne 8 = .ok (.getstatic 68, 3) := by decide +kernel
theorem d_Co_opensOne_11 : decode b_Co_opensOne 11 = .ok (.if_acmp .eq 17, 3) := by decide +kernel
theorem d_Co_opensOne_14 : decode b_Co_opensOne 14 = .ok (.aload_n 0, 1) := by decide +kernel
theorem d_Co_opensOne_15 : decode b_Co_opensOne 15 = .ok (.getstatic 71, 3) := by decide +kernel
theorem d_Co_opensOne_18 : decode b_Co_opensOne 18 = .ok (.if_acmp .eq 10, 3) := by decide +kernel
theorem d_Co_opensOne_21 : decode b_Co_opensOne 21 = .ok (.aload_n 0, 1) := by decide +kernel
theorem d_Co_opensOne_22 : decode b_Co_opensOne 22 = .ok (.getstatic 74, 3) := by decide +kernel
theorem d_Co_opensOne_25 : decode b_Co_opensOne 25 = .ok (.if_acmp .ne 7, 3) := by decide +kernel
theorem d_Co_opensOne_28 : decode b_Co_opensOne 28 = .ok (.iconst 1, 1) := by decide +kernel
theorem d_Co_opensOne_29 : decode b_Co_opensOne 29 = .ok (.goto 4, 3) := by decide +kernel
theorem d_Co_opensOne_32 : decode b_Co_opensOne 32 = .ok (.iconst 0, 1) := by decide +kernel
theorem d_Co_opensOne_33 : decode b_Co_opensOne 33 = .ok (.ireturn, 1) := by decide +kernel
def wq_Co_opensOne_33 (g : Gm) (post : Int32 → StC → Prop)  (S : StC) (t0 : Int32) : Prop :=
  (narrow .boolean (.int (t0)) = .int (t0)) ∧ (post (t0) S)
def wq_Co_opensOne_28 (g : Gm) (post : Int32 → StC → Prop)  (S : StC)  : Prop :=
  wq_Co_opensOne_33 g post  S (1)
def wp_Co_opensOne (g : Gm) (post : Int32 → StC → Prop) (S : StC) (a0 : Nat) : Prop :=
  (((some (a0)) = (some ((g.2.2 141)))) → wq_Co_opensOne_28 g post  S ) ∧ (¬ ((some (a0)) = (some ((g.2.2 141)))) → (((some (a0)) = (some ((g.2.2 144)))) → wq_Co_opensOne_28 g post  S ) ∧ (¬ ((some (a0)) = (some ((g.2.2 144)))) → (((some (a0)) = (some ((g.2.2 147)))) → wq_Co_opensOne_28 g post  S ) ∧ (¬ ((some (a0)) = (some ((g.2.2 147)))) → (((some (a0)) = (some ((g.2.2 149)))) → wq_Co_opensOne_28 g post  S ) ∧ (¬ ((some (a0)) = (some ((g.2.2 149)))) → wq_Co_opensOne_33 g post  S (0)))))
set_option maxRecDepth 100000 in
set_option maxHeartbeats 4000000 in
theorem c_Co_opensOne (l : Launch) (g : Gm) (sz : Nat) (S : StC) (a0 : Nat) (post : Int32 → StC → Prop) (hw : wp_Co_opensOne g post S a0) : Met l y_Co_opensOne (.code y_Co_opensOne b_Co_opensOne 1 (some .boolean) :: w_C) (rmM 0 0) (va_Pc [.ref (a0)] (PC g sz S)) (va_Qi post (BC g (AC g sz S)) (AC g sz S)) 0 0 (AC g sz S) := by
  refine ofC_z (by decide) (Nat.le_of_ble_eq_true rfl) (fun p e s m args below meth c Q A H locs ls hx hb hml hts hown hK hA hC hN kr hl hP hD hS => ?_)
  have hl : lv_has ls 1 [(0, .ref (a0))] := hl
  unfold wp_Co_opensOne at hw
  have J33 : ∀ (S : StC) (t0 : Int32) (H : Heap) (locs : List Loc) (ls : Array Slot), wq_Co_opensOne_33 g post  S t0 → lv_has ls 1 [] → va_P g.1 classes (wC g S) H → va_D A (wC g S) → va_S A s.heap H locs → W p l e (rmM 0 0) s m args below meth c H locs 0 0 Q (F0 m 33 ls [.int (t0)]) := by
    intro S t0 H locs ls hw hl hP hD hS
    unfold wq_Co_opensOne_33 at hw
    obtain ⟨hnz, hw⟩ := hw
    exact kr (t0) S _ _ _ _ hnz hw hP hD hS d_Co_opensOne_33
  have J28 : ∀ (S : StC)  (H : Heap) (locs : List Loc) (ls : Array Slot), wq_Co_opensOne_28 g post  S  → lv_has ls 1 [] → va_P g.1 classes (wC g S) H → va_D A (wC g S) → va_S A s.heap H locs → W p l e (rmM 0 0) s m args below meth c H locs 0 0 Q (F0 m 28 ls []) := by
    intro S  H locs ls hw hl hP hD hS
    unfold wq_Co_opensOne_28 at hw
    refine lv_iconst (v := 1) hx hb d_Co_opensOne_28 (by decide) ?_
    refine lv_goto hx hb d_Co_opensOne_29 (tgt := 33) (by decide) ?_
    exact J33 S (1) _ _ _ hw (lv_sub hl [] rfl) hP hD hS
  refine lv_aload_n hx hb d_Co_opensOne_0 rfl (lv_at hl 0 rfl) ?_
  refine va_gets (C := "WordSmith$BuiltIn") (n := "IF") (d := "LWordSmith$BuiltIn;") (v := .ref ((g.2.2 141))) hx hb (hC.1.1.1 41 (by decide)).1 hS hown (hts _ k_C_540) (fun _ h9 => h9) d_Co_opensOne_1 ?_
  refine lv_acmp_eq (rx := (some (a0))) (ry := (some ((g.2.2 141)))) hx hb d_Co_opensOne_4 (tgt := 28) (by decide) (fun hc => ?_) (fun hc => ?_)
  · have hw := hw.1 hc
    exact J28 S  _ _ _ hw (lv_sub hl [] rfl) hP hD hS
  · have hw := hw.2 hc
    refine lv_aload_n hx hb d_Co_opensOne_7 rfl (lv_at hl 0 rfl) ?_
    refine va_gets (C := "WordSmith$BuiltIn") (n := "BEGIN") (d := "LWordSmith$BuiltIn;") (v := .ref ((g.2.2 144))) hx hb (hC.1.1.1 44 (by decide)).1 hS hown (hts _ k_C_542) (fun _ h9 => h9) d_Co_opensOne_8 ?_
    refine lv_acmp_eq (rx := (some (a0))) (ry := (some ((g.2.2 144)))) hx hb d_Co_opensOne_11 (tgt := 28) (by decide) (fun hc => ?_) (fun hc => ?_)
    · have hw := hw.1 hc
      exact J28 S  _ _ _ hw (lv_sub hl [] rfl) hP hD hS
    · have hw := hw.2 hc
      refine lv_aload_n hx hb d_Co_opensOne_14 rfl (lv_at hl 0 rfl) ?_
      refine va_gets (C := "WordSmith$BuiltIn") (n := "WHILE") (d := "LWordSmith$BuiltIn;") (v := .ref ((g.2.2 147))) hx hb (hC.1.1.1 47 (by decide)).1 hS hown (hts _ k_C_543) (fun _ h9 => h9) d_Co_opensOne_15 ?_
      refine lv_acmp_eq (rx := (some (a0))) (ry := (some ((g.2.2 147)))) hx hb d_Co_opensOne_18 (tgt := 28) (by decide) (fun hc => ?_) (fun hc => ?_)
      · have hw := hw.1 hc
        exact J28 S  _ _ _ hw (lv_sub hl [] rfl) hP hD hS
      · have hw := hw.2 hc
        refine lv_aload_n hx hb d_Co_opensOne_21 rfl (lv_at hl 0 rfl) ?_
        refine va_gets (C := "WordSmith$BuiltIn") (n := "DO") (d := "LWordSmith$BuiltIn;") (v := .ref ((g.2.2 149))) hx hb (hC.1.1.1 49 (by decide)).1 hS hown (hts _ k_C_544) (fun _ h9 => h9) d_Co_opensOne_22 ?_
        refine lv_acmp_ne (rx := (some (a0))) (ry := (some ((g.2.2 149)))) hx hb d_Co_opensOne_25 (tgt := 32) (by decide) (fun hc => ?_) (fun hc => ?_)
        · have hw := hw.2 hc
          refine lv_iconst (v := 0) hx hb d_Co_opensOne_32 (by decide) ?_
          exact J33 S (0) _ _ _ hw (lv_sub hl [] rfl) hP hD hS
        · have hw := hw.1 hc
          exact J28 S  _ _ _ hw (lv_sub hl [] rfl) hP hD hS
theorem d_Co_isItem_0 : decode b_Co_isItem 0 = .ok (.aload_n 0, 1) := by decide +kernel
theorem d_Co_isItem_1 : decode b_Co_isItem 1 = .ok (.getstatic 77, 3) := by decide +kernel
theorem d_Co_isItem_4 : decode b_Co_isItem 4 = .ok (.if_acmp .eq 21, 3) := by decide +kernel
theorem d_Co_isItem_7 : decode b_Co_isItem 7 = .ok (.aload_n 0, 1) := by decide +kernel
theorem d_Co_isItem_8 : decode b_Co_isItem 8 = .ok (.getstatic 68, 3) := by decide +kernel
theorem d_Co_isItem_11 : decode b_Co_isItem 11 = .ok (.if_acmp .eq 14, 3) := by decide +kernel
theorem d_Co_isItem_14 : decode b_Co_isItem 14 = .ok (.aload_n 0, 1) := by decide +kernel
theorem d_Co_isItem_15 : decode b_Co_isItem 15 = .ok (.getstatic 80, 3) := by decide +kernel
theorem d_Co_isItem_18 : decode b_Co_isItem 18 = .ok (.if_acmp .eq 7, 3) := by decide +kernel
theorem d_Co_isItem_21 : decode b_Co_isItem 21 = .ok (.iconst 1, 1) := by decide +kernel
theorem d_Co_isItem_22 : decode b_Co_isItem 22 = .ok (.goto 4, 3) := by decide +kernel
theorem d_Co_isItem_25 : decode b_Co_isItem 25 = .ok (.iconst 0, 1) := by decide +kernel
theorem d_Co_isItem_26 : decode b_Co_isItem 26 = .ok (.ireturn, 1) := by decide +kernel
def wq_Co_isItem_26 (g : Gm) (post : Int32 → StC → Prop)  (S : StC) (t0 : Int32) : Prop :=
  (narrow .boolean (.int (t0)) = .int (t0)) ∧ (post (t0) S)
def wq_Co_isItem_25 (g : Gm) (post : Int32 → StC → Prop)  (S : StC)  : Prop :=
  wq_Co_isItem_26 g post  S (0)
def wp_Co_isItem (g : Gm) (post : Int32 → StC → Prop) (S : StC) (a0 : Nat) : Prop :=
  (((some (a0)) = (some ((g.2.2 142)))) → wq_Co_isItem_25 g post  S ) ∧ (¬ ((some (a0)) = (some ((g.2.2 142)))) → (((some (a0)) = (some ((g.2.2 144)))) → wq_Co_isItem_25 g post  S ) ∧ (¬ ((some (a0)) = (some ((g.2.2 144)))) → (((some (a0)) = (some ((g.2.2 140)))) → wq_Co_isItem_25 g post  S ) ∧ (¬ ((some (a0)) = (some ((g.2.2 140)))) → wq_Co_isItem_26 g post  S (1))))
set_option maxRecDepth 100000 in
set_option maxHeartbeats 4000000 in
theorem c_Co_isItem (l : Launch) (g : Gm) (sz : Nat) (S : StC) (a0 : Nat) (post : Int32 → StC → Prop) (hw : wp_Co_isItem g post S a0) : Met l y_Co_isItem (.code y_Co_isItem b_Co_isItem 1 (some .boolean) :: w_C) (rmM 0 0) (va_Pc [.ref (a0)] (PC g sz S)) (va_Qi post (BC g (AC g sz S)) (AC g sz S)) 0 0 (AC g sz S) := by
  refine ofC_z (by decide) (Nat.le_of_ble_eq_true rfl) (fun p e s m args below meth c Q A H locs ls hx hb hml hts hown hK hA hC hN kr hl hP hD hS => ?_)
  have hl : lv_has ls 1 [(0, .ref (a0))] := hl
  unfold wp_Co_isItem at hw
  have J26 : ∀ (S : StC) (t0 : Int32) (H : Heap) (locs : List Loc) (ls : Array Slot), wq_Co_isItem_26 g post  S t0 → lv_has ls 1 [] → va_P g.1 classes (wC g S) H → va_D A (wC g S) → va_S A s.heap H locs → W p l e (rmM 0 0) s m args below meth c H locs 0 0 Q (F0 m 26 ls [.int (t0)]) := by
    intro S t0 H locs ls hw hl hP hD hS
    unfold wq_Co_isItem_26 at hw
    obtain ⟨hnz, hw⟩ := hw
    exact kr (t0) S _ _ _ _ hnz hw hP hD hS d_Co_isItem_26
  have J25 : ∀ (S : StC)  (H : Heap) (locs : List Loc) (ls : Array Slot), wq_Co_isItem_25 g post  S  → lv_has ls 1 [] → va_P g.1 classes (wC g S) H → va_D A (wC g S) → va_S A s.heap H locs → W p l e (rmM 0 0) s m args below meth c H locs 0 0 Q (F0 m 25 ls []) := by
    intro S  H locs ls hw hl hP hD hS
    unfold wq_Co_isItem_25 at hw
    refine lv_iconst (v := 0) hx hb d_Co_isItem_25 (by decide) ?_
    exact J26 S (0) _ _ _ hw (lv_sub hl [] rfl) hP hD hS
  refine lv_aload_n hx hb d_Co_isItem_0 rfl (lv_at hl 0 rfl) ?_
  refine va_gets (C := "WordSmith$BuiltIn") (n := "THEN") (d := "LWordSmith$BuiltIn;") (v := .ref ((g.2.2 142))) hx hb (hC.1.1.1 42 (by decide)).1 hS hown (hts _ k_C_551) (fun _ h9 => h9) d_Co_isItem_1 ?_
  refine lv_acmp_eq (rx := (some (a0))) (ry := (some ((g.2.2 142)))) hx hb d_Co_isItem_4 (tgt := 25) (by decide) (fun hc => ?_) (fun hc => ?_)
  · have hw := hw.1 hc
    exact J25 S  _ _ _ hw (lv_sub hl [] rfl) hP hD hS
  · have hw := hw.2 hc
    refine lv_aload_n hx hb d_Co_isItem_7 rfl (lv_at hl 0 rfl) ?_
    refine va_gets (C := "WordSmith$BuiltIn") (n := "BEGIN") (d := "LWordSmith$BuiltIn;") (v := .ref ((g.2.2 144))) hx hb (hC.1.1.1 44 (by decide)).1 hS hown (hts _ k_C_542) (fun _ h9 => h9) d_Co_isItem_8 ?_
    refine lv_acmp_eq (rx := (some (a0))) (ry := (some ((g.2.2 144)))) hx hb d_Co_isItem_11 (tgt := 25) (by decide) (fun hc => ?_) (fun hc => ?_)
    · have hw := hw.1 hc
      exact J25 S  _ _ _ hw (lv_sub hl [] rfl) hP hD hS
    · have hw := hw.2 hc
      refine lv_aload_n hx hb d_Co_isItem_14 rfl (lv_at hl 0 rfl) ?_
      refine va_gets (C := "WordSmith$BuiltIn") (n := "SEMICOLON") (d := "LWordSmith$BuiltIn;") (v := .ref ((g.2.2 140))) hx hb (hC.1.1.1 40 (by decide)).1 hS hown (hts _ k_C_552) (fun _ h9 => h9) d_Co_isItem_15 ?_
      refine lv_acmp_eq (rx := (some (a0))) (ry := (some ((g.2.2 140)))) hx hb d_Co_isItem_18 (tgt := 25) (by decide) (fun hc => ?_) (fun hc => ?_)
      · have hw := hw.1 hc
        exact J25 S  _ _ _ hw (lv_sub hl [] rfl) hP hD hS
      · have hw := hw.2 hc
        refine lv_iconst (v := 1) hx hb d_Co_isItem_21 (by decide) ?_
        refine lv_goto hx hb d_Co_isItem_22 (tgt := 26) (by decide) ?_
        exact J26 S (1) _ _ _ hw (lv_sub hl [] rfl) hP hD hS
theorem qC_10 {R : Room} {s : State} {args : Array Value} (hts : ∀ w ∈ w_C, w.before args s = true) (hR : (rmM 0 0).frames + 1 ≤ R.frames ∧ 8 + (1 + 11) + (rmM 0 0).locals ≤ R.locals) : CallB R s args "WordSmith$Compiler" 49 y_Co_isItem b_Co_isItem 1 (some .boolean) (.code y_Co_isItem b_Co_isItem 1 (some .boolean) :: w_C) (rmM 0 0) 0 0 1 ∧ (Cond.static y_Co_isItem).before args s = true := ⟨callB_of 1 hts (good_C k_C_550) rfl rfl rfl (hts _ k_C_11) (hts _ k_C_548) ⟨by decide +kernel, by decide +kernel, by decide +kernel⟩ hR, hts _ k_C_549⟩
theorem qC_11 {R : Room} {s : State} {args : Array Value} (hts : ∀ w ∈ w_C, w.before args s = true) (hR : (rmM 1 20).frames + 1 ≤ R.frames ∧ 8 + (3 + 11) + (rmM 1 20).locals ≤ R.locals) : CallW R s args "WordSmith$Compiler" R_Co 42 y_Co_fits b_Co_fits 3 (some .boolean) (.code y_Co_fits b_Co_fits 3 (some .boolean) :: w_C) (rmM 1 20) 0 0 1 := ⟨callB_of 1 hts (good_C k_C_537) rfl rfl rfl (hts _ k_C_11) (hts _ k_C_535) ⟨by decide +kernel, by decide +kernel, by decide +kernel⟩ hR, hts _ k_C_536, hts _ k_C_790⟩
theorem qC_12 {R : Room} {s : State} {args : Array Value} (hts : ∀ w ∈ w_C, w.before args s = true) (hR : (rmM 0 0).frames + 1 ≤ R.frames ∧ 8 + (1 + 11) + (rmM 0 0).locals ≤ R.locals) : CallB R s args "WordSmith$Compiler" 46 y_Co_opensOne b_Co_opensOne 1 (some .boolean) (.code y_Co_opensOne b_Co_opensOne 1 (some .boolean) :: w_C) (rmM 0 0) 0 0 1 ∧ (Cond.static y_Co_opensOne).before args s = true := ⟨callB_of 1 hts (good_C k_C_547) rfl rfl rfl (hts _ k_C_11) (hts _ k_C_545) ⟨by decide +kernel, by decide +kernel, by decide +kernel⟩ hR, hts _ k_C_546⟩
theorem d_Co_lack_0 : decode b_Co_lack 0 = .ok (.aload_n 0, 1) := by decide +kernel
theorem d_Co_lack_1 : decode b_Co_lack 1 = .ok (.getfield 21, 3) := by decide +kernel
theorem d_Co_lack_4 : decode b_Co_lack 4 = .ok (.ifnull 11, 3) := by decide +kernel
theorem d_Co_lack_7 : decode b_Co_lack 7 = .ok (.aload_n 0, 1) := by decide +kernel
theorem d_Co_lack_8 : decode b_Co_lack 8 = .ok (.aload_n 1, 1) := by decide +kernel
theorem d_Co_lack_9 : decode b_Co_lack 9 = .ok (.invokevirtual 42, 3) := by decide +kernel
theorem d_Co_lack_12 : decode b_Co_lack 12 = .ok (.ifCond .ne 6, 3) := by decide +kernel
theorem d_Co_lack_15 : decode b_Co_lack 15 = .ok (.bipush 6, 2) := by decide +kernel
theorem d_Co_lack_17 : decode b_Co_lack 17 = .ok (.ireturn, 1) := by decide +kernel
theorem d_Co_lack_18 : decode b_Co_lack 18 = .ok (.aload_n 1, 1) := by decide +kernel
theorem d_Co_lack_19 : decode b_Co_lack 19 = .ok (.invokestatic 46, 3) := by decide +kernel
theorem d_Co_lack_22 : decode b_Co_lack 22 = .ok (.ifCond .eq 14, 3) := by decide +kernel
theorem d_Co_lack_25 : decode b_Co_lack 25 = .ok (.aload_n 0, 1) := by decide +kernel
theorem d_Co_lack_26 : decode b_Co_lack 26 = .ok (.getfield 30, 3) := by decide +kernel
theorem d_Co_lack_29 : decode b_Co_lack 29 = .ok (.bipush 8, 2) := by decide +kernel
theorem d_Co_lack_31 : decode b_Co_lack 31 = .ok (.if_icmp .lt 5, 3) := by decide +kernel
theorem d_Co_lack_34 : decode b_Co_lack 34 = .ok (.iconst 3, 1) := by decide +kernel
theorem d_Co_lack_35 : decode b_Co_lack 35 = .ok (.ireturn, 1) := by decide +kernel
theorem d_Co_lack_36 : decode b_Co_lack 36 = .ok (.aload_n 1, 1) := by decide +kernel
theorem d_Co_lack_37 : decode b_Co_lack 37 = .ok (.invokestatic 49, 3) := by decide +kernel
theorem d_Co_lack_40 : decode b_Co_lack 40 = .ok (.ifCond .eq 17, 3) := by decide +kernel
theorem d_Co_lack_43 : decode b_Co_lack 43 = .ok (.aload_n 0, 1) := by decide +kernel
theorem d_Co_lack_44 : decode b_Co_lack 44 = .ok (.getfield 21, 3) := by decide +kernel
theorem d_Co_lack_47 : decode b_Co_lack 47 = .ok (.invokevirtual 34, 3) := by decide +kernel
theorem d_Co_lack_50 : decode b_Co_lack 50 = .ok (.ifCond .eq 7, 3) := by decide +kernel
theorem d_Co_lack_53 : decode b_Co_lack 53 = .ok (.iconst 3, 1) := by decide +kernel
theorem d_Co_lack_54 : decode b_Co_lack 54 = .ok (.goto 4, 3) := by decide +kernel
theorem d_Co_lack_57 : decode b_Co_lack 57 = .ok (.iconst 0, 1) := by decide +kernel
theorem d_Co_lack_58 : decode b_Co_lack 58 = .ok (.ireturn, 1) := by decide +kernel
def wq_Co_lack_58 (g : Gm) (post : Int32 → StC → Prop)  (S : StC) (t0 : Int32) : Prop :=
  post (t0) S
def wq_Co_lack_57 (g : Gm) (post : Int32 → StC → Prop)  (S : StC)  : Prop :=
  wq_Co_lack_58 g post  S (0)
def wq_Co_lack_36 (g : Gm) (post : Int32 → StC → Prop)  (S : StC) (x1 : Nat) : Prop :=
  wp_Co_isItem g (fun (r2 : Int32) (S1 : StC) => (((r2 = 0) → wq_Co_lack_57 g post  S1 ) ∧ (¬ (r2 = 0) → ∃ (y3 : Nat), ((S1.2.2.2.1 0) = some y3) ∧ (∃ (vs5 : List Value), (y3 ∈ S1.2.2.2.2.2.1) ∧ (S1.2.2.2.2.2.2 y3 = .inr (11, vs5)) ∧ (wp_Mw_isFull g (fun (r9 : Int32) (S8 : StC) => (((r9 = 0) → wq_Co_lack_57 g post  S8 ) ∧ (¬ (r9 = 0) → wq_Co_lack_58 g post  S8 (3)))) S1 (y3)))))) S (x1)
def wq_Co_lack_15 (g : Gm) (post : Int32 → StC → Prop)  (S : StC)  : Prop :=
  post (6) S
def wp_Co_lack (g : Gm) (post : Int32 → StC → Prop) (S : StC) (a0 : Nat) : Prop :=
  (((S.2.2.2.1 0)) = none → wq_Co_lack_15 g post  S ) ∧ (∀ y10 : Nat, ((S.2.2.2.1 0)) = some y10 → wp_Co_fits g (fun (r13 : Int32) (S12 : StC) => (((r13 = 0) → wq_Co_lack_15 g post  S12 ) ∧ (¬ (r13 = 0) → wp_Co_opensOne g (fun (r15 : Int32) (S14 : StC) => (((r15 = 0) → wq_Co_lack_36 g post  S14 (a0)) ∧ (¬ (r15 = 0) → (((S14.1 13) < 8) → wq_Co_lack_36 g post  S14 (a0)) ∧ (¬ ((S14.1 13) < 8) → post (3) S14)))) S12 (a0)))) S (a0))
set_option maxRecDepth 100000 in
set_option maxHeartbeats 4000000 in
theorem c_Co_lack (l : Launch) (g : Gm) (sz : Nat) (S : StC) (a0 : Nat) (post : Int32 → StC → Prop) (hw : wp_Co_lack g post S a0) : Met l y_Co_lack (.code y_Co_lack b_Co_lack 2 (some .int) :: w_C) (rmM 2 42) (va_Pc [.ref (g.2.2 17), .ref (a0)] (PC g sz S)) (va_Qi post (BC g (AC g sz S)) (AC g sz S)) 0 0 (AC g sz S) := by
  refine ofC_i (by decide) (Nat.le_of_ble_eq_true rfl) (fun p e s m args below meth c Q A H locs ls hx hb hml hts hown hK hA hC hN kr hl hP hD hS => ?_)
  have hl : lv_has ls 2 [(0, .ref (g.2.2 17)), (1, .ref (a0))] := hl
  unfold wp_Co_lack at hw
  have J58 : ∀ (S : StC) (t0 : Int32) (H : Heap) (locs : List Loc) (ls : Array Slot), wq_Co_lack_58 g post  S t0 → lv_has ls 2 [] → va_P g.1 classes (wC g S) H → va_D A (wC g S) → va_S A s.heap H locs → W p l e (rmM 2 42) s m args below meth c H locs 0 0 Q (F0 m 58 ls [.int (t0)]) := by
    intro S t0 H locs ls hw hl hP hD hS
    unfold wq_Co_lack_58 at hw
    exact kr (t0) S _ _ _ _ hw hP hD hS d_Co_lack_58
  have J57 : ∀ (S : StC)  (H : Heap) (locs : List Loc) (ls : Array Slot), wq_Co_lack_57 g post  S  → lv_has ls 2 [] → va_P g.1 classes (wC g S) H → va_D A (wC g S) → va_S A s.heap H locs → W p l e (rmM 2 42) s m args below meth c H locs 0 0 Q (F0 m 57 ls []) := by
    intro S  H locs ls hw hl hP hD hS
    unfold wq_Co_lack_57 at hw
    refine lv_iconst (v := 0) hx hb d_Co_lack_57 (by decide) ?_
    exact J58 S (0) _ _ _ hw (lv_sub hl [] rfl) hP hD hS
  have J36 : ∀ (S : StC) (x1 : Nat) (H : Heap) (locs : List Loc) (ls : Array Slot), wq_Co_lack_36 g post  S x1 → lv_has ls 2 [(0, .ref (g.2.2 17)), (1, .ref (x1))] → va_P g.1 classes (wC g S) H → va_D A (wC g S) → va_S A s.heap H locs → W p l e (rmM 2 42) s m args below meth c H locs 0 0 Q (F0 m 36 ls []) := by
    intro S x1 H locs ls hw hl hP hD hS
    unfold wq_Co_lack_36 at hw
    refine lv_aload_n hx hb d_Co_lack_36 rfl (lv_at hl 1 rfl) ?_
    refine cC_iS (As := [.ref (x1)]) (rest := []) hx hb hml hown hts hK hC hN hP hD hS hA (Nat.zero_le _) (Nat.zero_le _) hl.1  (qC_10 hts ⟨Nat.le_of_ble_eq_true rfl, Nat.le_of_ble_eq_true rfl⟩) (c_Co_isItem l g H.size _ (x1) _ hw) rfl rfl (Nat.le_of_ble_eq_true rfl) d_Co_lack_37 (fun r2 S1 H locs hw hP hD hS => ?_)
    refine lv_if_eq hx hb d_Co_lack_40 (tgt := 57) (by decide) (fun hc => ?_) (fun hc => ?_)
    · have hw := hw.1 hc
      exact J57 S1  _ _ _ hw (lv_sub hl [] rfl) hP hD hS
    · have hw := hw.2 hc
      refine lv_aload_n hx hb d_Co_lack_43 rfl (lv_at hl 0 rfl) ?_
      refine va_get (D := g.1) (ci := 10) (v := va_rf ((S1.2.2.2.1 0))) (C := R_Co) (T := F_Co) (N := 4) hx hb hts hin_Co hown hK hP 17 rfl rfl 0 (by decide) (hts _ k_C_122) (fun _ h9 => h9) rfl d_Co_lack_44 ?_
      obtain ⟨y3, hy4, hw⟩ := hw
      refine W_rf hy4 ?_
      obtain ⟨vs5, ha6, hf7, hw⟩ := hw
      refine cC_iV (As := []) (rest := []) hx hb hml hown hts hK hC hN hP hD hS hA (Nat.zero_le _) (Nat.zero_le _) hl.1 (precv_C (C := R_Mw) (F := F_Mw) (N := 5) hK hP ha6 hf7 rfl) (qC_7 hts ⟨Nat.le_of_ble_eq_true rfl, Nat.le_of_ble_eq_true rfl⟩) (c_Mw_isFull l g H.size _ (y3) _ hw) rfl rfl (Nat.le_of_ble_eq_true rfl) d_Co_lack_47 (fun r9 S8 H locs hw hP hD hS => ?_)
      refine lv_if_eq hx hb d_Co_lack_50 (tgt := 57) (by decide) (fun hc => ?_) (fun hc => ?_)
      · have hw := hw.1 hc
        exact J57 S8  _ _ _ hw (lv_sub hl [] rfl) hP hD hS
      · have hw := hw.2 hc
        refine lv_iconst (v := 3) hx hb d_Co_lack_53 (by decide) ?_
        refine lv_goto hx hb d_Co_lack_54 (tgt := 58) (by decide) ?_
        exact J58 S8 (3) _ _ _ hw (lv_sub hl [] rfl) hP hD hS
  have J15 : ∀ (S : StC)  (H : Heap) (locs : List Loc) (ls : Array Slot), wq_Co_lack_15 g post  S  → lv_has ls 2 [] → va_P g.1 classes (wC g S) H → va_D A (wC g S) → va_S A s.heap H locs → W p l e (rmM 2 42) s m args below meth c H locs 0 0 Q (F0 m 15 ls []) := by
    intro S  H locs ls hw hl hP hD hS
    unfold wq_Co_lack_15 at hw
    refine lv_bipush (v := 6) hx hb d_Co_lack_15 (by decide) ?_
    exact kr (6) S _ _ _ _ hw hP hD hS d_Co_lack_17
  refine lv_aload_n hx hb d_Co_lack_0 rfl (lv_at hl 0 rfl) ?_
  refine va_get (D := g.1) (ci := 10) (v := va_rf ((S.2.2.2.1 0))) (C := R_Co) (T := F_Co) (N := 4) hx hb hts hin_Co hown hK hP 17 rfl rfl 0 (by decide) (hts _ k_C_122) (fun _ h9 => h9) rfl d_Co_lack_1 ?_
  refine lv_ifnullq hx hb d_Co_lack_4 (tgt := 15) (by decide) (fun hq11 => ?_) (fun y10 hq11 => ?_)
  · have hw := hw.1 hq11
    exact J15 S  _ _ _ hw (lv_sub hl [] rfl) hP hD hS
  · have hw := hw.2 y10 hq11
    refine lv_aload_n hx hb d_Co_lack_7 rfl (lv_at hl 0 rfl) ?_
    refine lv_aload_n hx hb d_Co_lack_8 rfl (lv_at hl 1 rfl) ?_
    refine cC_iV (As := [.ref (a0)]) (rest := []) hx hb hml hown hts hK hC hN hP hD hS hA (Nat.zero_le _) (Nat.zero_le _) hl.1 (va_recv (q0 := 17) (ci := 10) (q := (R_Co, F_Co, 4)) hK hP rfl rfl) (qC_11 hts ⟨Nat.le_of_ble_eq_true rfl, Nat.le_of_ble_eq_true rfl⟩) (c_Co_fits l g H.size _ (a0) _ hw) rfl rfl (Nat.le_of_ble_eq_true rfl) d_Co_lack_9 (fun r13 S12 H locs hw hP hD hS => ?_)
    refine lv_if_ne hx hb d_Co_lack_12 (tgt := 18) (by decide) (fun hc => ?_) (fun hc => ?_)
    · have hw := hw.2 hc
      refine lv_aload_n hx hb d_Co_lack_18 rfl (lv_at hl 1 rfl) ?_
      refine cC_iS (As := [.ref (a0)]) (rest := []) hx hb hml hown hts hK hC hN hP hD hS hA (Nat.zero_le _) (Nat.zero_le _) hl.1  (qC_12 hts ⟨Nat.le_of_ble_eq_true rfl, Nat.le_of_ble_eq_true rfl⟩) (c_Co_opensOne l g H.size _ (a0) _ hw) rfl rfl (Nat.le_of_ble_eq_true rfl) d_Co_lack_19 (fun r15 S14 H locs hw hP hD hS => ?_)
      refine lv_if_eq hx hb d_Co_lack_22 (tgt := 36) (by decide) (fun hc => ?_) (fun hc => ?_)
      · have hw := hw.1 hc
        exact J36 S14 (a0) _ _ _ hw (lv_sub hl [0, 1] rfl) hP hD hS
      · have hw := hw.2 hc
        refine lv_aload_n hx hb d_Co_lack_25 rfl (lv_at hl 0 rfl) ?_
        refine va_get (D := g.1) (ci := 10) (v := .int ((S14.1 13))) (C := R_Co) (T := F_Co) (N := 4) hx hb hts hin_Co hown hK hP 17 rfl rfl 3 (by decide) (hts _ k_C_125) (fun _ h9 => h9) rfl d_Co_lack_26 ?_
        refine lv_bipush (v := 8) hx hb d_Co_lack_29 (by decide) ?_
        refine lv_icmp_lt hx hb d_Co_lack_31 (tgt := 36) (by decide) (fun hc => ?_) (fun hc => ?_)
        · have hw := hw.1 hc
          exact J36 S14 (a0) _ _ _ hw (lv_sub hl [0, 1] rfl) hP hD hS
        · have hw := hw.2 hc
          refine lv_iconst (v := 3) hx hb d_Co_lack_34 (by decide) ?_
          exact kr (3) S14 _ _ _ _ hw hP hD hS d_Co_lack_35
    · have hw := hw.1 hc
      exact J15 S12  _ _ _ hw (lv_sub hl [] rfl) hP hD hS
