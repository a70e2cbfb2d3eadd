theorem d_N_isFull_0 : decode b_N_isFull 0 = .ok (.aload_n 0, 1) := by decide +kernel
theorem d_N_isFull_1 : decode b_N_isFull 1 = .ok (.getfield 15, 3) := by decide +kernel
theorem d_N_isFull_4 : decode b_N_isFull 4 = .ok (.bipush 24, 2) := by decide +kernel
theorem d_N_isFull_6 : decode b_N_isFull 6 = .ok (.if_icmp .lt 7, 3) := by decide +kernel
theorem d_N_isFull_9 : decode b_N_isFull 9 = .ok (.iconst 1, 1) := by decide +kernel
theorem d_N_isFull_10 : decode b_N_isFull 10 = .ok (.goto 4, 3) := by decide +kernel
theorem d_N_isFull_13 : decode b_N_isFull 13 = .ok (.iconst 0, 1) := by decide +kernel
theorem d_N_isFull_14 : decode b_N_isFull 14 = .ok (.ireturn, 1) := by decide +kernel
def wq_Nd_isFull_14 (g : Gm) (post : Int32 → StC → Prop)  (S : StC) (t0 : Int32) : Prop :=
  (narrow .boolean (.int (t0)) = .int (t0)) ∧ (post (t0) S)
def wp_Nd_isFull (g : Gm) (post : Int32 → StC → Prop) (S : StC)  : Prop :=
  (((S.1 8) < 24) → wq_Nd_isFull_14 g post  S (0)) ∧ (¬ ((S.1 8) < 24) → wq_Nd_isFull_14 g post  S (1))
set_option maxRecDepth 100000 in
set_option maxHeartbeats 4000000 in
theorem c_Nd_isFull (l : Launch) (g : Gm) (sz : Nat) (S : StC)  (post : Int32 → StC → Prop) (hw : wp_Nd_isFull g post S ) : Met l y_N_isFull (.code y_N_isFull b_N_isFull 1 (some .boolean) :: w_C) (rmM 0 0) (va_Pc [.ref (g.2.2 4)] (PC g sz S)) (va_Qi post (BC g (AC g sz S)) (AC g sz S)) 0 0 (AC g sz S) := by
  refine ofC_z (by decide) (Nat.le_of_ble_eq_true rfl) (fun p e s m args below meth c Q A H locs ls hx hb hml hts hown hK hA hC hN kr hl hP hD hS => ?_)
  have hl : lv_has ls 1 [(0, .ref (g.2.2 4))] := hl
  unfold wp_Nd_isFull at hw
  have J14 : ∀ (S : StC) (t0 : Int32) (H : Heap) (locs : List Loc) (ls : Array Slot), wq_Nd_isFull_14 g post  S t0 → lv_has ls 1 [] → va_P g.1 classes (wC g S) H → va_D A (wC g S) → va_S A s.heap H locs → W p l e (rmM 0 0) s m args below meth c H locs 0 0 Q (F0 m 14 ls [.int (t0)]) := by
    intro S t0 H locs ls hw hl hP hD hS
    unfold wq_Nd_isFull_14 at hw
    obtain ⟨hnz, hw⟩ := hw
    exact kr (t0) S _ _ _ _ hnz hw hP hD hS d_N_isFull_14
  refine lv_aload_n hx hb d_N_isFull_0 rfl (lv_at hl 0 rfl) ?_
  refine va_get (D := g.1) (ci := 6) (v := .int ((S.1 8))) (C := R_N) (T := F_N) (N := 2) hx hb hts hin_N hown hK hP 4 rfl rfl 1 (by decide) (hts _ k_C_69) (fun _ h9 => h9) rfl d_N_isFull_1 ?_
  refine lv_bipush (v := 24) hx hb d_N_isFull_4 (by decide) ?_
  refine lv_icmp_lt hx hb d_N_isFull_6 (tgt := 13) (by decide) (fun hc => ?_) (fun hc => ?_)
  · have hw := hw.1 hc
    refine lv_iconst (v := 0) hx hb d_N_isFull_13 (by decide) ?_
    exact J14 S (0) _ _ _ hw (lv_sub hl [] rfl) hP hD hS
  · have hw := hw.2 hc
    refine lv_iconst (v := 1) hx hb d_N_isFull_9 (by decide) ?_
    refine lv_goto hx hb d_N_isFull_10 (tgt := 14) (by decide) ?_
    exact J14 S (1) _ _ _ hw (lv_sub hl [] rfl) hP hD hS
def wq_Nr_isFull_14 (g : Gm) (post : Int32 → StC → Prop)  (S : StC) (t0 : Int32) : Prop :=
  (narrow .boolean (.int (t0)) = .int (t0)) ∧ (post (t0) S)
def wp_Nr_isFull (g : Gm) (post : Int32 → StC → Prop) (S : StC)  : Prop :=
  (((S.1 9) < 24) → wq_Nr_isFull_14 g post  S (0)) ∧ (¬ ((S.1 9) < 24) → wq_Nr_isFull_14 g post  S (1))
set_option maxRecDepth 100000 in
set_option maxHeartbeats 4000000 in
theorem c_Nr_isFull (l : Launch) (g : Gm) (sz : Nat) (S : StC)  (post : Int32 → StC → Prop) (hw : wp_Nr_isFull g post S ) : Met l y_N_isFull (.code y_N_isFull b_N_isFull 1 (some .boolean) :: w_C) (rmM 0 0) (va_Pc [.ref (g.2.2 6)] (PC g sz S)) (va_Qi post (BC g (AC g sz S)) (AC g sz S)) 0 0 (AC g sz S) := by
  refine ofC_z (by decide) (Nat.le_of_ble_eq_true rfl) (fun p e s m args below meth c Q A H locs ls hx hb hml hts hown hK hA hC hN kr hl hP hD hS => ?_)
  have hl : lv_has ls 1 [(0, .ref (g.2.2 6))] := hl
  unfold wp_Nr_isFull at hw
  have J14 : ∀ (S : StC) (t0 : Int32) (H : Heap) (locs : List Loc) (ls : Array Slot), wq_Nr_isFull_14 g post  S t0 → lv_has ls 1 [] → va_P g.1 classes (wC g S) H → va_D A (wC g S) → va_S A s.heap H locs → W p l e (rmM 0 0) s m args below meth c H locs 0 0 Q (F0 m 14 ls [.int (t0)]) := by
    intro S t0 H locs ls hw hl hP hD hS
    unfold wq_Nr_isFull_14 at hw
    obtain ⟨hnz, hw⟩ := hw
    exact kr (t0) S _ _ _ _ hnz hw hP hD hS d_N_isFull_14
  refine lv_aload_n hx hb d_N_isFull_0 rfl (lv_at hl 0 rfl) ?_
  refine va_get (D := g.1) (ci := 6) (v := .int ((S.1 9))) (C := R_N) (T := F_N) (N := 2) hx hb hts hin_N hown hK hP 6 rfl rfl 1 (by decide) (hts _ k_C_69) (fun _ h9 => h9) rfl d_N_isFull_1 ?_
  refine lv_bipush (v := 24) hx hb d_N_isFull_4 (by decide) ?_
  refine lv_icmp_lt hx hb d_N_isFull_6 (tgt := 13) (by decide) (fun hc => ?_) (fun hc => ?_)
  · have hw := hw.1 hc
    refine lv_iconst (v := 0) hx hb d_N_isFull_13 (by decide) ?_
    exact J14 S (0) _ _ _ hw (lv_sub hl [] rfl) hP hD hS
  · have hw := hw.2 hc
    refine lv_iconst (v := 1) hx hb d_N_isFull_9 (by decide) ?_
    refine lv_goto hx hb d_N_isFull_10 (tgt := 14) (by decide) ?_
    exact J14 S (1) _ _ _ hw (lv_sub hl [] rfl) hP hD hS
theorem d_N_push_0 : decode b_N_push 0 = .ok (.aload_n 0, 1) := by decide +kernel
theorem d_N_push_1 : decode b_N_push 1 = .ok (.getfield 15, 3) := by decide +kernel
theorem d_N_push_4 : decode b_N_push 4 = .ok (.bipush 24, 2) := by decide +kernel
theorem d_N_push_6 : decode b_N_push 6 = .ok (.if_icmp .ge 23, 3) := by decide +kernel
theorem d_N_push_9 : decode b_N_push 9 = .ok (.aload_n 0, 1) := by decide +kernel
theorem d_N_push_10 : decode b_N_push 10 = .ok (.getfield 9, 3) := by decide +kernel
theorem d_N_push_13 : decode b_N_push 13 = .ok (.aload_n 0, 1) := by decide +kernel
theorem d_N_push_14 : decode b_N_push 14 = .ok (.getfield 15, 3) := by decide +kernel
theorem d_N_push_17 : decode b_N_push 17 = .ok (.iload_n 1, 1) := by decide +kernel
theorem d_N_push_18 : decode b_N_push 18 = .ok (.iastore, 1) := by decide +kernel
theorem d_N_push_19 : decode b_N_push 19 = .ok (.aload_n 0, 1) := by decide +kernel
theorem d_N_push_20 : decode b_N_push 20 = .ok (.dup, 1) := by decide +kernel
theorem d_N_push_21 : decode b_N_push 21 = .ok (.getfield 15, 3) := by decide +kernel
theorem d_N_push_24 : decode b_N_push 24 = .ok (.iconst 1, 1) := by decide +kernel
theorem d_N_push_25 : decode b_N_push 25 = .ok (.iadd, 1) := by decide +kernel
theorem d_N_push_26 : decode b_N_push 26 = .ok (.putfield 15, 3) := by decide +kernel
theorem d_N_push_29 : decode b_N_push 29 = .ok (.return_, 1) := by decide +kernel
def wq_Nd_push_29 (g : Gm) (post : StC → Prop)  (S : StC)  : Prop :=
  post S
def wp_Nd_push (g : Gm) (post : StC → Prop) (S : StC) (a0 : Int32) : Prop :=
  ((24 ≤ (S.1 8)) → wq_Nd_push_29 g post  S ) ∧ (¬ (24 ≤ (S.1 8)) → (vp_in (S.1 8) 24) ∧ (wq_Nd_push_29 g post  ((upd S.1 8 (((S.1 8) + 1))), (va_up S.2.1 0 (upd (S.2.1 0) (Int32.toNatClampNeg ((S.1 8))) (a0))), S.2.2) ))
set_option maxRecDepth 100000 in
set_option maxHeartbeats 4000000 in
theorem c_Nd_push (l : Launch) (g : Gm) (sz : Nat) (S : StC) (a0 : Int32) (post : StC → Prop) (hw : wp_Nd_push g post S a0) : Met l y_N_push (.code y_N_push b_N_push 2 none :: w_C) (rmM 0 0) (va_Pc [.ref (g.2.2 4), .int (a0)] (PC g sz S)) (va_Qv post (BC g (AC g sz S)) (AC g sz S)) 0 0 (AC g sz S) := by
  refine ofC_v (by decide) (Nat.le_of_ble_eq_true rfl) (fun p e s m args below meth c Q A H locs ls hx hb hml hts hown hK hA hC hN kr hl hP hD hS => ?_)
  have hl : lv_has ls 2 [(0, .ref (g.2.2 4)), (1, .int (a0))] := hl
  unfold wp_Nd_push at hw
  have J29 : ∀ (S : StC)  (H : Heap) (locs : List Loc) (ls : Array Slot), wq_Nd_push_29 g post  S  → lv_has ls 2 [] → va_P g.1 classes (wC g S) H → va_D A (wC g S) → va_S A s.heap H locs → W p l e (rmM 0 0) s m args below meth c H locs 0 0 Q (F0 m 29 ls []) := by
    intro S  H locs ls hw hl hP hD hS
    unfold wq_Nd_push_29 at hw
    exact kr S _ _ _ _ hw hP hD hS d_N_push_29
  refine lv_aload_n hx hb d_N_push_0 rfl (lv_at hl 0 rfl) ?_
  refine va_get (D := g.1) (ci := 6) (v := .int ((S.1 8))) (C := R_N) (T := F_N) (N := 2) hx hb hts hin_N hown hK hP 4 rfl rfl 1 (by decide) (hts _ k_C_69) (fun _ h9 => h9) rfl d_N_push_1 ?_
  refine lv_bipush (v := 24) hx hb d_N_push_4 (by decide) ?_
  refine lv_icmp_ge hx hb d_N_push_6 (tgt := 29) (by decide) (fun hc => ?_) (fun hc => ?_)
  · have hw := hw.1 hc
    exact J29 S  _ _ _ hw (lv_sub hl [] rfl) hP hD hS
  · have hw := hw.2 hc
    refine lv_aload_n hx hb d_N_push_9 rfl (lv_at hl 0 rfl) ?_
    refine va_get (D := g.1) (ci := 6) (v := .ref (g.2.2 5)) (C := R_N) (T := F_N) (N := 2) hx hb hts hin_N hown hK hP 4 rfl rfl 0 (by decide) (hts _ k_C_68) (fun _ h9 => h9) rfl d_N_push_10 ?_
    refine lv_aload_n hx hb d_N_push_13 rfl (lv_at hl 0 rfl) ?_
    refine va_get (D := g.1) (ci := 6) (v := .int ((S.1 8))) (C := R_N) (T := F_N) (N := 2) hx hb hts hin_N hown hK hP 4 rfl rfl 1 (by decide) (hts _ k_C_69) (fun _ h9 => h9) rfl d_N_push_14 ?_
    refine lv_iload_n hx hb d_N_push_17 rfl (lv_at hl 1 rfl) ?_
    obtain ⟨hi, hw⟩ := hw
    refine ia_C (S2 := (S.1, (va_up S.2.1 0 (upd (S.2.1 0) (Int32.toNatClampNeg ((S.1 8))) (a0))), S.2.2)) (f := (S.2.1 0)) hx hb hK hP hD hS 5 rfl hi d_N_push_18 (sA_C_0 g _ _) (fun H locs hP hD hS => ?_)
    refine lv_aload_n hx hb d_N_push_19 rfl (lv_at hl 0 rfl) ?_
    refine lv_dup hx hb d_N_push_20 rfl ?_
    refine va_get (D := g.1) (ci := 6) (v := .int ((S.1 8))) (C := R_N) (T := F_N) (N := 2) hx hb hts hin_N hown hK hP 4 rfl rfl 1 (by decide) (hts _ k_C_69) (fun _ h9 => h9) rfl d_N_push_21 ?_
    refine lv_iconst (v := 1) hx hb d_N_push_24 (by decide) ?_
    refine lv_iadd hx hb d_N_push_25 ?_
    refine pt_C (S2 := ((upd S.1 8 (((S.1 8) + 1))), (va_up S.2.1 0 (upd (S.2.1 0) (Int32.toNatClampNeg ((S.1 8))) (a0))), S.2.2)) (v := .int (((S.1 8) + 1))) (C := R_N) (F := F_N) (N := 2) (ci := 6) hx hb hts hin_N t_N t_N_ok n_N hown hK hP hD hS 4 rfl rfl 1 (by decide) rfl rfl rfl (Nat.le_of_ble_eq_true rfl) (sI_C_8 g _ _) k_C_69 d_N_push_26 (fun H locs hP hD hS => ?_)
    exact J29 ((upd S.1 8 (((S.1 8) + 1))), (va_up S.2.1 0 (upd (S.2.1 0) (Int32.toNatClampNeg ((S.1 8))) (a0))), S.2.2)  _ _ _ hw (lv_sub hl [] rfl) hP hD hS
def wq_Nr_push_29 (g : Gm) (post : StC → Prop)  (S : StC)  : Prop :=
  post S
def wp_Nr_push (g : Gm) (post : StC → Prop) (S : StC) (a0 : Int32) : Prop :=
  ((24 ≤ (S.1 9)) → wq_Nr_push_29 g post  S ) ∧ (¬ (24 ≤ (S.1 9)) → (vp_in (S.1 9) 24) ∧ (wq_Nr_push_29 g post  ((upd S.1 9 (((S.1 9) + 1))), (va_up S.2.1 1 (upd (S.2.1 1) (Int32.toNatClampNeg ((S.1 9))) (a0))), S.2.2) ))
set_option maxRecDepth 100000 in
set_option maxHeartbeats 4000000 in
theorem c_Nr_push (l : Launch) (g : Gm) (sz : Nat) (S : StC) (a0 : Int32) (post : StC → Prop) (hw : wp_Nr_push g post S a0) : Met l y_N_push (.code y_N_push b_N_push 2 none :: w_C) (rmM 0 0) (va_Pc [.ref (g.2.2 6), .int (a0)] (PC g sz S)) (va_Qv post (BC g (AC g sz S)) (AC g sz S)) 0 0 (AC g sz S) := by
  refine ofC_v (by decide) (Nat.le_of_ble_eq_true rfl) (fun p e s m args below meth c Q A H locs ls hx hb hml hts hown hK hA hC hN kr hl hP hD hS => ?_)
  have hl : lv_has ls 2 [(0, .ref (g.2.2 6)), (1, .int (a0))] := hl
  unfold wp_Nr_push at hw
  have J29 : ∀ (S : StC)  (H : Heap) (locs : List Loc) (ls : Array Slot), wq_Nr_push_29 g post  S  → lv_has ls 2 [] → va_P g.1 classes (wC g S) H → va_D A (wC g S) → va_S A s.heap H locs → W p l e (rmM 0 0) s m args below meth c H locs 0 0 Q (F0 m 29 ls []) := by
    intro S  H locs ls hw hl hP hD hS
    unfold wq_Nr_push_29 at hw
    exact kr S _ _ _ _ hw hP hD hS d_N_push_29
  refine lv_aload_n hx hb d_N_push_0 rfl (lv_at hl 0 rfl) ?_
  refine va_get (D := g.1) (ci := 6) (v := .int ((S.1 9))) (C := R_N) (T := F_N) (N := 2) hx hb hts hin_N hown hK hP 6 rfl rfl 1 (by decide) (hts _ k_C_69) (fun _ h9 => h9) rfl d_N_push_1 ?_
  refine lv_bipush (v := 24) hx hb d_N_push_4 (by decide) ?_
  refine lv_icmp_ge hx hb d_N_push_6 (tgt := 29) (by decide) (fun hc => ?_) (fun hc => ?_)
  · have hw := hw.1 hc
    exact J29 S  _ _ _ hw (lv_sub hl [] rfl) hP hD hS
  · have hw := hw.2 hc
    refine lv_aload_n hx hb d_N_push_9 rfl (lv_at hl 0 rfl) ?_
    refine va_get (D := g.1) (ci := 6) (v := .ref (g.2.2 7)) (C := R_N) (T := F_N) (N := 2) hx hb hts hin_N hown hK hP 6 rfl rfl 0 (by decide) (hts _ k_C_68) (fun _ h9 => h9) rfl d_N_push_10 ?_
    refine lv_aload_n hx hb d_N_push_13 rfl (lv_at hl 0 rfl) ?_
    refine va_get (D := g.1) (ci := 6) (v := .int ((S.1 9))) (C := R_N) (T := F_N) (N := 2) hx hb hts hin_N hown hK hP 6 rfl rfl 1 (by decide) (hts _ k_C_69) (fun _ h9 => h9) rfl d_N_push_14 ?_
    refine lv_iload_n hx hb d_N_push_17 rfl (lv_at hl 1 rfl) ?_
    obtain ⟨hi, hw⟩ := hw
    refine ia_C (S2 := (S.1, (va_up S.2.1 1 (upd (S.2.1 1) (Int32.toNatClampNeg ((S.1 9))) (a0))), S.2.2)) (f := (S.2.1 1)) hx hb hK hP hD hS 7 rfl hi d_N_push_18 (sA_C_1 g _ _) (fun H locs hP hD hS => ?_)
    refine lv_aload_n hx hb d_N_push_19 rfl (lv_at hl 0 rfl) ?_
    refine lv_dup hx hb d_N_push_20 rfl ?_
    refine va_get (D := g.1) (ci := 6) (v := .int ((S.1 9))) (C := R_N) (T := F_N) (N := 2) hx hb hts hin_N hown hK hP 6 rfl rfl 1 (by decide) (hts _ k_C_69) (fun _ h9 => h9) rfl d_N_push_21 ?_
    refine lv_iconst (v := 1) hx hb d_N_push_24 (by decide) ?_
    refine lv_iadd hx hb d_N_push_25 ?_
    refine pt_C (S2 := ((upd S.1 9 (((S.1 9) + 1))), (va_up S.2.1 1 (upd (S.2.1 1) (Int32.toNatClampNeg ((S.1 9))) (a0))), S.2.2)) (v := .int (((S.1 9) + 1))) (C := R_N) (F := F_N) (N := 2) (ci := 6) hx hb hts hin_N t_N t_N_ok n_N hown hK hP hD hS 6 rfl rfl 1 (by decide) rfl rfl rfl (Nat.le_of_ble_eq_true rfl) (sI_C_9 g _ _) k_C_69 d_N_push_26 (fun H locs hP hD hS => ?_)
    exact J29 ((upd S.1 9 (((S.1 9) + 1))), (va_up S.2.1 1 (upd (S.2.1 1) (Int32.toNatClampNeg ((S.1 9))) (a0))), S.2.2)  _ _ _ hw (lv_sub hl [] rfl) hP hD hS
theorem d_N_pop_0 : decode b_N_pop 0 = .ok (.aload_n 0, 1) := by decide +kernel
theorem d_N_pop_1 : decode b_N_pop 1 = .ok (.getfield 15, 3) := by decide +kernel
theorem d_N_pop_4 : decode b_N_pop 4 = .ok (.ifCond .ne 5, 3) := by decide +kernel
theorem d_N_pop_7 : decode b_N_pop 7 = .ok (.iconst 0, 1) := by decide +kernel
theorem d_N_pop_8 : decode b_N_pop 8 = .ok (.ireturn, 1) := by decide +kernel
theorem d_N_pop_9 : decode b_N_pop 9 = .ok (.aload_n 0, 1) := by decide +kernel
theorem d_N_pop_10 : decode b_N_pop 10 = .ok (.dup, 1) := by decide +kernel
theorem d_N_pop_11 : decode b_N_pop 11 = .ok (.getfield 15, 3) := by decide +kernel
theorem d_N_pop_14 : decode b_N_pop 14 = .ok (.iconst 1, 1) := by decide +kernel
theorem d_N_pop_15 : decode b_N_pop 15 = .ok (.isub, 1) := by decide +kernel
theorem d_N_pop_16 : decode b_N_pop 16 = .ok (.putfield 15, 3) := by decide +kernel
theorem d_N_pop_19 : decode b_N_pop 19 = .ok (.aload_n 0, 1) := by decide +kernel
theorem d_N_pop_20 : decode b_N_pop 20 = .ok (.getfield 9, 3) := by decide +kernel
theorem d_N_pop_23 : decode b_N_pop 23 = .ok (.aload_n 0, 1) := by decide +kernel
theorem d_N_pop_24 : decode b_N_pop 24 = .ok (.getfield 15, 3) := by decide +kernel
theorem d_N_pop_27 : decode b_N_pop 27 = .ok (.iaload, 1) := by decide +kernel
theorem d_N_pop_28 : decode b_N_pop 28 = .ok (.ireturn, 1) := by decide +kernel
def wp_Nd_pop (g : Gm) (post : Int32 → StC → Prop) (S : StC)  : Prop :=
  (((S.1 8) = 0) → post (0) S) ∧ (¬ ((S.1 8) = 0) → (vp_in ((S.1 8) - 1) 24) ∧ (post (((S.2.1 0) (Int32.toNatClampNeg (((S.1 8) - 1))))) ((upd S.1 8 (((S.1 8) - 1))), S.2)))
set_option maxRecDepth 100000 in
set_option maxHeartbeats 4000000 in
theorem c_Nd_pop (l : Launch) (g : Gm) (sz : Nat) (S : StC)  (post : Int32 → StC → Prop) (hw : wp_Nd_pop g post S ) : Met l y_N_pop (.code y_N_pop b_N_pop 1 (some .int) :: w_C) (rmM 0 0) (va_Pc [.ref (g.2.2 4)] (PC g sz S)) (va_Qi post (BC g (AC g sz S)) (AC g sz S)) 0 0 (AC g sz S) := by
  refine ofC_i (by decide) (Nat.le_of_ble_eq_true rfl) (fun p e s m args below meth c Q A H locs ls hx hb hml hts hown hK hA hC hN kr hl hP hD hS => ?_)
  have hl : lv_has ls 1 [(0, .ref (g.2.2 4))] := hl
  unfold wp_Nd_pop at hw
  refine lv_aload_n hx hb d_N_pop_0 rfl (lv_at hl 0 rfl) ?_
  refine va_get (D := g.1) (ci := 6) (v := .int ((S.1 8))) (C := R_N) (T := F_N) (N := 2) hx hb hts hin_N hown hK hP 4 rfl rfl 1 (by decide) (hts _ k_C_69) (fun _ h9 => h9) rfl d_N_pop_1 ?_
  refine lv_if_ne hx hb d_N_pop_4 (tgt := 9) (by decide) (fun hc => ?_) (fun hc => ?_)
  · have hw := hw.2 hc
    refine lv_aload_n hx hb d_N_pop_9 rfl (lv_at hl 0 rfl) ?_
    refine lv_dup hx hb d_N_pop_10 rfl ?_
    refine va_get (D := g.1) (ci := 6) (v := .int ((S.1 8))) (C := R_N) (T := F_N) (N := 2) hx hb hts hin_N hown hK hP 4 rfl rfl 1 (by decide) (hts _ k_C_69) (fun _ h9 => h9) rfl d_N_pop_11 ?_
    refine lv_iconst (v := 1) hx hb d_N_pop_14 (by decide) ?_
    refine lv_isub hx hb d_N_pop_15 ?_
    refine pt_C (S2 := ((upd S.1 8 (((S.1 8) - 1))), S.2)) (v := .int (((S.1 8) - 1))) (C := R_N) (F := F_N) (N := 2) (ci := 6) hx hb hts hin_N t_N t_N_ok n_N hown hK hP hD hS 4 rfl rfl 1 (by decide) rfl rfl rfl (Nat.le_of_ble_eq_true rfl) (sI_C_8 g _ _) k_C_69 d_N_pop_16 (fun H locs hP hD hS => ?_)
    refine lv_aload_n hx hb d_N_pop_19 rfl (lv_at hl 0 rfl) ?_
    refine va_get (D := g.1) (ci := 6) (v := .ref (g.2.2 5)) (C := R_N) (T := F_N) (N := 2) hx hb hts hin_N hown hK hP 4 rfl rfl 0 (by decide) (hts _ k_C_68) (fun _ h9 => h9) rfl d_N_pop_20 ?_
    refine lv_aload_n hx hb d_N_pop_23 rfl (lv_at hl 0 rfl) ?_
    refine va_get (D := g.1) (ci := 6) (v := .int (((S.1 8) - 1))) (C := R_N) (T := F_N) (N := 2) hx hb hts hin_N hown hK hP 4 rfl rfl 1 (by decide) (hts _ k_C_69) (fun _ h9 => h9) rfl d_N_pop_24 ?_
    obtain ⟨hi, hw⟩ := hw
    refine va_iald (f := (S.2.1 0)) hx hb hK hP 5 0 rfl rfl hi d_N_pop_27 ?_
    exact kr (((S.2.1 0) (Int32.toNatClampNeg (((S.1 8) - 1))))) ((upd S.1 8 (((S.1 8) - 1))), S.2) _ _ _ _ hw hP hD hS d_N_pop_28
  · have hw := hw.1 hc
    refine lv_iconst (v := 0) hx hb d_N_pop_7 (by decide) ?_
    exact kr (0) S _ _ _ _ hw hP hD hS d_N_pop_8
def wp_Nr_pop (g : Gm) (post : Int32 → StC → Prop) (S : StC)  : Prop :=
  (((S.1 9) = 0) → post (0) S) ∧ (¬ ((S.1 9) = 0) → (vp_in ((S.1 9) - 1) 24) ∧ (post (((S.2.1 1) (Int32.toNatClampNeg (((S.1 9) - 1))))) ((upd S.1 9 (((S.1 9) - 1))), S.2)))
set_option maxRecDepth 100000 in
set_option maxHeartbeats 4000000 in
theorem c_Nr_pop (l : Launch) (g : Gm) (sz : Nat) (S : StC)  (post : Int32 → StC → Prop) (hw : wp_Nr_pop g post S ) : Met l y_N_pop (.code y_N_pop b_N_pop 1 (some .int) :: w_C) (rmM 0 0) (va_Pc [.ref (g.2.2 6)] (PC g sz S)) (va_Qi post (BC g (AC g sz S)) (AC g sz S)) 0 0 (AC g sz S) := by
  refine ofC_i (by decide) (Nat.le_of_ble_eq_true rfl) (fun p e s m args below meth c Q A H locs ls hx hb hml hts hown hK hA hC hN kr hl hP hD hS => ?_)
  have hl : lv_has ls 1 [(0, .ref (g.2.2 6))] := hl
  unfold wp_Nr_pop at hw
  refine lv_aload_n hx hb d_N_pop_0 rfl (lv_at hl 0 rfl) ?_
  refine va_get (D := g.1) (ci := 6) (v := .int ((S.1 9))) (C := R_N) (T := F_N) (N := 2) hx hb hts hin_N hown hK hP 6 rfl rfl 1 (by decide) (hts _ k_C_69) (fun _ h9 => h9) rfl d_N_pop_1 ?_
  refine lv_if_ne hx hb d_N_pop_4 (tgt := 9) (by decide) (fun hc => ?_) (fun hc => ?_)
  · have hw := hw.2 hc
    refine lv_aload_n hx hb d_N_pop_9 rfl (lv_at hl 0 rfl) ?_
    refine lv_dup hx hb d_N_pop_10 rfl ?_
    refine va_get (D := g.1) (ci := 6) (v := .int ((S.1 9))) (C := R_N) (T := F_N) (N := 2) hx hb hts hin_N hown hK hP 6 rfl rfl 1 (by decide) (hts _ k_C_69) (fun _ h9 => h9) rfl d_N_pop_11 ?_
    refine lv_iconst (v := 1) hx hb d_N_pop_14 (by decide) ?_
    refine lv_isub hx hb d_N_pop_15 ?_
    refine pt_C (S2 := ((upd S.1 9 (((S.1 9) - 1))), S.2)) (v := .int (((S.1 9) - 1))) (C := R_N) (F := F_N) (N := 2) (ci := 6) hx hb hts hin_N t_N t_N_ok n_N hown hK hP hD hS 6 rfl rfl 1 (by decide) rfl rfl rfl (Nat.le_of_ble_eq_true rfl) (sI_C_9 g _ _) k_C_69 d_N_pop_16 (fun H locs hP hD hS => ?_)
    refine lv_aload_n hx hb d_N_pop_19 rfl (lv_at hl 0 rfl) ?_
    refine va_get (D := g.1) (ci := 6) (v := .ref (g.2.2 7)) (C := R_N) (T := F_N) (N := 2) hx hb hts hin_N hown hK hP 6 rfl rfl 0 (by decide) (hts _ k_C_68) (fun _ h9 => h9) rfl d_N_pop_20 ?_
    refine lv_aload_n hx hb d_N_pop_23 rfl (lv_at hl 0 rfl) ?_
    refine va_get (D := g.1) (ci := 6) (v := .int (((S.1 9) - 1))) (C := R_N) (T := F_N) (N := 2) hx hb hts hin_N hown hK hP 6 rfl rfl 1 (by decide) (hts _ k_C_69) (fun _ h9 => h9) rfl d_N_pop_24 ?_
    obtain ⟨hi, hw⟩ := hw
    refine va_iald (f := (S.2.1 1)) hx hb hK hP 7 0 rfl rfl hi d_N_pop_27 ?_
    exact kr (((S.2.1 1) (Int32.toNatClampNeg (((S.1 9) - 1))))) ((upd S.1 9 (((S.1 9) - 1))), S.2) _ _ _ _ hw hP hD hS d_N_pop_28
  · have hw := hw.1 hc
    refine lv_iconst (v := 0) hx hb d_N_pop_7 (by decide) ?_
    exact kr (0) S _ _ _ _ hw hP hD hS d_N_pop_8
theorem d_N_drop_0 : decode b_N_drop 0 = .ok (.aload_n 0, 1) := by decide +kernel
theorem d_N_drop_1 : decode b_N_drop 1 = .ok (.iconst 0, 1) := by decide +kernel
theorem d_N_drop_2 : decode b_N_drop 2 = .ok (.aload_n 0, 1) := by decide +kernel
theorem d_N_drop_3 : decode b_N_drop 3 = .ok (.getfield 15, 3) := by decide +kernel
theorem d_N_drop_6 : decode b_N_drop 6 = .ok (.iload_n 1, 1) := by decide +kernel
theorem d_N_drop_7 : decode b_N_drop 7 = .ok (.isub, 1) := by decide +kernel
theorem d_N_drop_8 : decode b_N_drop 8 = .ok (.invokestatic 19, 3) := by decide +kernel
theorem d_N_drop_11 : decode b_N_drop 11 = .ok (.putfield 15, 3) := by decide +kernel
theorem d_N_drop_14 : decode b_N_drop 14 = .ok (.return_, 1) := by decide +kernel
def wp_Nd_drop (g : Gm) (post : StC → Prop) (S : StC) (a0 : Int32) : Prop :=
  post ((upd S.1 8 ((if (0 : Int32) < ((S.1 8) - a0) then ((S.1 8) - a0) else 0))), S.2)
set_option maxRecDepth 100000 in
set_option maxHeartbeats 4000000 in
theorem c_Nd_drop (l : Launch) (g : Gm) (sz : Nat) (S : StC) (a0 : Int32) (post : StC → Prop) (hw : wp_Nd_drop g post S a0) : Met l y_N_drop (.code y_N_drop b_N_drop 2 none :: w_C) (rmM 1 21) (va_Pc [.ref (g.2.2 4), .int (a0)] (PC g sz S)) (va_Qv post (BC g (AC g sz S)) (AC g sz S)) 0 0 (AC g sz S) := by
  refine ofC_v (by decide) (Nat.le_of_ble_eq_true rfl) (fun p e s m args below meth c Q A H locs ls hx hb hml hts hown hK hA hC hN kr hl hP hD hS => ?_)
  have hl : lv_has ls 2 [(0, .ref (g.2.2 4)), (1, .int (a0))] := hl
  unfold wp_Nd_drop at hw
  refine lv_aload_n hx hb d_N_drop_0 rfl (lv_at hl 0 rfl) ?_
  refine lv_iconst (v := 0) hx hb d_N_drop_1 (by decide) ?_
  refine lv_aload_n hx hb d_N_drop_2 rfl (lv_at hl 0 rfl) ?_
  refine va_get (D := g.1) (ci := 6) (v := .int ((S.1 8))) (C := R_N) (T := F_N) (N := 2) hx hb hts hin_N hown hK hP 4 rfl rfl 1 (by decide) (hts _ k_C_69) (fun _ h9 => h9) rfl d_N_drop_3 ?_
  refine lv_iload_n hx hb d_N_drop_6 rfl (lv_at hl 1 rfl) ?_
  refine lv_isub hx hb d_N_drop_7 ?_
  refine va_mmax hx hb (hml.trans hl.1.symm) hown (hts _ k_C_633) (hts _ k_C_167) (hts _ k_C_13) (hts _ k_C_168) (Nat.le_of_ble_eq_true rfl) (Nat.le_of_ble_eq_true rfl) (Nat.zero_le _) (Nat.zero_le _) d_N_drop_8 ?_
  refine pt_C (S2 := ((upd S.1 8 ((if (0 : Int32) < ((S.1 8) - a0) then ((S.1 8) - a0) else 0))), S.2)) (v := .int ((if (0 : Int32) < ((S.1 8) - a0) then ((S.1 8) - a0) else 0))) (C := R_N) (F := F_N) (N := 2) (ci := 6) hx hb hts hin_N t_N t_N_ok n_N hown hK hP hD hS 4 rfl rfl 1 (by decide) rfl rfl rfl (Nat.le_of_ble_eq_true rfl) (sI_C_8 g _ _) k_C_69 d_N_drop_11 (fun H locs hP hD hS => ?_)
  exact kr ((upd S.1 8 ((if (0 : Int32) < ((S.1 8) - a0) then ((S.1 8) - a0) else 0))), S.2) _ _ _ _ hw hP hD hS d_N_drop_14
def wp_Nr_drop (g : Gm) (post : StC → Prop) (S : StC) (a0 : Int32) : Prop :=
  post ((upd S.1 9 ((if (0 : Int32) < ((S.1 9) - a0) then ((S.1 9) - a0) else 0))), S.2)
set_option maxRecDepth 100000 in
set_option maxHeartbeats 4000000 in
theorem c_Nr_drop (l : Launch) (g : Gm) (sz : Nat) (S : StC) (a0 : Int32) (post : StC → Prop) (hw : wp_Nr_drop g post S a0) : Met l y_N_drop (.code y_N_drop b_N_drop 2 none :: w_C) (rmM 1 21) (va_Pc [.ref (g.2.2 6), .int (a0)] (PC g sz S)) (va_Qv post (BC g (AC g sz S)) (AC g sz S)) 0 0 (AC g sz S) := by
  refine ofC_v (by decide) (Nat.le_of_ble_eq_true rfl) (fun p e s m args below meth c Q A H locs ls hx hb hml hts hown hK hA hC hN kr hl hP hD hS => ?_)
  have hl : lv_has ls 2 [(0, .ref (g.2.2 6)), (1, .int (a0))] := hl
  unfold wp_Nr_drop at hw
  refine lv_aload_n hx hb d_N_drop_0 rfl (lv_at hl 0 rfl) ?_
  refine lv_iconst (v := 0) hx hb d_N_drop_1 (by decide) ?_
  refine lv_aload_n hx hb d_N_drop_2 rfl (lv_at hl 0 rfl) ?_
  refine va_get (D := g.1) (ci := 6) (v := .int ((S.1 9))) (C := R_N) (T := F_N) (N := 2) hx hb hts hin_N hown hK hP 6 rfl rfl 1 (by decide) (hts _ k_C_69) (fun _ h9 => h9) rfl d_N_drop_3 ?_
  refine lv_iload_n hx hb d_N_drop_6 rfl (lv_at hl 1 rfl) ?_
  refine lv_isub hx hb d_N_drop_7 ?_
  refine va_mmax hx hb (hml.trans hl.1.symm) hown (hts _ k_C_633) (hts _ k_C_167) (hts _ k_C_13) (hts _ k_C_168) (Nat.le_of_ble_eq_true rfl) (Nat.le_of_ble_eq_true rfl) (Nat.zero_le _) (Nat.zero_le _) d_N_drop_8 ?_
  refine pt_C (S2 := ((upd S.1 9 ((if (0 : Int32) < ((S.1 9) - a0) then ((S.1 9) - a0) else 0))), S.2)) (v := .int ((if (0 : Int32) < ((S.1 9) - a0) then ((S.1 9) - a0) else 0))) (C := R_N) (F := F_N) (N := 2) (ci := 6) hx hb hts hin_N t_N t_N_ok n_N hown hK hP hD hS 6 rfl rfl 1 (by decide) rfl rfl rfl (Nat.le_of_ble_eq_true rfl) (sI_C_9 g _ _) k_C_69 d_N_drop_11 (fun H locs hP hD hS => ?_)
  exact kr ((upd S.1 9 ((if (0 : Int32) < ((S.1 9) - a0) then ((S.1 9) - a0) else 0))), S.2) _ _ _ _ hw hP hD hS d_N_drop_14
theorem d_N_fromTop_0 : decode b_N_fromTop 0 = .ok (.iload_n 1, 1) := by decide +kernel
theorem d_N_fromTop_1 : decode b_N_fromTop 1 = .ok (.ifCond .lt 27, 3) := by decide +kernel
theorem d_N_fromTop_4 : decode b_N_fromTop 4 = .ok (.iload_n 1, 1) := by decide +kernel
theorem d_N_fromTop_5 : decode b_N_fromTop 5 = .ok (.aload_n 0, 1) := by decide +kernel
theorem d_N_fromTop_6 : decode b_N_fromTop 6 = .ok (.getfield 15, 3) := by decide +kernel
theorem d_N_fromTop_9 : decode b_N_fromTop 9 = .ok (.if_icmp .ge 19, 3) := by decide +kernel
theorem d_N_fromTop_12 : decode b_N_fromTop 12 = .ok (.aload_n 0, 1) := by decide +kernel
theorem d_N_fromTop_13 : decode b_N_fromTop 13 = .ok (.getfield 9, 3) := by decide +kernel
theorem d_N_fromTop_16 : decode b_N_fromTop 16 = .ok (.aload_n 0, 1) := by decide +kernel
theorem d_N_fromTop_17 : decode b_N_fromTop 17 = .ok (.getfield 15, 3) := by decide +kernel
theorem d_N_fromTop_20 : decode b_N_fromTop 20 = .ok (.iconst 1, 1) := by decide +kernel
theorem d_N_fromTop_21 : decode b_N_fromTop 21 = .ok (.isub, 1) := by decide +kernel
theorem d_N_fromTop_22 : decode b_N_fromTop 22 = .ok (.iload_n 1, 1) := by decide +kernel
theorem d_N_fromTop_23 : decode b_N_fromTop 23 = .ok (.isub, 1) := by decide +kernel
theorem d_N_fromTop_24 : decode b_N_fromTop 24 = .ok (.iaload, 1) := by decide +kernel
theorem d_N_fromTop_25 : decode b_N_fromTop 25 = .ok (.goto 4, 3) := by decide +kernel
theorem d_N_fromTop_28 : decode b_N_fromTop 28 = .ok (.iconst 0, 1) := by decide +kernel
theorem d_N_fromTop_29 : decode b_N_fromTop 29 = .ok (.ireturn, 1) := by decide +kernel
def wq_Nd_fromTop_29 (g : Gm) (post : Int32 → StC → Prop)  (S : StC) (t0 : Int32) : Prop :=
  post (t0) S
def wq_Nd_fromTop_28 (g : Gm) (post : Int32 → StC → Prop)  (S : StC)  : Prop :=
  wq_Nd_fromTop_29 g post  S (0)
def wp_Nd_fromTop (g : Gm) (post : Int32 → StC → Prop) (S : StC) (a0 : Int32) : Prop :=
  ((a0 < 0) → wq_Nd_fromTop_28 g post  S ) ∧ (¬ (a0 < 0) → (((S.1 8) ≤ a0) → wq_Nd_fromTop_28 g post  S ) ∧ (¬ ((S.1 8) ≤ a0) → (vp_in (((S.1 8) - 1) - a0) 24) ∧ (wq_Nd_fromTop_29 g post  S (((S.2.1 0) (Int32.toNatClampNeg ((((S.1 8) - 1) - a0))))))))
set_option maxRecDepth 100000 in
set_option maxHeartbeats 4000000 in
theorem c_Nd_fromTop (l : Launch) (g : Gm) (sz : Nat) (S : StC) (a0 : Int32) (post : Int32 → StC → Prop) (hw : wp_Nd_fromTop g post S a0) : Met l y_N_fromTop (.code y_N_fromTop b_N_fromTop 2 (some .int) :: w_C) (rmM 0 0) (va_Pc [.ref (g.2.2 4), .int (a0)] (PC g sz S)) (va_Qi post (BC g (AC g sz S)) (AC g sz S)) 0 0 (AC g sz S) := by
  refine ofC_i (by decide) (Nat.le_of_ble_eq_true rfl) (fun p e s m args below meth c Q A H locs ls hx hb hml hts hown hK hA hC hN kr hl hP hD hS => ?_)
  have hl : lv_has ls 2 [(0, .ref (g.2.2 4)), (1, .int (a0))] := hl
  unfold wp_Nd_fromTop at hw
  have J29 : ∀ (S : StC) (t0 : Int32) (H : Heap) (locs : List Loc) (ls : Array Slot), wq_Nd_fromTop_29 g post  S t0 → lv_has ls 2 [] → va_P g.1 classes (wC g S) H → va_D A (wC g S) → va_S A s.heap H locs → W p l e (rmM 0 0) s m args below meth c H locs 0 0 Q (F0 m 29 ls [.int (t0)]) := by
    intro S t0 H locs ls hw hl hP hD hS
    unfold wq_Nd_fromTop_29 at hw
    exact kr (t0) S _ _ _ _ hw hP hD hS d_N_fromTop_29
  have J28 : ∀ (S : StC)  (H : Heap) (locs : List Loc) (ls : Array Slot), wq_Nd_fromTop_28 g post  S  → lv_has ls 2 [] → va_P g.1 classes (wC g S) H → va_D A (wC g S) → va_S A s.heap H locs → W p l e (rmM 0 0) s m args below meth c H locs 0 0 Q (F0 m 28 ls []) := by
    intro S  H locs ls hw hl hP hD hS
    unfold wq_Nd_fromTop_28 at hw
    refine lv_iconst (v := 0) hx hb d_N_fromTop_28 (by decide) ?_
    exact J29 S (0) _ _ _ hw (lv_sub hl [] rfl) hP hD hS
  refine lv_iload_n hx hb d_N_fromTop_0 rfl (lv_at hl 1 rfl) ?_
  refine lv_if_lt hx hb d_N_fromTop_1 (tgt := 28) (by decide) (fun hc => ?_) (fun hc => ?_)
  · have hw := hw.1 hc
    exact J28 S  _ _ _ hw (lv_sub hl [] rfl) hP hD hS
  · have hw := hw.2 hc
    refine lv_iload_n hx hb d_N_fromTop_4 rfl (lv_at hl 1 rfl) ?_
    refine lv_aload_n hx hb d_N_fromTop_5 rfl (lv_at hl 0 rfl) ?_
    refine va_get (D := g.1) (ci := 6) (v := .int ((S.1 8))) (C := R_N) (T := F_N) (N := 2) hx hb hts hin_N hown hK hP 4 rfl rfl 1 (by decide) (hts _ k_C_69) (fun _ h9 => h9) rfl d_N_fromTop_6 ?_
    refine lv_icmp_ge hx hb d_N_fromTop_9 (tgt := 28) (by decide) (fun hc => ?_) (fun hc => ?_)
    · have hw := hw.1 hc
      exact J28 S  _ _ _ hw (lv_sub hl [] rfl) hP hD hS
    · have hw := hw.2 hc
      refine lv_aload_n hx hb d_N_fromTop_12 rfl (lv_at hl 0 rfl) ?_
      refine va_get (D := g.1) (ci := 6) (v := .ref (g.2.2 5)) (C := R_N) (T := F_N) (N := 2) hx hb hts hin_N hown hK hP 4 rfl rfl 0 (by decide) (hts _ k_C_68) (fun _ h9 => h9) rfl d_N_fromTop_13 ?_
      refine lv_aload_n hx hb d_N_fromTop_16 rfl (lv_at hl 0 rfl) ?_
      refine va_get (D := g.1) (ci := 6) (v := .int ((S.1 8))) (C := R_N) (T := F_N) (N := 2) hx hb hts hin_N hown hK hP 4 rfl rfl 1 (by decide) (hts _ k_C_69) (fun _ h9 => h9) rfl d_N_fromTop_17 ?_
      refine lv_iconst (v := 1) hx hb d_N_fromTop_20 (by decide) ?_
      refine lv_isub hx hb d_N_fromTop_21 ?_
      refine lv_iload_n hx hb d_N_fromTop_22 rfl (lv_at hl 1 rfl) ?_
      refine lv_isub hx hb d_N_fromTop_23 ?_
      obtain ⟨hi, hw⟩ := hw
      refine va_iald (f := (S.2.1 0)) hx hb hK hP 5 0 rfl rfl hi d_N_fromTop_24 ?_
      refine lv_goto hx hb d_N_fromTop_25 (tgt := 29) (by decide) ?_
      exact J29 S (((S.2.1 0) (Int32.toNatClampNeg ((((S.1 8) - 1) - a0))))) _ _ _ hw (lv_sub hl [] rfl) hP hD hS
def wq_Nr_fromTop_29 (g : Gm) (post : Int32 → StC → Prop)  (S : StC) (t0 : Int32) : Prop :=
  post (t0) S
def wq_Nr_fromTop_28 (g : Gm) (post : Int32 → StC → Prop)  (S : StC)  : Prop :=
  wq_Nr_fromTop_29 g post  S (0)
def wp_Nr_fromTop (g : Gm) (post : Int32 → StC → Prop) (S : StC) (a0 : Int32) : Prop :=
  ((a0 < 0) → wq_Nr_fromTop_28 g post  S ) ∧ (¬ (a0 < 0) → (((S.1 9) ≤ a0) → wq_Nr_fromTop_28 g post  S ) ∧ (¬ ((S.1 9) ≤ a0) → (vp_in (((S.1 9) - 1) - a0) 24) ∧ (wq_Nr_fromTop_29 g post  S (((S.2.1 1) (Int32.toNatClampNeg ((((S.1 9) - 1) - a0))))))))
set_option maxRecDepth 100000 in
set_option maxHeartbeats 4000000 in
theorem c_Nr_fromTop (l : Launch) (g : Gm) (sz : Nat) (S : StC) (a0 : Int32) (post : Int32 → StC → Prop) (hw : wp_Nr_fromTop g post S a0) : Met l y_N_fromTop (.code y_N_fromTop b_N_fromTop 2 (some .int) :: w_C) (rmM 0 0) (va_Pc [.ref (g.2.2 6), .int (a0)] (PC g sz S)) (va_Qi post (BC g (AC g sz S)) (AC g sz S)) 0 0 (AC g sz S) := by
  refine ofC_i (by decide) (Nat.le_of_ble_eq_true rfl) (fun p e s m args below meth c Q A H locs ls hx hb hml hts hown hK hA hC hN kr hl hP hD hS => ?_)
  have hl : lv_has ls 2 [(0, .ref (g.2.2 6)), (1, .int (a0))] := hl
  unfold wp_Nr_fromTop at hw
  have J29 : ∀ (S : StC) (t0 : Int32) (H : Heap) (locs : List Loc) (ls : Array Slot), wq_Nr_fromTop_29 g post  S t0 → lv_has ls 2 [] → va_P g.1 classes (wC g S) H → va_D A (wC g S) → va_S A s.heap H locs → W p l e (rmM 0 0) s m args below meth c H locs 0 0 Q (F0 m 29 ls [.int (t0)]) := by
    intro S t0 H locs ls hw hl hP hD hS
    unfold wq_Nr_fromTop_29 at hw
    exact kr (t0) S _ _ _ _ hw hP hD hS d_N_fromTop_29
  have J28 : ∀ (S : StC)  (H : Heap) (locs : List Loc) (ls : Array Slot), wq_Nr_fromTop_28 g post  S  → lv_has ls 2 [] → va_P g.1 classes (wC g S) H → va_D A (wC g S) → va_S A s.heap H locs → W p l e (rmM 0 0) s m args below meth c H locs 0 0 Q (F0 m 28 ls []) := by
    intro S  H locs ls hw hl hP hD hS
    unfold wq_Nr_fromTop_28 at hw
    refine lv_iconst (v := 0) hx hb d_N_fromTop_28 (by decide) ?_
    exact J29 S (0) _ _ _ hw (lv_sub hl [] rfl) hP hD hS
  refine lv_iload_n hx hb d_N_fromTop_0 rfl (lv_at hl 1 rfl) ?_
  refine lv_if_lt hx hb d_N_fromTop_1 (tgt := 28) (by decide) (fun hc => ?_) (fun hc => ?_)
  · have hw := hw.1 hc
    exact J28 S  _ _ _ hw (lv_sub hl [] rfl) hP hD hS
  · have hw := hw.2 hc
    refine lv_iload_n hx hb d_N_fromTop_4 rfl (lv_at hl 1 rfl) ?_
    refine lv_aload_n hx hb d_N_fromTop_5 rfl (lv_at hl 0 rfl) ?_
    refine va_get (D := g.1) (ci := 6) (v := .int ((S.1 9))) (C := R_N) (T := F_N) (N := 2) hx hb hts hin_N hown hK hP 6 rfl rfl 1 (by decide) (hts _ k_C_69) (fun _ h9 => h9) rfl d_N_fromTop_6 ?_
    refine lv_icmp_ge hx hb d_N_fromTop_9 (tgt := 28) (by decide) (fun hc => ?_) (fun hc => ?_)
    · have hw := hw.1 hc
      exact J28 S  _ _ _ hw (lv_sub hl [] rfl) hP hD hS
    · have hw := hw.2 hc
      refine lv_aload_n hx hb d_N_fromTop_12 rfl (lv_at hl 0 rfl) ?_
      refine va_get (D := g.1) (ci := 6) (v := .ref (g.2.2 7)) (C := R_N) (T := F_N) (N := 2) hx hb hts hin_N hown hK hP 6 rfl rfl 0 (by decide) (hts _ k_C_68) (fun _ h9 => h9) rfl d_N_fromTop_13 ?_
      refine lv_aload_n hx hb d_N_fromTop_16 rfl (lv_at hl 0 rfl) ?_
      refine va_get (D := g.1) (ci := 6) (v := .int ((S.1 9))) (C := R_N) (T := F_N) (N := 2) hx hb hts hin_N hown hK hP 6 rfl rfl 1 (by decide) (hts _ k_C_69) (fun _ h9 => h9) rfl d_N_fromTop_17 ?_
      refine lv_iconst (v := 1) hx hb d_N_fromTop_20 (by decide) ?_
      refine lv_isub hx hb d_N_fromTop_21 ?_
      refine lv_iload_n hx hb d_N_fromTop_22 rfl (lv_at hl 1 rfl) ?_
      refine lv_isub hx hb d_N_fromTop_23 ?_
      obtain ⟨hi, hw⟩ := hw
      refine va_iald (f := (S.2.1 1)) hx hb hK hP 7 0 rfl rfl hi d_N_fromTop_24 ?_
      refine lv_goto hx hb d_N_fromTop_25 (tgt := 29) (by decide) ?_
      exact J29 S (((S.2.1 1) (Int32.toNatClampNeg ((((S.1 9) - 1) - a0))))) _ _ _ hw (lv_sub hl [] rfl) hP hD hS
theorem d_N_clear_0 : decode b_N_clear 0 = .ok (.aload_n 0, 1) := by decide +kernel
theorem d_N_clear_1 : decode b_N_clear 1 = .ok (.iconst 0, 1) := by decide +kernel
theorem d_N_clear_2 : decode b_N_clear 2 = .ok (.putfield 15, 3) := by decide +kernel
theorem d_N_clear_5 : decode b_N_clear 5 = .ok (.return_, 1) := by decide +kernel
def wp_Nd_clear (g : Gm) (post : StC → Prop) (S : StC)  : Prop :=
  post ((upd S.1 8 (0)), S.2)
set_option maxRecDepth 100000 in
set_option maxHeartbeats 4000000 in
theorem c_Nd_clear (l : Launch) (g : Gm) (sz : Nat) (S : StC)  (post : StC → Prop) (hw : wp_Nd_clear g post S ) : Met l y_N_clear (.code y_N_clear b_N_clear 1 none :: w_C) (rmM 0 0) (va_Pc [.ref (g.2.2 4)] (PC g sz S)) (va_Qv post (BC g (AC g sz S)) (AC g sz S)) 0 0 (AC g sz S) := by
  refine ofC_v (by decide) (Nat.le_of_ble_eq_true rfl) (fun p e s m args below meth c Q A H locs ls hx hb hml hts hown hK hA hC hN kr hl hP hD hS => ?_)
  have hl : lv_has ls 1 [(0, .ref (g.2.2 4))] := hl
  unfold wp_Nd_clear at hw
  refine lv_aload_n hx hb d_N_clear_0 rfl (lv_at hl 0 rfl) ?_
  refine lv_iconst (v := 0) hx hb d_N_clear_1 (by decide) ?_
  refine pt_C (S2 := ((upd S.1 8 (0)), S.2)) (v := .int (0)) (C := R_N) (F := F_N) (N := 2) (ci := 6) hx hb hts hin_N t_N t_N_ok n_N hown hK hP hD hS 4 rfl rfl 1 (by decide) rfl rfl rfl (Nat.le_of_ble_eq_true rfl) (sI_C_8 g _ _) k_C_69 d_N_clear_2 (fun H locs hP hD hS => ?_)
  exact kr ((upd S.1 8 (0)), S.2) _ _ _ _ hw hP hD hS d_N_clear_5
def wp_Nr_clear (g : Gm) (post : StC → Prop) (S : StC)  : Prop :=
  post ((upd S.1 9 (0)), S.2)
set_option maxRecDepth 100000 in
set_option maxHeartbeats 4000000 in
theorem c_Nr_clear (l : Launch) (g : Gm) (sz : Nat) (S : StC)  (post : StC → Prop) (hw : wp_Nr_clear g post S ) : Met l y_N_clear (.code y_N_clear b_N_clear 1 none :: w_C) (rmM 0 0) (va_Pc [.ref (g.2.2 6)] (PC g sz S)) (va_Qv post (BC g (AC g sz S)) (AC g sz S)) 0 0 (AC g sz S) := by
  refine ofC_v (by decide) (Nat.le_of_ble_eq_true rfl) (fun p e s m args below meth c Q A H locs ls hx hb hml hts hown hK hA hC hN kr hl hP hD hS => ?_)
  have hl : lv_has ls 1 [(0, .ref (g.2.2 6))] := hl
  unfold wp_Nr_clear at hw
  refine lv_aload_n hx hb d_N_clear_0 rfl (lv_at hl 0 rfl) ?_
  refine lv_iconst (v := 0) hx hb d_N_clear_1 (by decide) ?_
  refine pt_C (S2 := ((upd S.1 9 (0)), S.2)) (v := .int (0)) (C := R_N) (F := F_N) (N := 2) (ci := 6) hx hb hts hin_N t_N t_N_ok n_N hown hK hP hD hS 6 rfl rfl 1 (by decide) rfl rfl rfl (Nat.le_of_ble_eq_true rfl) (sI_C_9 g _ _) k_C_69 d_N_clear_2 (fun H locs hP hD hS => ?_)
  exact kr ((upd S.1 9 (0)), S.2) _ _ _ _ hw hP hD hS d_N_clear_5
theorem d_Me_has_0 : decode b_Me_has 0 = .ok (.iload_n 1, 1) := by decide +kernel
theorem d_Me_has_1 : decode b_Me_has 1 = .ok (.ifCond .lt 13, 3) := by decide +kernel
theorem d_Me_has_4 : decode b_Me_has 4 = .ok (.iload_n 1, 1) := by decide +kernel
theorem d_Me_has_5 : decode b_Me_has 5 = .ok (.bipush 96, 2) := by decide +kernel
theorem d_Me_has_7 : decode b_Me_has 7 = .ok (.if_icmp .ge 7, 3) := by decide +kernel
theorem d_Me_has_10 : decode b_Me_has 10 = .ok (.iconst 1, 1) := by decide +kernel
theorem d_Me_has_11 : decode b_Me_has 11 = .ok (.goto 4, 3) := by decide +kernel
theorem d_Me_has_14 : decode b_Me_has 14 = .ok (.iconst 0, 1) := by decide +kernel
theorem d_Me_has_15 : decode b_Me_has 15 = .ok (.ireturn, 1) := by decide +kernel
def wq_Me_has_15 (g : Gm) (post : Int32 → StC → Prop)  (S : StC) (t0 : Int32) : Prop :=
  (narrow .boolean (.int (t0)) = .int (t0)) ∧ (post (t0) S)
def wq_Me_has_14 (g : Gm) (post : Int32 → StC → Prop)  (S : StC)  : Prop :=
  wq_Me_has_15 g post  S (0)
def wp_Me_has (g : Gm) (post : Int32 → StC → Prop) (S : StC) (a0 : Int32) : Prop :=
  ((a0 < 0) → wq_Me_has_14 g post  S ) ∧ (¬ (a0 < 0) → ((96 ≤ a0) → wq_Me_has_14 g post  S ) ∧ (¬ (96 ≤ a0) → wq_Me_has_15 g post  S (1)))
set_option maxRecDepth 100000 in
set_option maxHeartbeats 4000000 in
theorem c_Me_has (l : Launch) (g : Gm) (sz : Nat) (S : StC) (a0 : Int32) (post : Int32 → StC → Prop) (hw : wp_Me_has g post S a0) : Met l y_Me_has (.code y_Me_has b_Me_has 2 (some .boolean) :: w_C) (rmM 0 0) (va_Pc [.ref (g.2.2 8), .int (a0)] (PC g sz S)) (va_Qi post (BC g (AC g sz S)) (AC g sz S)) 0 0 (AC g sz S) := by
  refine ofC_z (by decide) (Nat.le_of_ble_eq_true rfl) (fun p e s m args below meth c Q A H locs ls hx hb hml hts hown hK hA hC hN kr hl hP hD hS => ?_)
  have hl : lv_has ls 2 [(0, .ref (g.2.2 8)), (1, .int (a0))] := hl
  unfold wp_Me_has at hw
  have J15 : ∀ (S : StC) (t0 : Int32) (H : Heap) (locs : List Loc) (ls : Array Slot), wq_Me_has_15 g post  S t0 → lv_has ls 2 [] → va_P g.1 classes (wC g S) H → va_D A (wC g S) → va_S A s.heap H locs → W p l e (rmM 0 0) s m args below meth c H locs 0 0 Q (F0 m 15 ls [.int (t0)]) := by
    intro S t0 H locs ls hw hl hP hD hS
    unfold wq_Me_has_15 at hw
    obtain ⟨hnz, hw⟩ := hw
    exact kr (t0) S _ _ _ _ hnz hw hP hD hS d_Me_has_15
  have J14 : ∀ (S : StC)  (H : Heap) (locs : List Loc) (ls : Array Slot), wq_Me_has_14 g post  S  → lv_has ls 2 [] → va_P g.1 classes (wC g S) H → va_D A (wC g S) → va_S A s.heap H locs → W p l e (rmM 0 0) s m args below meth c H locs 0 0 Q (F0 m 14 ls []) := by
    intro S  H locs ls hw hl hP hD hS
    unfold wq_Me_has_14 at hw
    refine lv_iconst (v := 0) hx hb d_Me_has_14 (by decide) ?_
    exact J15 S (0) _ _ _ hw (lv_sub hl [] rfl) hP hD hS
  refine lv_iload_n hx hb d_Me_has_0 rfl (lv_at hl 1 rfl) ?_
  refine lv_if_lt hx hb d_Me_has_1 (tgt := 14) (by decide) (fun hc => ?_) (fun hc => ?_)
  · have hw := hw.1 hc
    exact J14 S  _ _ _ hw (lv_sub hl [] rfl) hP hD hS
  · have hw := hw.2 hc
    refine lv_iload_n hx hb d_Me_has_4 rfl (lv_at hl 1 rfl) ?_
    refine lv_bipush (v := 96) hx hb d_Me_has_5 (by decide) ?_
    refine lv_icmp_ge hx hb d_Me_has_7 (tgt := 14) (by decide) (fun hc => ?_) (fun hc => ?_)
    · have hw := hw.1 hc
      exact J14 S  _ _ _ hw (lv_sub hl [] rfl) hP hD hS
    · have hw := hw.2 hc
      refine lv_iconst (v := 1) hx hb d_Me_has_10 (by decide) ?_
      refine lv_goto hx hb d_Me_has_11 (tgt := 15) (by decide) ?_
      exact J15 S (1) _ _ _ hw (lv_sub hl [] rfl) hP hD hS
theorem qC_0 {R : Room} {s : State} {args : Array Value} (hts : ∀ w ∈ w_C, w.before args s = true) (hR : (rmM 0 0).frames + 1 ≤ R.frames ∧ 8 + (2 + 11) + (rmM 0 0).locals ≤ R.locals) : CallW R s args "WordSmith$Memory" R_Me 31 y_Me_has b_Me_has 2 (some .boolean) (.code y_Me_has b_Me_has 2 (some .boolean) :: w_C) (rmM 0 0) 0 0 1 := ⟨callB_of 1 hts (good_C k_C_614) rfl rfl rfl (hts _ k_C_8) (hts _ k_C_665) ⟨by decide +kernel, by decide +kernel, by decide +kernel⟩ hR, hts _ k_C_612, hts _ k_C_613⟩
theorem d_Me_fetch_0 : decode b_Me_fetch 0 = .ok (.aload_n 0, 1) := by decide +kernel
theorem d_Me_fetch_1 : decode b_Me_fetch 1 = .ok (.iload_n 1, 1) := by decide +kernel
theorem d_Me_fetch_2 : decode b_Me_fetch 2 = .ok (.invokevirtual 31, 3) := by decide +kernel
theorem d_Me_fetch_5 : decode b_Me_fetch 5 = .ok (.ifCond .eq 12, 3) := by decide +kernel
theorem d_Me_fetch_8 : decode b_Me_fetch 8 = .ok (.aload_n 0, 1) := by decide +kernel
theorem d_Me_fetch_9 : decode b_Me_fetch 9 = .ok (.getfield 9, 3) := by decide +kernel
theorem d_Me_fetch_12 : decode b_Me_fetch 12 = .ok (.iload_n 1, 1) := by decide +kernel
theorem d_Me_fetch_13 : decode b_Me_fetch 13 = .ok (.iaload, 1) := by decide +kernel
theorem d_Me_fetch_14 : decode b_Me_fetch 14 = .ok (.goto 4, 3) := by decide +kernel
theorem d_Me_fetch_17 : decode b_Me_fetch 17 = .ok (.iconst 0, 1) := by decide +kernel
theorem d_Me_fetch_18 : decode b_Me_fetch 18 = .ok (.ireturn, 1) := by decide +kernel
def wq_Me_fetch_18 (g : Gm) (post : Int32 → StC → Prop)  (S : StC) (t0 : Int32) : Prop :=
  post (t0) S
def wp_Me_fetch (g : Gm) (post : Int32 → StC → Prop) (S : StC) (a0 : Int32) : Prop :=
  wp_Me_has g (fun (r2 : Int32) (S1 : StC) => (((r2 = 0) → wq_Me_fetch_18 g post  S1 (0)) ∧ (¬ (r2 = 0) → (vp_in a0 96) ∧ (wq_Me_fetch_18 g post  S1 (((S1.2.1 2) (Int32.toNatClampNeg (a0)))))))) S (a0)
set_option maxRecDepth 100000 in
set_option maxHeartbeats 4000000 in
theorem c_Me_fetch (l : Launch) (g : Gm) (sz : Nat) (S : StC) (a0 : Int32) (post : Int32 → StC → Prop) (hw : wp_Me_fetch g post S a0) : Met l y_Me_fetch (.code y_Me_fetch b_Me_fetch 2 (some .int) :: w_C) (rmM 1 21) (va_Pc [.ref (g.2.2 8), .int (a0)] (PC g sz S)) (va_Qi post (BC g (AC g sz S)) (AC g sz S)) 0 0 (AC g sz S) := by
  refine ofC_i (by decide) (Nat.le_of_ble_eq_true rfl) (fun p e s m args below meth c Q A H locs ls hx hb hml hts hown hK hA hC hN kr hl hP hD hS => ?_)
  have hl : lv_has ls 2 [(0, .ref (g.2.2 8)), (1, .int (a0))] := hl
  unfold wp_Me_fetch at hw
  have J18 : ∀ (S : StC) (t0 : Int32) (H : Heap) (locs : List Loc) (ls : Array Slot), wq_Me_fetch_18 g post  S t0 → lv_has ls 2 [] → va_P g.1 classes (wC g S) H → va_D A (wC g S) → va_S A s.heap H locs → W p l e (rmM 1 21) s m args below meth c H locs 0 0 Q (F0 m 18 ls [.int (t0)]) := by
    intro S t0 H locs ls hw hl hP hD hS
    unfold wq_Me_fetch_18 at hw
    exact kr (t0) S _ _ _ _ hw hP hD hS d_Me_fetch_18
  refine lv_aload_n hx hb d_Me_fetch_0 rfl (lv_at hl 0 rfl) ?_
  refine lv_iload_n hx hb d_Me_fetch_1 rfl (lv_at hl 1 rfl) ?_
  refine cC_iV (As := [.int (a0)]) (rest := []) hx hb hml hown hts hK hC hN hP hD hS hA (Nat.zero_le _) (Nat.zero_le _) hl.1 (va_recv (q0 := 8) (ci := 7) (q := (R_Me, F_Me, 6)) hK hP rfl rfl) (qC_0 hts ⟨Nat.le_of_ble_eq_true rfl, Nat.le_of_ble_eq_true rfl⟩) (c_Me_has l g H.size _ (a0) _ hw) rfl rfl (Nat.le_of_ble_eq_true rfl) d_Me_fetch_2 (fun r2 S1 H locs hw hP hD hS => ?_)
  refine lv_if_eq hx hb d_Me_fetch_5 (tgt := 17) (by decide) (fun hc => ?_) (fun hc => ?_)
  · have hw := hw.1 hc
    refine lv_iconst (v := 0) hx hb d_Me_fetch_17 (by decide) ?_
    exact J18 S1 (0) _ _ _ hw (lv_sub hl [] rfl) hP hD hS
  · have hw := hw.2 hc
    refine lv_aload_n hx hb d_Me_fetch_8 rfl (lv_at hl 0 rfl) ?_
    refine va_get (D := g.1) (ci := 7) (v := .ref (g.2.2 9)) (C := R_Me) (T := F_Me) (N := 6) hx hb hts hin_Me hown hK hP 8 rfl rfl 0 (by decide) (hts _ k_C_78) (fun _ h9 => h9) rfl d_Me_fetch_9 ?_
    refine lv_iload_n hx hb d_Me_fetch_12 rfl (lv_at hl 1 rfl) ?_
    obtain ⟨hi, hw⟩ := hw
    refine va_iald (f := (S1.2.1 2)) hx hb hK hP 9 0 rfl rfl hi d_Me_fetch_13 ?_
    refine lv_goto hx hb d_Me_fetch_14 (tgt := 18) (by decide) ?_
    exact J18 S1 (((S1.2.1 2) (Int32.toNatClampNeg (a0)))) _ _ _ hw (lv_sub hl [] rfl) hP hD hS
theorem d_Me_store_0 : decode b_Me_store 0 = .ok (.aload_n 0, 1) := by decide +kernel
theorem d_Me_store_1 : decode b_Me_store 1 = .ok (.iload_n 1, 1) := by decide +kernel
theorem d_Me_store_2 : decode b_Me_store 2 = .ok (.invokevirtual 31, 3) := by decide +kernel
theorem d_Me_store_5 : decode b_Me_store 5 = .ok (.ifCond .eq 10, 3) := by decide +kernel
theorem d_Me_store_8 : decode b_Me_store 8 = .ok (.aload_n 0, 1) := by decide +kernel
theorem d_Me_store_9 : decode b_Me_store 9 = .ok (.getfield 9, 3) := by decide +kernel
theorem d_Me_store_12 : decode b_Me_store 12 = .ok (.iload_n 1, 1) := by decide +kernel
theorem d_Me_store_13 : decode b_Me_store 13 = .ok (.iload_n 2, 1) := by decide +kernel
theorem d_Me_store_14 : decode b_Me_store 14 = .ok (.iastore, 1) := by decide +kernel
theorem d_Me_store_15 : decode b_Me_store 15 = .ok (.return_, 1) := by decide +kernel
def wq_Me_store_15 (g : Gm) (post : StC → Prop)  (S : StC)  : Prop :=
  post S
def wp_Me_store (g : Gm) (post : StC → Prop) (S : StC) (a0 : Int32) (a1 : Int32) : Prop :=
  wp_Me_has g (fun (r2 : Int32) (S1 : StC) => (((r2 = 0) → wq_Me_store_15 g post  S1 ) ∧ (¬ (r2 = 0) → (vp_in a0 96) ∧ (wq_Me_store_15 g post  (S1.1, (va_up S1.2.1 2 (upd (S1.2.1 2) (Int32.toNatClampNeg (a0)) (a1))), S1.2.2) )))) S (a0)
set_option maxRecDepth 100000 in
set_option maxHeartbeats 4000000 in
theorem c_Me_store (l : Launch) (g : Gm) (sz : Nat) (S : StC) (a0 : Int32) (a1 : Int32) (post : StC → Prop) (hw : wp_Me_store g post S a0 a1) : Met l y_Me_store (.code y_Me_store b_Me_store 3 none :: w_C) (rmM 1 21) (va_Pc [.ref (g.2.2 8), .int (a0), .int (a1)] (PC g sz S)) (va_Qv post (BC g (AC g sz S)) (AC g sz S)) 0 0 (AC g sz S) := by
  refine ofC_v (by decide) (Nat.le_of_ble_eq_true rfl) (fun p e s m args below meth c Q A H locs ls hx hb hml hts hown hK hA hC hN kr hl hP hD hS => ?_)
  have hl : lv_has ls 3 [(0, .ref (g.2.2 8)), (1, .int (a0)), (2, .int (a1))] := hl
  unfold wp_Me_store at hw
  have J15 : ∀ (S : StC)  (H : Heap) (locs : List Loc) (ls : Array Slot), wq_Me_store_15 g post  S  → lv_has ls 3 [] → va_P g.1 classes (wC g S) H → va_D A (wC g S) → va_S A s.heap H locs → W p l e (rmM 1 21) s m args below meth c H locs 0 0 Q (F0 m 15 ls []) := by
    intro S  H locs ls hw hl hP hD hS
    unfold wq_Me_store_15 at hw
    exact kr S _ _ _ _ hw hP hD hS d_Me_store_15
  refine lv_aload_n hx hb d_Me_store_0 rfl (lv_at hl 0 rfl) ?_
  refine lv_iload_n hx hb d_Me_store_1 rfl (lv_at hl 1 rfl) ?_
  refine cC_iV (As := [.int (a0)]) (rest := []) hx hb hml hown hts hK hC hN hP hD hS hA (Nat.zero_le _) (Nat.zero_le _) hl.1 (va_recv (q0 := 8) (ci := 7) (q := (R_Me, F_Me, 6)) hK hP rfl rfl) (qC_0 hts ⟨Nat.le_of_ble_eq_true rfl, Nat.le_of_ble_eq_true rfl⟩) (c_Me_has l g H.size _ (a0) _ hw) rfl rfl (Nat.le_of_ble_eq_true rfl) d_Me_store_2 (fun r2 S1 H locs hw hP hD hS => ?_)
  refine lv_if_eq hx hb d_Me_store_5 (tgt := 15) (by decide) (fun hc => ?_) (fun hc => ?_)
  · have hw := hw.1 hc
    exact J15 S1  _ _ _ hw (lv_sub hl [] rfl) hP hD hS
  · have hw := hw.2 hc
    refine lv_aload_n hx hb d_Me_store_8 rfl (lv_at hl 0 rfl) ?_
    refine va_get (D := g.1) (ci := 7) (v := .ref (g.2.2 9)) (C := R_Me) (T := F_Me) (N := 6) hx hb hts hin_Me hown hK hP 8 rfl rfl 0 (by decide) (hts _ k_C_78) (fun _ h9 => h9) rfl d_Me_store_9 ?_
    refine lv_iload_n hx hb d_Me_store_12 rfl (lv_at hl 1 rfl) ?_
    refine lv_iload_n hx hb d_Me_store_13 rfl (lv_at hl 2 rfl) ?_
    obtain ⟨hi, hw⟩ := hw
    refine ia_C (S2 := (S1.1, (va_up S1.2.1 2 (upd (S1.2.1 2) (Int32.toNatClampNeg (a0)) (a1))), S1.2.2)) (f := (S1.2.1 2)) hx hb hK hP hD hS 9 rfl hi d_Me_store_14 (sA_C_2 g _ _) (fun H locs hP hD hS => ?_)
    exact J15 (S1.1, (va_up S1.2.1 2 (upd (S1.2.1 2) (Int32.toNatClampNeg (a0)) (a1))), S1.2.2)  _ _ _ hw (lv_sub hl [] rfl) hP hD hS
theorem d_Me_canGrow_0 : decode b_Me_canGrow 0 = .ok (.aload_n 0, 1) := by decide +kernel
theorem d_Me_canGrow_1 : decode b_Me_canGrow 1 = .ok (.getfield 35, 3) := by decide +kernel
theorem d_Me_canGrow_4 : decode b_Me_canGrow 4 = .ok (.i2l, 1) := by decide +kernel
theorem d_Me_canGrow_5 : decode b_Me_canGrow 5 = .ok (.iload_n 1, 1) := by decide +kernel
theorem d_Me_canGrow_6 : decode b_Me_canGrow 6 = .ok (.i2l, 1) := by decide +kernel
theorem d_Me_canGrow_7 : decode b_Me_canGrow 7 = .ok (.ladd, 1) := by decide +kernel
theorem d_Me_canGrow_8 : decode b_Me_canGrow 8 = .ok (.lstore_n 2, 1) := by decide +kernel
theorem d_Me_canGrow_9 : decode b_Me_canGrow 9 = .ok (.lload_n 2, 1) := by decide +kernel
theorem d_Me_canGrow_10 : decode b_Me_canGrow 10 = .ok (.lconst 0, 1) := by decide +kernel
theorem d_Me_canGrow_11 : decode b_Me_canGrow 11 = .ok (.lcmp, 1) := by decide +kernel
theorem d_Me_canGrow_12 : decode b_Me_canGrow 12 = .ok (.ifCond .lt 15, 3) := by decide +kernel
theorem d_Me_canGrow_15 : decode b_Me_canGrow 15 = .ok (.lload_n 2, 1) := by decide +kernel
theorem d_Me_canGrow_16 : decode b_Me_canGrow 16 = .ok (.ldc2_w 38, 3) := by decide +kernel
theorem d_Me_canGrow_19 : decode b_Me_canGrow 19 = .ok (.lcmp, 1) := by decide +kernel
theorem d_Me_canGrow_20 : decode b_Me_canGrow 20 = .ok (.ifCond .gt 7, 3) := by decide +kernel
theorem d_Me_canGrow_23 : decode b_Me_canGrow 23 = .ok (.iconst 1, 1) := by decide +kernel
theorem d_Me_canGrow_24 : decode b_Me_canGrow 24 = .ok (.goto 4, 3) := by decide +kernel
theorem d_Me_canGrow_27 : decode b_Me_canGrow 27 = .ok (.iconst 0, 1) := by decide +kernel
theorem d_Me_canGrow_28 : decode b_Me_canGrow 28 = .ok (.ireturn, 1) := by decide +kernel
def wq_Me_canGrow_28 (g : Gm) (post : Int32 → StC → Prop)  (S : StC) (t0 : Int32) : Prop :=
  (narrow .boolean (.int (t0)) = .int (t0)) ∧ (post (t0) S)
def wq_Me_canGrow_27 (g : Gm) (post : Int32 → StC → Prop)  (S : StC)  : Prop :=
  wq_Me_canGrow_28 g post  S (0)
def wp_Me_canGrow (g : Gm) (post : Int32 → StC → Prop) (S : StC) (a0 : Int32) : Prop :=
  (((lg_cmp ((Int32.toInt64 (S.1 10)) + (Int32.toInt64 a0)) 0) < 0) → wq_Me_canGrow_27 g post  S ) ∧ (¬ ((lg_cmp ((Int32.toInt64 (S.1 10)) + (Int32.toInt64 a0)) 0) < 0) → ((0 < (lg_cmp ((Int32.toInt64 (S.1 10)) + (Int32.toInt64 a0)) 64)) → wq_Me_canGrow_27 g post  S ) ∧ (¬ (0 < (lg_cmp ((Int32.toInt64 (S.1 10)) + (Int32.toInt64 a0)) 64)) → wq_Me_canGrow_28 g post  S (1)))
set_option maxRecDepth 100000 in
set_option maxHeartbeats 4000000 in
theorem c_Me_canGrow (l : Launch) (g : Gm) (sz : Nat) (S : StC) (a0 : Int32) (post : Int32 → StC → Prop) (hw : wp_Me_canGrow g post S a0) : Met l y_Me_canGrow (.code y_Me_canGrow b_Me_canGrow 4 (some .boolean) :: w_C) (rmM 0 0) (va_Pc [.ref (g.2.2 8), .int (a0)] (PC g sz S)) (va_Qi post (BC g (AC g sz S)) (AC g sz S)) 0 0 (AC g sz S) := by
  refine ofC_z (by decide) (Nat.le_of_ble_eq_true rfl) (fun p e s m args below meth c Q A H locs ls hx hb hml hts hown hK hA hC hN kr hl hP hD hS => ?_)
  have hl : lv_has ls 4 [(0, .ref (g.2.2 8)), (1, .int (a0))] := hl
  unfold wp_Me_canGrow at hw
  have J28 : ∀ (S : StC) (t0 : Int32) (H : Heap) (locs : List Loc) (ls : Array Slot), wq_Me_canGrow_28 g post  S t0 → lv_has ls 4 [] → va_P g.1 classes (wC g S) H → va_D A (wC g S) → va_S A s.heap H locs → W p l e (rmM 0 0) s m args below meth c H locs 0 0 Q (F0 m 28 ls [.int (t0)]) := by
    intro S t0 H locs ls hw hl hP hD hS
    unfold wq_Me_canGrow_28 at hw
    obtain ⟨hnz, hw⟩ := hw
    exact kr (t0) S _ _ _ _ hnz hw hP hD hS d_Me_canGrow_28
  have J27 : ∀ (S : StC)  (H : Heap) (locs : List Loc) (ls : Array Slot), wq_Me_canGrow_27 g post  S  → lv_has ls 4 [] → va_P g.1 classes (wC g S) H → va_D A (wC g S) → va_S A s.heap H locs → W p l e (rmM 0 0) s m args below meth c H locs 0 0 Q (F0 m 27 ls []) := by
    intro S  H locs ls hw hl hP hD hS
    unfold wq_Me_canGrow_27 at hw
    refine lv_iconst (v := 0) hx hb d_Me_canGrow_27 (by decide) ?_
    exact J28 S (0) _ _ _ hw (lv_sub hl [] rfl) hP hD hS
  refine lv_aload_n hx hb d_Me_canGrow_0 rfl (lv_at hl 0 rfl) ?_
  refine va_get (D := g.1) (ci := 7) (v := .int ((S.1 10))) (C := R_Me) (T := F_Me) (N := 6) hx hb hts hin_Me hown hK hP 8 rfl rfl 1 (by decide) (hts _ k_C_79) (fun _ h9 => h9) rfl d_Me_canGrow_1 ?_
  refine lv_i2l (v := (Int32.toInt64 (S.1 10))) hx hb d_Me_canGrow_4 rfl ?_
  refine lv_iload_n hx hb d_Me_canGrow_5 rfl (lv_at hl 1 rfl) ?_
  refine lv_i2l (v := (Int32.toInt64 a0)) hx hb d_Me_canGrow_6 rfl ?_
  refine lv_ladd hx hb d_Me_canGrow_7 ?_
  refine lv_lstore_n (lv' := [(2, .long (((Int32.toInt64 (S.1 10)) + (Int32.toInt64 a0)))), (0, .ref (g.2.2 8)), (1, .int (a0))]) hx hb d_Me_canGrow_8 rfl hl (by decide) rfl (fun ls hl => ?_)
  refine lv_lload_n hx hb d_Me_canGrow_9 rfl (lv_at hl 0 rfl) ?_
  refine lv_lconst (v := 0) hx hb d_Me_canGrow_10 (by decide) ?_
  refine W.lcmp hx hb d_Me_canGrow_11 ?_
  refine lv_if_lt hx hb d_Me_canGrow_12 (tgt := 27) (by decide) (fun hc => ?_) (fun hc => ?_)
  · have hw := hw.1 hc
    exact J27 S  _ _ _ hw (lv_sub hl [] rfl) hP hD hS
  · have hw := hw.2 hc
    refine lv_lload_n hx hb d_Me_canGrow_15 rfl (lv_at hl 0 rfl) ?_
    refine lv_ldc2 (v := 64) hx hb hown (hts _ k_C_488) d_Me_canGrow_16 ?_
    refine W.lcmp hx hb d_Me_canGrow_19 ?_
    refine lv_if_gt hx hb d_Me_canGrow_20 (tgt := 27) (by decide) (fun hc => ?_) (fun hc => ?_)
    · have hw := hw.1 hc
      exact J27 S  _ _ _ hw (lv_sub hl [] rfl) hP hD hS
    · have hw := hw.2 hc
      refine lv_iconst (v := 1) hx hb d_Me_canGrow_23 (by decide) ?_
      refine lv_goto hx hb d_Me_canGrow_24 (tgt := 28) (by decide) ?_
      exact J28 S (1) _ _ _ hw (lv_sub hl [] rfl) hP hD hS
theorem qC_1 {R : Room} {s : State} {args : Array Value} (hts : ∀ w ∈ w_C, w.before args s = true) (hR : (rmM 0 0).frames + 1 ≤ R.frames ∧ 8 + (4 + 11) + (rmM 0 0).locals ≤ R.locals) : CallW R s args "WordSmith$Memory" R_Me 40 y_Me_canGrow b_Me_canGrow 4 (some .boolean) (.code y_Me_canGrow b_Me_canGrow 4 (some .boolean) :: w_C) (rmM 0 0) 0 0 1 := ⟨callB_of 1 hts (good_C k_C_487) rfl rfl rfl (hts _ k_C_8) (hts _ k_C_512) ⟨by decide +kernel, by decide +kernel, by decide +kernel⟩ hR, hts _ k_C_485, hts _ k_C_486⟩
theorem d_Me_grow_0 : decode b_Me_grow 0 = .ok (.aload_n 0, 1) := by decide +kernel
theorem d_Me_grow_1 : decode b_Me_grow 1 = .ok (.iload_n 1, 1) := by decide +kernel
theorem d_Me_grow_2 : decode b_Me_grow 2 = .ok (.invokevirtual 40, 3) := by decide +kernel
theorem d_Me_grow_5 : decode b_Me_grow 5 = .ok (.ifCond .eq 13, 3) := by decide +kernel
theorem d_Me_grow_8 : decode b_Me_grow 8 = .ok (.aload_n 0, 1) := by decide +kernel
theorem d_Me_grow_9 : decode b_Me_grow 9 = .ok (.dup, 1) := by decide +kernel
theorem d_Me_grow_10 : decode b_Me_grow 10 = .ok (.getfield 35, 3) := by decide +kernel
theorem d_Me_grow_13 : decode b_Me_grow 13 = .ok (.iload_n 1, 1) := by decide +kernel
theorem d_Me_grow_14 : decode b_Me_grow 14 = .ok (.iadd, 1) := by decide +kernel
theorem d_Me_grow_15 : decode b_Me_grow 15 = .ok (.putfield 35, 3) := by decide +kernel
theorem d_Me_grow_18 : decode b_Me_grow 18 = .ok (.return_, 1) := by decide +kernel
def wq_Me_grow_18 (g : Gm) (post : StC → Prop)  (S : StC)  : Prop :=
  post S
def wp_Me_grow (g : Gm) (post : StC → Prop) (S : StC) (a0 : Int32) : Prop :=
  wp_Me_canGrow g (fun (r2 : Int32) (S1 : StC) => (((r2 = 0) → wq_Me_grow_18 g post  S1 ) ∧ (¬ (r2 = 0) → wq_Me_grow_18 g post  ((upd S1.1 10 (((S1.1 10) + a0))), S1.2) ))) S (a0)
set_option maxRecDepth 100000 in
set_option maxHeartbeats 4000000 in
theorem c_Me_grow (l : Launch) (g : Gm) (sz : Nat) (S : StC) (a0 : Int32) (post : StC → Prop) (hw : wp_Me_grow g post S a0) : Met l y_Me_grow (.code y_Me_grow b_Me_grow 2 none :: w_C) (rmM 1 23) (va_Pc [.ref (g.2.2 8), .int (a0)] (PC g sz S)) (va_Qv post (BC g (AC g sz S)) (AC g sz S)) 0 0 (AC g sz S) := by
  refine ofC_v (by decide) (Nat.le_of_ble_eq_true rfl) (fun p e s m args below meth c Q A H locs ls hx hb hml hts hown hK hA hC hN kr hl hP hD hS => ?_)
  have hl : lv_has ls 2 [(0, .ref (g.2.2 8)), (1, .int (a0))] := hl
  unfold wp_Me_grow at hw
  have J18 : ∀ (S : StC)  (H : Heap) (locs : List Loc) (ls : Array Slot), wq_Me_grow_18 g post  S  → lv_has ls 2 [] → va_P g.1 classes (wC g S) H → va_D A (wC g S) → va_S A s.heap H locs → W p l e (rmM 1 23) s m args below meth c H locs 0 0 Q (F0 m 18 ls []) := by
    intro S  H locs ls hw hl hP hD hS
    unfold wq_Me_grow_18 at hw
    exact kr S _ _ _ _ hw hP hD hS d_Me_grow_18
  refine lv_aload_n hx hb d_Me_grow_0 rfl (lv_at hl 0 rfl) ?_
  refine lv_iload_n hx hb d_Me_grow_1 rfl (lv_at hl 1 rfl) ?_
  refine cC_iV (As := [.int (a0)]) (rest := []) hx hb hml hown hts hK hC hN hP hD hS hA (Nat.zero_le _) (Nat.zero_le _) hl.1 (va_recv (q0 := 8) (ci := 7) (q := (R_Me, F_Me, 6)) hK hP rfl rfl) (qC_1 hts ⟨Nat.le_of_ble_eq_true rfl, Nat.le_of_ble_eq_true rfl⟩) (c_Me_canGrow l g H.size _ (a0) _ hw) rfl rfl (Nat.le_of_ble_eq_true rfl) d_Me_grow_2 (fun r2 S1 H locs hw hP hD hS => ?_)
  refine lv_if_eq hx hb d_Me_grow_5 (tgt := 18) (by decide) (fun hc => ?_) (fun hc => ?_)
  · have hw := hw.1 hc
    exact J18 S1  _ _ _ hw (lv_sub hl [] rfl) hP hD hS
  · have hw := hw.2 hc
    refine lv_aload_n hx hb d_Me_grow_8 rfl (lv_at hl 0 rfl) ?_
    refine lv_dup hx hb d_Me_grow_9 rfl ?_
    refine va_get (D := g.1) (ci := 7) (v := .int ((S1.1 10))) (C := R_Me) (T := F_Me) (N := 6) hx hb hts hin_Me hown hK hP 8 rfl rfl 1 (by decide) (hts _ k_C_79) (fun _ h9 => h9) rfl d_Me_grow_10 ?_
    refine lv_iload_n hx hb d_Me_grow_13 rfl (lv_at hl 1 rfl) ?_
    refine lv_iadd hx hb d_Me_grow_14 ?_
    refine pt_C (S2 := ((upd S1.1 10 (((S1.1 10) + a0))), S1.2)) (v := .int (((S1.1 10) + a0))) (C := R_Me) (F := F_Me) (N := 6) (ci := 7) hx hb hts hin_Me t_Me t_Me_ok n_Me hown hK hP hD hS 8 rfl rfl 1 (by decide) rfl rfl rfl (Nat.le_of_ble_eq_true rfl) (sI_C_10 g _ _) k_C_79 d_Me_grow_15 (fun H locs hP hD hS => ?_)
    exact J18 ((upd S1.1 10 (((S1.1 10) + a0))), S1.2)  _ _ _ hw (lv_sub hl [] rfl) hP hD hS
theorem d_Me_append_0 : decode b_Me_append 0 = .ok (.aload_n 0, 1) := by decide +kernel
theorem d_Me_append_1 : decode b_Me_append 1 = .ok (.iconst 1, 1) := by decide +kernel
theorem d_Me_append_2 : decode b_Me_append 2 = .ok (.invokevirtual 40, 3) := by decide +kernel
theorem d_Me_append_5 : decode b_Me_append 5 = .ok (.ifCond .eq 23, 3) := by decide +kernel
theorem d_Me_append_8 : decode b_Me_append 8 = .ok (.aload_n 0, 1) := by decide +kernel
theorem d_Me_append_9 : decode b_Me_append 9 = .ok (.getfield 9, 3) := by decide +kernel
theorem d_Me_append_12 : decode b_Me_append 12 = .ok (.aload_n 0, 1) := by decide +kernel
theorem d_Me_append_13 : decode b_Me_append 13 = .ok (.getfield 35, 3) := by decide +kernel
theorem d_Me_append_16 : decode b_Me_append 16 = .ok (.iload_n 1, 1) := by decide +kernel
theorem d_Me_append_17 : decode b_Me_append 17 = .ok (.iastore, 1) := by decide +kernel
theorem d_Me_append_18 : decode b_Me_append 18 = .ok (.aload_n 0, 1) := by decide +kernel
theorem d_Me_append_19 : decode b_Me_append 19 = .ok (.dup, 1) := by decide +kernel
theorem d_Me_append_20 : decode b_Me_append 20 = .ok (.getfield 35, 3) := by decide +kernel
theorem d_Me_append_23 : decode b_Me_append 23 = .ok (.iconst 1, 1) := by decide +kernel
theorem d_Me_append_24 : decode b_Me_append 24 = .ok (.iadd, 1) := by decide +kernel
theorem d_Me_append_25 : decode b_Me_append 25 = .ok (.putfield 35, 3) := by decide +kernel
theorem d_Me_append_28 : decode b_Me_append 28 = .ok (.return_, 1) := by decide +kernel
def wq_Me_append_28 (g : Gm) (post : StC → Prop)  (S : StC)  : Prop :=
  post S
def wp_Me_append (g : Gm) (post : StC → Prop) (S : StC) (a0 : Int32) : Prop :=
  wp_Me_canGrow g (fun (r2 : Int32) (S1 : StC) => (((r2 = 0) → wq_Me_append_28 g post  S1 ) ∧ (¬ (r2 = 0) → (vp_in (S1.1 10) 96) ∧ (wq_Me_append_28 g post  ((upd S1.1 10 (((S1.1 10) + 1))), (va_up S1.2.1 2 (upd (S1.2.1 2) (Int32.toNatClampNeg ((S1.1 10))) (a0))), S1.2.2) )))) S (1)
set_option maxRecDepth 100000 in
set_option maxHeartbeats 4000000 in
theorem c_Me_append (l : Launch) (g : Gm) (sz : Nat) (S : StC) (a0 : Int32) (post : StC → Prop) (hw : wp_Me_append g post S a0) : Met l y_Me_append (.code y_Me_append b_Me_append 2 none :: w_C) (rmM 1 23) (va_Pc [.ref (g.2.2 8), .int (a0)] (PC g sz S)) (va_Qv post (BC g (AC g sz S)) (AC g sz S)) 0 0 (AC g sz S) := by
  refine ofC_v (by decide) (Nat.le_of_ble_eq_true rfl) (fun p e s m args below meth c Q A H locs ls hx hb hml hts hown hK hA hC hN kr hl hP hD hS => ?_)
  have hl : lv_has ls 2 [(0, .ref (g.2.2 8)), (1, .int (a0))] := hl
  unfold wp_Me_append at hw
  have J28 : ∀ (S : StC)  (H : Heap) (locs : List Loc) (ls : Array Slot), wq_Me_append_28 g post  S  → lv_has ls 2 [] → va_P g.1 classes (wC g S) H → va_D A (wC g S) → va_S A s.heap H locs → W p l e (rmM 1 23) s m args below meth c H locs 0 0 Q (F0 m 28 ls []) := by
    intro S  H locs ls hw hl hP hD hS
    unfold wq_Me_append_28 at hw
    exact kr S _ _ _ _ hw hP hD hS d_Me_append_28
  refine lv_aload_n hx hb d_Me_append_0 rfl (lv_at hl 0 rfl) ?_
  refine lv_iconst (v := 1) hx hb d_Me_append_1 (by decide) ?_
  refine cC_iV (As := [.int (1)]) (rest := []) hx hb hml hown hts hK hC hN hP hD hS hA (Nat.zero_le _) (Nat.zero_le _) hl.1 (va_recv (q0 := 8) (ci := 7) (q := (R_Me, F_Me, 6)) hK hP rfl rfl) (qC_1 hts ⟨Nat.le_of_ble_eq_true rfl, Nat.le_of_ble_eq_true rfl⟩) (c_Me_canGrow l g H.size _ (1) _ hw) rfl rfl (Nat.le_of_ble_eq_true rfl) d_Me_append_2 (fun r2 S1 H locs hw hP hD hS => ?_)
  refine lv_if_eq hx hb d_Me_append_5 (tgt := 28) (by decide) (fun hc => ?_) (fun hc => ?_)
  · have hw := hw.1 hc
    exact J28 S1  _ _ _ hw (lv_sub hl [] rfl) hP hD hS
  · have hw := hw.2 hc
    refine lv_aload_n hx hb d_Me_append_8 rfl (lv_at hl 0 rfl) ?_
    refine va_get (D := g.1) (ci := 7) (v := .ref (g.2.2 9)) (C := R_Me) (T := F_Me) (N := 6) hx hb hts hin_Me hown hK hP 8 rfl rfl 0 (by decide) (hts _ k_C_78) (fun _ h9 => h9) rfl d_Me_append_9 ?_
    refine lv_aload_n hx hb d_Me_append_12 rfl (lv_at hl 0 rfl) ?_
    refine va_get (D := g.1) (ci := 7) (v := .int ((S1.1 10))) (C := R_Me) (T := F_Me) (N := 6) hx hb hts hin_Me hown hK hP 8 rfl rfl 1 (by decide) (hts _ k_C_79) (fun _ h9 => h9) rfl d_Me_append_13 ?_
    refine lv_iload_n hx hb d_Me_append_16 rfl (lv_at hl 1 rfl) ?_
    obtain ⟨hi, hw⟩ := hw
    refine ia_C (S2 := (S1.1, (va_up S1.2.1 2 (upd (S1.2.1 2) (Int32.toNatClampNeg ((S1.1 10))) (a0))), S1.2.2)) (f := (S1.2.1 2)) hx hb hK hP hD hS 9 rfl hi d_Me_append_17 (sA_C_2 g _ _) (fun H locs hP hD hS => ?_)
    refine lv_aload_n hx hb d_Me_append_18 rfl (lv_at hl 0 rfl) ?_
    refine lv_dup hx hb d_Me_append_19 rfl ?_
    refine va_get (D := g.1) (ci := 7) (v := .int ((S1.1 10))) (C := R_Me) (T := F_Me) (N := 6) hx hb hts hin_Me hown hK hP 8 rfl rfl 1 (by decide) (hts _ k_C_79) (fun _ h9 => h9) rfl d_Me_append_20 ?_
    refine lv_iconst (v := 1) hx hb d_Me_append_23 (by decide) ?_
    refine lv_iadd hx hb d_Me_append_24 ?_
    refine pt_C (S2 := ((upd S1.1 10 (((S1.1 10) + 1))), (va_up S1.2.1 2 (upd (S1.2.1 2) (Int32.toNatClampNeg ((S1.1 10))) (a0))), S1.2.2)) (v := .int (((S1.1 10) + 1))) (C := R_Me) (F := F_Me) (N := 6) (ci := 7) hx hb hts hin_Me t_Me t_Me_ok n_Me hown hK hP hD hS 8 rfl rfl 1 (by decide) rfl rfl rfl (Nat.le_of_ble_eq_true rfl) (sI_C_10 g _ _) k_C_79 d_Me_append_25 (fun H locs hP hD hS => ?_)
    exact J28 ((upd S1.1 10 (((S1.1 10) + 1))), (va_up S1.2.1 2 (upd (S1.2.1 2) (Int32.toNatClampNeg ((S1.1 10))) (a0))), S1.2.2)  _ _ _ hw (lv_sub hl [] rfl) hP hD hS
theorem d_Me_hasBlock_0 : decode b_Me_hasBlock 0 = .ok (.iload_n 1, 1) := by decide +kernel
theorem d_Me_hasBlock_1 : decode b_Me_hasBlock 1 = .ok (.ifCond .lt 12, 3) := by decide +kernel
theorem d_Me_hasBlock_4 : decode b_Me_hasBlock 4 = .ok (.iload_n 1, 1) := by decide +kernel
theorem d_Me_hasBlock_5 : decode b_Me_hasBlock 5 = .ok (.iconst 4, 1) := by decide +kernel
theorem d_Me_hasBlock_6 : decode b_Me_hasBlock 6 = .ok (.if_icmp .ge 7, 3) := by decide +kernel
theorem d_Me_hasBlock_9 : decode b_Me_hasBlock 9 = .ok (.iconst 1, 1) := by decide +kernel
theorem d_Me_hasBlock_10 : decode b_Me_hasBlock 10 = .ok (.goto 4, 3) := by decide +kernel
theorem d_Me_hasBlock_13 : decode b_Me_hasBlock 13 = .ok (.iconst 0, 1) := by decide +kernel
theorem d_Me_hasBlock_14 : decode b_Me_hasBlock 14 = .ok (.ireturn, 1) := by decide +kernel
def wq_Me_hasBlock_14 (g : Gm) (post : Int32 → StC → Prop)  (S : StC) (t0 : Int32) : Prop :=
  (narrow .boolean (.int (t0)) = .int (t0)) ∧ (post (t0) S)
def wq_Me_hasBlock_13 (g : Gm) (post : Int32 → StC → Prop)  (S : StC)  : Prop :=
  wq_Me_hasBlock_14 g post  S (0)
def wp_Me_hasBlock (g : Gm) (post : Int32 → StC → Prop) (S : StC) (a0 : Int32) : Prop :=
  ((a0 < 0) → wq_Me_hasBlock_13 g post  S ) ∧ (¬ (a0 < 0) → ((4 ≤ a0) → wq_Me_hasBlock_13 g post  S ) ∧ (¬ (4 ≤ a0) → wq_Me_hasBlock_14 g post  S (1)))
set_option maxRecDepth 100000 in
set_option maxHeartbeats 4000000 in
theorem c_Me_hasBlock (l : Launch) (g : Gm) (sz : Nat) (S : StC) (a0 : Int32) (post : Int32 → StC → Prop) (hw : wp_Me_hasBlock g post S a0) : Met l y_Me_hasBlock (.code y_Me_hasBlock b_Me_hasBlock 2 (some .boolean) :: w_C) (rmM 0 0) (va_Pc [.ref (g.2.2 8), .int (a0)] (PC g sz S)) (va_Qi post (BC g (AC g sz S)) (AC g sz S)) 0 0 (AC g sz S) := by
  refine ofC_z (by decide) (Nat.le_of_ble_eq_true rfl) (fun p e s m args below meth c Q A H locs ls hx hb hml hts hown hK hA hC hN kr hl hP hD hS => ?_)
  have hl : lv_has ls 2 [(0, .ref (g.2.2 8)), (1, .int (a0))] := hl
  unfold wp_Me_hasBlock at hw
  have J14 : ∀ (S : StC) (t0 : Int32) (H : Heap) (locs : List Loc) (ls : Array Slot), wq_Me_hasBlock_14 g post  S t0 → lv_has ls 2 [] → va_P g.1 classes (wC g S) H → va_D A (wC g S) → va_S A s.heap H locs → W p l e (rmM 0 0) s m args below meth c H locs 0 0 Q (F0 m 14 ls [.int (t0)]) := by
    intro S t0 H locs ls hw hl hP hD hS
    unfold wq_Me_hasBlock_14 at hw
    obtain ⟨hnz, hw⟩ := hw
    exact kr (t0) S _ _ _ _ hnz hw hP hD hS d_Me_hasBlock_14
  have J13 : ∀ (S : StC)  (H : Heap) (locs : List Loc) (ls : Array Slot), wq_Me_hasBlock_13 g post  S  → lv_has ls 2 [] → va_P g.1 classes (wC g S) H → va_D A (wC g S) → va_S A s.heap H locs → W p l e (rmM 0 0) s m args below meth c H locs 0 0 Q (F0 m 13 ls []) := by
    intro S  H locs ls hw hl hP hD hS
    unfold wq_Me_hasBlock_13 at hw
    refine lv_iconst (v := 0) hx hb d_Me_hasBlock_13 (by decide) ?_
    exact J14 S (0) _ _ _ hw (lv_sub hl [] rfl) hP hD hS
  refine lv_iload_n hx hb d_Me_hasBlock_0 rfl (lv_at hl 1 rfl) ?_
  refine lv_if_lt hx hb d_Me_hasBlock_1 (tgt := 13) (by decide) (fun hc => ?_) (fun hc => ?_)
  · have hw := hw.1 hc
    exact J13 S  _ _ _ hw (lv_sub hl [] rfl) hP hD hS
  · have hw := hw.2 hc
    refine lv_iload_n hx hb d_Me_hasBlock_4 rfl (lv_at hl 1 rfl) ?_
    refine lv_iconst (v := 4) hx hb d_Me_hasBlock_5 (by decide) ?_
    refine lv_icmp_ge hx hb d_Me_hasBlock_6 (tgt := 13) (by decide) (fun hc => ?_) (fun hc => ?_)
    · have hw := hw.1 hc
      exact J13 S  _ _ _ hw (lv_sub hl [] rfl) hP hD hS
    · have hw := hw.2 hc
      refine lv_iconst (v := 1) hx hb d_Me_hasBlock_9 (by decide) ?_
      refine lv_goto hx hb d_Me_hasBlock_10 (tgt := 14) (by decide) ?_
      exact J14 S (1) _ _ _ hw (lv_sub hl [] rfl) hP hD hS
theorem qC_2 {R : Room} {s : State} {args : Array Value} (hts : ∀ w ∈ w_C, w.before args s = true) (hR : (rmM 0 0).frames + 1 ≤ R.frames ∧ 8 + (2 + 11) + (rmM 0 0).locals ≤ R.locals) : CallW R s args "WordSmith$Memory" R_Me 43 y_Me_hasBlock b_Me_hasBlock 2 (some .boolean) (.code y_Me_hasBlock b_Me_hasBlock 2 (some .boolean) :: w_C) (rmM 0 0) 0 0 1 := ⟨callB_of 1 hts (good_C k_C_618) rfl rfl rfl (hts _ k_C_8) (hts _ k_C_752) ⟨by decide +kernel, by decide +kernel, by decide +kernel⟩ hR, hts _ k_C_616, hts _ k_C_617⟩
theorem d_Me_onDisk_0 : decode b_Me_onDisk 0 = .ok (.aload_n 0, 1) := by decide +kernel
theorem d_Me_onDisk_1 : decode b_Me_onDisk 1 = .ok (.iload_n 1, 1) := by decide +kernel
theorem d_Me_onDisk_2 : decode b_Me_onDisk 2 = .ok (.invokevirtual 43, 3) := by decide +kernel
theorem d_Me_onDisk_5 : decode b_Me_onDisk 5 = .ok (.ifCond .eq 24, 3) := by decide +kernel
theorem d_Me_onDisk_8 : decode b_Me_onDisk 8 = .ok (.iload_n 2, 1) := by decide +kernel
theorem d_Me_onDisk_9 : decode b_Me_onDisk 9 = .ok (.ifCond .lt 20, 3) := by decide +kernel
theorem d_Me_onDisk_12 : decode b_Me_onDisk 12 = .ok (.iload_n 2, 1) := by decide +kernel
theorem d_Me_onDisk_13 : decode b_Me_onDisk 13 = .ok (.bipush 16, 2) := by decide +kernel
theorem d_Me_onDisk_15 : decode b_Me_onDisk 15 = .ok (.if_icmp .ge 14, 3) := by decide +kernel
theorem d_Me_onDisk_18 : decode b_Me_onDisk 18 = .ok (.aload_n 0, 1) := by decide +kernel
theorem d_Me_onDisk_19 : decode b_Me_onDisk 19 = .ok (.getfield 17, 3) := by decide +kernel
theorem d_Me_onDisk_22 : decode b_Me_onDisk 22 = .ok (.iload_n 1, 1) := by decide +kernel
theorem d_Me_onDisk_23 : decode b_Me_onDisk 23 = .ok (.aaload, 1) := by decide +kernel
theorem d_Me_onDisk_24 : decode b_Me_onDisk 24 = .ok (.iload_n 2, 1) := by decide +kernel
theorem d_Me_onDisk_25 : decode b_Me_onDisk 25 = .ok (.iaload, 1) := by decide +kernel
theorem d_Me_onDisk_26 : decode b_Me_onDisk 26 = .ok (.goto 4, 3) := by decide +kernel
theorem d_Me_onDisk_29 : decode b_Me_onDisk 29 = .ok (.iconst 0, 1) := by decide +kernel
theorem d_Me_onDisk_30 : decode b_Me_onDisk 30 = .ok (.ireturn, 1) := by decide +kernel
def wq_Me_onDisk_30 (g : Gm) (post : Int32 → StC → Prop)  (S : StC) (t0 : Int32) : Prop :=
  post (t0) S
def wq_Me_onDisk_29 (g : Gm) (post : Int32 → StC → Prop)  (S : StC)  : Prop :=
  wq_Me_onDisk_30 g post  S (0)
def wp_Me_onDisk (g : Gm) (post : Int32 → StC → Prop) (S : StC) (a0 : Int32) (a1 : Int32) : Prop :=
  wp_Me_hasBlock g (fun (r2 : Int32) (S1 : StC) => (((r2 = 0) → wq_Me_onDisk_29 g post  S1 ) ∧ (¬ (r2 = 0) → ((a1 < 0) → wq_Me_onDisk_29 g post  S1 ) ∧ (¬ (a1 < 0) → ((16 ≤ a1) → wq_Me_onDisk_29 g post  S1 ) ∧ (¬ (16 ≤ a1) → (vp_in a0 4) ∧ (∃ (y3 : Nat), (((S1.2.2.2.2.1 3) (Int32.toNatClampNeg (a0))) = some y3) ∧ (∃ (n5 : Nat) (f6 : Nat → Int32), (y3 ∈ S1.2.2.2.2.2.1) ∧ (S1.2.2.2.2.2.2 y3 = .inl (g.2.1 0, n5, .inl f6)) ∧ (vp_in a1 n5) ∧ (wq_Me_onDisk_30 g post  S1 ((f6 (Int32.toNatClampNeg (a1)))))))))))) S (a0)
set_option maxRecDepth 100000 in
set_option maxHeartbeats 4000000 in
theorem c_Me_onDisk (l : Launch) (g : Gm) (sz : Nat) (S : StC) (a0 : Int32) (a1 : Int32) (post : Int32 → StC → Prop) (hw : wp_Me_onDisk g post S a0 a1) : Met l y_Me_onDisk (.code y_Me_onDisk b_Me_onDisk 3 (some .int) :: w_C) (rmM 1 21) (va_Pc [.ref (g.2.2 8), .int (a0), .int (a1)] (PC g sz S)) (va_Qi post (BC g (AC g sz S)) (AC g sz S)) 0 0 (AC g sz S) := by
  refine ofC_i (by decide) (Nat.le_of_ble_eq_true rfl) (fun p e s m args below meth c Q A H locs ls hx hb hml hts hown hK hA hC hN kr hl hP hD hS => ?_)
  have hl : lv_has ls 3 [(0, .ref (g.2.2 8)), (1, .int (a0)), (2, .int (a1))] := hl
  unfold wp_Me_onDisk at hw
  have J30 : ∀ (S : StC) (t0 : Int32) (H : Heap) (locs : List Loc) (ls : Array Slot), wq_Me_onDisk_30 g post  S t0 → lv_has ls 3 [] → va_P g.1 classes (wC g S) H → va_D A (wC g S) → va_S A s.heap H locs → W p l e (rmM 1 21) s m args below meth c H locs 0 0 Q (F0 m 30 ls [.int (t0)]) := by
    intro S t0 H locs ls hw hl hP hD hS
    unfold wq_Me_onDisk_30 at hw
    exact kr (t0) S _ _ _ _ hw hP hD hS d_Me_onDisk_30
  have J29 : ∀ (S : StC)  (H : Heap) (locs : List Loc) (ls : Array Slot), wq_Me_onDisk_29 g post  S  → lv_has ls 3 [] → va_P g.1 classes (wC g S) H → va_D A (wC g S) → va_S A s.heap H locs → W p l e (rmM 1 21) s m args below meth c H locs 0 0 Q (F0 m 29 ls []) := by
    intro S  H locs ls hw hl hP hD hS
    unfold wq_Me_onDisk_29 at hw
    refine lv_iconst (v := 0) hx hb d_Me_onDisk_29 (by decide) ?_
    exact J30 S (0) _ _ _ hw (lv_sub hl [] rfl) hP hD hS
  refine lv_aload_n hx hb d_Me_onDisk_0 rfl (lv_at hl 0 rfl) ?_
  refine lv_iload_n hx hb d_Me_onDisk_1 rfl (lv_at hl 1 rfl) ?_
  refine cC_iV (As := [.int (a0)]) (rest := []) hx hb hml hown hts hK hC hN hP hD hS hA (Nat.zero_le _) (Nat.zero_le _) hl.1 (va_recv (q0 := 8) (ci := 7) (q := (R_Me, F_Me, 6)) hK hP rfl rfl) (qC_2 hts ⟨Nat.le_of_ble_eq_true rfl, Nat.le_of_ble_eq_true rfl⟩) (c_Me_hasBlock l g H.size _ (a0) _ hw) rfl rfl (Nat.le_of_ble_eq_true rfl) d_Me_onDisk_2 (fun r2 S1 H locs hw hP hD hS => ?_)
  refine lv_if_eq hx hb d_Me_onDisk_5 (tgt := 29) (by decide) (fun hc => ?_) (fun hc => ?_)
  · have hw := hw.1 hc
    exact J29 S1  _ _ _ hw (lv_sub hl [] rfl) hP hD hS
  · have hw := hw.2 hc
    refine lv_iload_n hx hb d_Me_onDisk_8 rfl (lv_at hl 2 rfl) ?_
    refine lv_if_lt hx hb d_Me_onDisk_9 (tgt := 29) (by decide) (fun hc => ?_) (fun hc => ?_)
    · have hw := hw.1 hc
      exact J29 S1  _ _ _ hw (lv_sub hl [] rfl) hP hD hS
    · have hw := hw.2 hc
      refine lv_iload_n hx hb d_Me_onDisk_12 rfl (lv_at hl 2 rfl) ?_
      refine lv_bipush (v := 16) hx hb d_Me_onDisk_13 (by decide) ?_
      refine lv_icmp_ge hx hb d_Me_onDisk_15 (tgt := 29) (by decide) (fun hc => ?_) (fun hc => ?_)
      · have hw := hw.1 hc
        exact J29 S1  _ _ _ hw (lv_sub hl [] rfl) hP hD hS
      · have hw := hw.2 hc
        refine lv_aload_n hx hb d_Me_onDisk_18 rfl (lv_at hl 0 rfl) ?_
        refine va_get (D := g.1) (ci := 7) (v := .ref (g.2.2 10)) (C := R_Me) (T := F_Me) (N := 6) hx hb hts hin_Me hown hK hP 8 rfl rfl 2 (by decide) (hts _ k_C_80) (fun _ h9 => h9) rfl d_Me_onDisk_19 ?_
        refine lv_iload_n hx hb d_Me_onDisk_22 rfl (lv_at hl 1 rfl) ?_
        obtain ⟨hi, hw⟩ := hw
        refine aldg_C (f := (S1.2.2.2.2.1 3)) hx hb hK hP 10 rfl hi d_Me_onDisk_23 ?_
        obtain ⟨y3, hy4, hw⟩ := hw
        refine W_rf hy4 ?_
        refine lv_iload_n hx hb d_Me_onDisk_24 rfl (lv_at hl 2 rfl) ?_
        obtain ⟨n5, f6, ha7, hf8, hi9, hw⟩ := hw
        refine pil_C (S := S1) hx hb hK hP ha7 hf8 hi9 d_Me_onDisk_25 ?_
        refine lv_goto hx hb d_Me_onDisk_26 (tgt := 30) (by decide) ?_
        exact J30 S1 ((f6 (Int32.toNatClampNeg (a1)))) _ _ _ hw (lv_sub hl [] rfl) hP hD hS
theorem d_Me_bufferState_0 : decode b_Me_bufferState 0 = .ok (.iload_n 1, 1) := by decide +kernel
theorem d_Me_bufferState_1 : decode b_Me_bufferState 1 = .ok (.ifCond .lt 18, 3) := by decide +kernel
theorem d_Me_bufferState_4 : decode b_Me_bufferState 4 = .ok (.iload_n 1, 1) := by decide +kernel
theorem d_Me_bufferState_5 : decode b_Me_bufferState 5 = .ok (.iconst 2, 1) := by decide +kernel
theorem d_Me_bufferState_6 : decode b_Me_bufferState 6 = .ok (.if_icmp .ge 13, 3) := by decide +kernel
theorem d_Me_bufferState_9 : decode b_Me_bufferState 9 = .ok (.aload_n 0, 1) := by decide +kernel
theorem d_Me_bufferState_10 : decode b_Me_bufferState 10 = .ok (.getfield 20, 3) := by decide +kernel
theorem d_Me_bufferState_13 : decode b_Me_bufferState 13 = .ok (.iload_n 1, 1) := by decide +kernel
theorem d_Me_bufferState_14 : decode b_Me_bufferState 14 = .ok (.iaload, 1) := by decide +kernel
theorem d_Me_bufferState_15 : decode b_Me_bufferState 15 = .ok (.iconst (-1), 1) := by decide +kernel
theorem d_Me_bufferState_16 : decode b_Me_bufferState 16 = .ok (.if_icmp .ne 5, 3) := by decide +kernel
theorem d_Me_bufferState_19 : decode b_Me_bufferState 19 = .ok (.iconst (-1), 1) := by decide +kernel
theorem d_Me_bufferState_20 : decode b_Me_bufferState 20 = .ok (.ireturn, 1) := by decide +kernel
theorem d_Me_bufferState_21 : decode b_Me_bufferState 21 = .ok (.bipush 10, 2) := by decide +kernel
theorem d_Me_bufferState_23 : decode b_Me_bufferState 23 = .ok (.aload_n 0, 1) := by decide +kernel
theorem d_Me_bufferState_24 : decode b_Me_bufferState 24 = .ok (.getfield 20, 3) := by decide +kernel
theorem d_Me_bufferState_27 : decode b_Me_bufferState 27 = .ok (.iload_n 1, 1) := by decide +kernel
theorem d_Me_bufferState_28 : decode b_Me_bufferState 28 = .ok (.iaload, 1) := by decide +kernel
theorem d_Me_bufferState_29 : decode b_Me_bufferState 29 = .ok (.imul, 1) := by decide +kernel
theorem d_Me_bufferState_30 : decode b_Me_bufferState 30 = .ok (.aload_n 0, 1) := by decide +kernel
theorem d_Me_bufferState_31 : decode b_Me_bufferState 31 = .ok (.getfield 23, 3) := by decide +kernel
theorem d_Me_bufferState_34 : decode b_Me_bufferState 34 = .ok (.iload_n 1, 1) := by decide +kernel
theorem d_Me_bufferState_35 : decode b_Me_bufferState 35 = .ok (.baload, 1) := by decide +kernel
theorem d_Me_bufferState_36 : decode b_Me_bufferState 36 = .ok (.ifCond .eq 7, 3) := by decide +kernel
theorem d_Me_bufferState_39 : decode b_Me_bufferState 39 = .ok (.iconst 1, 1) := by decide +kernel
theorem d_Me_bufferState_40 : decode b_Me_bufferState 40 = .ok (.goto 4, 3) := by decide +kernel
theorem d_Me_bufferState_43 : decode b_Me_bufferState 43 = .ok (.iconst 0, 1) := by decide +kernel
theorem d_Me_bufferState_44 : decode b_Me_bufferState 44 = .ok (.iadd, 1) := by decide +kernel
theorem d_Me_bufferState_45 : decode b_Me_bufferState 45 = .ok (.ireturn, 1) := by decide +kernel
def wq_Me_bufferState_44 (g : Gm) (post : Int32 → StC → Prop)  (S : StC) (t0 : Int32) (t1 : Int32) : Prop :=
  post ((t1 + t0)) S
def wq_Me_bufferState_19 (g : Gm) (post : Int32 → StC → Prop)  (S : StC)  : Prop :=
  post ((-1)) S
def wp_Me_bufferState (g : Gm) (post : Int32 → StC → Prop) (S : StC) (a0 : Int32) : Prop :=
  ((a0 < 0) → wq_Me_bufferState_19 g post  S ) ∧ (¬ (a0 < 0) → ((2 ≤ a0) → wq_Me_bufferState_19 g post  S ) ∧ (¬ (2 ≤ a0) → (vp_in a0 2) ∧ (((((S.2.1 3) (Int32.toNatClampNeg (a0))) = (-1)) → wq_Me_bufferState_19 g post  S ) ∧ (¬ (((S.2.1 3) (Int32.toNatClampNeg (a0))) = (-1)) → (vp_in a0 2) ∧ ((vp_in a0 2) ∧ (((((S.2.1 4) (Int32.toNatClampNeg (a0))) = 0) → wq_Me_bufferState_44 g post  S (0) ((10 * ((S.2.1 3) (Int32.toNatClampNeg (a0)))))) ∧ (¬ (((S.2.1 4) (Int32.toNatClampNeg (a0))) = 0) → wq_Me_bufferState_44 g post  S (1) ((10 * ((S.2.1 3) (Int32.toNatClampNeg (a0))))))))))))
set_option maxRecDepth 100000 in
set_option maxHeartbeats 4000000 in
theorem c_Me_bufferState (l : Launch) (g : Gm) (sz : Nat) (S : StC) (a0 : Int32) (post : Int32 → StC → Prop) (hw : wp_Me_bufferState g post S a0) : Met l y_Me_bufferState (.code y_Me_bufferState b_Me_bufferState 2 (some .int) :: w_C) (rmM 0 0) (va_Pc [.ref (g.2.2 8), .int (a0)] (PC g sz S)) (va_Qi post (BC g (AC g sz S)) (AC g sz S)) 0 0 (AC g sz S) := by
  refine ofC_i (by decide) (Nat.le_of_ble_eq_true rfl) (fun p e s m args below meth c Q A H locs ls hx hb hml hts hown hK hA hC hN kr hl hP hD hS => ?_)
  have hl : lv_has ls 2 [(0, .ref (g.2.2 8)), (1, .int (a0))] := hl
  unfold wp_Me_bufferState at hw
  have J44 : ∀ (S : StC) (t0 : Int32) (t1 : Int32) (H : Heap) (locs : List Loc) (ls : Array Slot), wq_Me_bufferState_44 g post  S t0 t1 → lv_has ls 2 [] → va_P g.1 classes (wC g S) H → va_D A (wC g S) → va_S A s.heap H locs → W p l e (rmM 0 0) s m args below meth c H locs 0 0 Q (F0 m 44 ls [.int (t0), .int (t1)]) := by
    intro S t0 t1 H locs ls hw hl hP hD hS
    unfold wq_Me_bufferState_44 at hw
    refine lv_iadd hx hb d_Me_bufferState_44 ?_
    exact kr ((t1 + t0)) S _ _ _ _ hw hP hD hS d_Me_bufferState_45
  have J19 : ∀ (S : StC)  (H : Heap) (locs : List Loc) (ls : Array Slot), wq_Me_bufferState_19 g post  S  → lv_has ls 2 [] → va_P g.1 classes (wC g S) H → va_D A (wC g S) → va_S A s.heap H locs → W p l e (rmM 0 0) s m args below meth c H locs 0 0 Q (F0 m 19 ls []) := by
    intro S  H locs ls hw hl hP hD hS
    unfold wq_Me_bufferState_19 at hw
    refine lv_iconst (v := -1) hx hb d_Me_bufferState_19 (by decide) ?_
    exact kr ((-1)) S _ _ _ _ hw hP hD hS d_Me_bufferState_20
  refine lv_iload_n hx hb d_Me_bufferState_0 rfl (lv_at hl 1 rfl) ?_
  refine lv_if_lt hx hb d_Me_bufferState_1 (tgt := 19) (by decide) (fun hc => ?_) (fun hc => ?_)
  · have hw := hw.1 hc
    exact J19 S  _ _ _ hw (lv_sub hl [] rfl) hP hD hS
  · have hw := hw.2 hc
    refine lv_iload_n hx hb d_Me_bufferState_4 rfl (lv_at hl 1 rfl) ?_
    refine lv_iconst (v := 2) hx hb d_Me_bufferState_5 (by decide) ?_
    refine lv_icmp_ge hx hb d_Me_bufferState_6 (tgt := 19) (by decide) (fun hc => ?_) (fun hc => ?_)
    · have hw := hw.1 hc
      exact J19 S  _ _ _ hw (lv_sub hl [] rfl) hP hD hS
    · have hw := hw.2 hc
      refine lv_aload_n hx hb d_Me_bufferState_9 rfl (lv_at hl 0 rfl) ?_
      refine va_get (D := g.1) (ci := 7) (v := .ref (g.2.2 11)) (C := R_Me) (T := F_Me) (N := 6) hx hb hts hin_Me hown hK hP 8 rfl rfl 3 (by decide) (hts _ k_C_81) (fun _ h9 => h9) rfl d_Me_bufferState_10 ?_
      refine lv_iload_n hx hb d_Me_bufferState_13 rfl (lv_at hl 1 rfl) ?_
      obtain ⟨hi, hw⟩ := hw
      refine va_iald (f := (S.2.1 3)) hx hb hK hP 11 0 rfl rfl hi d_Me_bufferState_14 ?_
      refine lv_iconst (v := -1) hx hb d_Me_bufferState_15 (by decide) ?_
      refine lv_icmp_ne hx hb d_Me_bufferState_16 (tgt := 21) (by decide) (fun hc => ?_) (fun hc => ?_)
      · have hw := hw.2 hc
        refine lv_bipush (v := 10) hx hb d_Me_bufferState_21 (by decide) ?_
        refine lv_aload_n hx hb d_Me_bufferState_23 rfl (lv_at hl 0 rfl) ?_
        refine va_get (D := g.1) (ci := 7) (v := .ref (g.2.2 11)) (C := R_Me) (T := F_Me) (N := 6) hx hb hts hin_Me hown hK hP 8 rfl rfl 3 (by decide) (hts _ k_C_81) (fun _ h9 => h9) rfl d_Me_bufferState_24 ?_
        refine lv_iload_n hx hb d_Me_bufferState_27 rfl (lv_at hl 1 rfl) ?_
        obtain ⟨hi, hw⟩ := hw
        refine va_iald (f := (S.2.1 3)) hx hb hK hP 11 0 rfl rfl hi d_Me_bufferState_28 ?_
        refine lv_imul hx hb d_Me_bufferState_29 ?_
        refine lv_aload_n hx hb d_Me_bufferState_30 rfl (lv_at hl 0 rfl) ?_
        refine va_get (D := g.1) (ci := 7) (v := .ref (g.2.2 12)) (C := R_Me) (T := F_Me) (N := 6) hx hb hts hin_Me hown hK hP 8 rfl rfl 4 (by decide) (hts _ k_C_82) (fun _ h9 => h9) rfl d_Me_bufferState_31 ?_
        refine lv_iload_n hx hb d_Me_bufferState_34 rfl (lv_at hl 1 rfl) ?_
        obtain ⟨hi, hw⟩ := hw
        refine va_zald (f := (S.2.1 4)) hx hb hK hP 12 1 rfl rfl hi d_Me_bufferState_35 ?_
        refine lv_if_eq hx hb d_Me_bufferState_36 (tgt := 43) (by decide) (fun hc => ?_) (fun hc => ?_)
        · have hw := hw.1 hc
          refine lv_iconst (v := 0) hx hb d_Me_bufferState_43 (by decide) ?_
          exact J44 S (0) ((10 * ((S.2.1 3) (Int32.toNatClampNeg (a0))))) _ _ _ hw (lv_sub hl [] rfl) hP hD hS
        · have hw := hw.2 hc
          refine lv_iconst (v := 1) hx hb d_Me_bufferState_39 (by decide) ?_
          refine lv_goto hx hb d_Me_bufferState_40 (tgt := 44) (by decide) ?_
          exact J44 S (1) ((10 * ((S.2.1 3) (Int32.toNatClampNeg (a0))))) _ _ _ hw (lv_sub hl [] rfl) hP hD hS
      · have hw := hw.1 hc
        exact J19 S  _ _ _ hw (lv_sub hl [] rfl) hP hD hS
theorem d_Me_bufferWith_0 : decode b_Me_bufferWith 0 = .ok (.iconst 0, 1) := by decide +kernel
theorem d_Me_bufferWith_1 : decode b_Me_bufferWith 1 = .ok (.istore_n 2, 1) := by decide +kernel
theorem d_Me_bufferWith_2 : decode b_Me_bufferWith 2 = .ok (.iload_n 2, 1) := by decide +kernel
theorem d_Me_bufferWith_3 : decode b_Me_bufferWith 3 = .ok (.iconst 2, 1) := by decide +kernel
theorem d_Me_bufferWith_4 : decode b_Me_bufferWith 4 = .ok (.if_icmp .ge 21, 3) := by decide +kernel
theorem d_Me_bufferWith_7 : decode b_Me_bufferWith 7 = .ok (.aload_n 0, 1) := by decide +kernel
theorem d_Me_bufferWith_8 : decode b_Me_bufferWith 8 = .ok (.getfield 20, 3) := by decide +kernel
theorem d_Me_bufferWith_11 : decode b_Me_bufferWith 11 = .ok (.iload_n 2, 1) := by decide +kernel
theorem d_Me_bufferWith_12 : decode b_Me_bufferWith 12 = .ok (.iaload, 1) := by decide +kernel
theorem d_Me_bufferWith_13 : decode b_Me_bufferWith 13 = .ok (.iload_n 1, 1) := by decide +kernel
theorem d_Me_bufferWith_14 : decode b_Me_bufferWith 14 = .ok (.if_icmp .ne 5, 3) := by decide +kernel
theorem d_Me_bufferWith_17 : decode b_Me_bufferWith 17 = .ok (.iload_n 2, 1) := by decide +kernel
theorem d_Me_bufferWith_18 : decode b_Me_bufferWith 18 = .ok (.ireturn, 1) := by decide +kernel
theorem d_Me_bufferWith_19 : decode b_Me_bufferWith 19 = .ok (.iinc 2 1, 3) := by decide +kernel
theorem d_Me_bufferWith_22 : decode b_Me_bufferWith 22 = .ok (.goto (-20), 3) := by decide +kernel
theorem d_Me_bufferWith_25 : decode b_Me_bufferWith 25 = .ok (.iconst (-1), 1) := by decide +kernel
theorem d_Me_bufferWith_26 : decode b_Me_bufferWith 26 = .ok (.ireturn, 1) := by decide +kernel
def wq_Me_bufferWith_2 (g : Gm) (post : Int32 → StC → Prop)  : Nat → StC → Int32 → Int32 → Prop
  | 0, _, _, _ => False
  | n2 + 1, S, x1, x2 =>
    ((2 ≤ x2) → post ((-1)) S) ∧ (¬ (2 ≤ x2) → (vp_in x2 2) ∧ (((((S.2.1 3) (Int32.toNatClampNeg (x2))) = x1) → post (x2) S) ∧ (¬ (((S.2.1 3) (Int32.toNatClampNeg (x2))) = x1) → (wq_Me_bufferWith_2 g post  n2) S (x1) ((x2 + 1)))))
def wp_Me_bufferWith (g : Gm) (post : Int32 → StC → Prop) (S : StC) (a0 : Int32) : Prop :=
  ∃ nn : Nat, wq_Me_bufferWith_2 g post  nn S (a0) (0)
set_option maxRecDepth 100000 in
set_option maxHeartbeats 4000000 in
theorem c_Me_bufferWith (l : Launch) (g : Gm) (sz : Nat) (S : StC) (a0 : Int32) (post : Int32 → StC → Prop) (hw : wp_Me_bufferWith g post S a0) : Met l y_Me_bufferWith (.code y_Me_bufferWith b_Me_bufferWith 3 (some .int) :: w_C) (rmM 0 0) (va_Pc [.ref (g.2.2 8), .int (a0)] (PC g sz S)) (va_Qi post (BC g (AC g sz S)) (AC g sz S)) 0 0 (AC g sz S) := by
  refine ofC_i (by decide) (Nat.le_of_ble_eq_true rfl) (fun p e s m args below meth c Q A H locs ls hx hb hml hts hown hK hA hC hN kr hl hP hD hS => ?_)
  have hl : lv_has ls 3 [(0, .ref (g.2.2 8)), (1, .int (a0))] := hl
  unfold wp_Me_bufferWith at hw
  have J2 : ∀ (n2 : Nat), ∀ (S : StC) (x1 : Int32) (x2 : Int32) (H : Heap) (locs : List Loc) (ls : Array Slot), wq_Me_bufferWith_2 g post  n2 S x1 x2 → lv_has ls 3 [(0, .ref (g.2.2 8)), (1, .int (x1)), (2, .int (x2))] → va_P g.1 classes (wC g S) H → va_D A (wC g S) → va_S A s.heap H locs → W p l e (rmM 0 0) s m args below meth c H locs 0 0 Q (F0 m 2 ls []) := by
    intro n2
    induction n2 with
    | zero => intro S x1 x2 H locs ls hw; exact hw.elim
    | succ n2 ih2 =>
      intro S x1 x2 H locs ls hw hl hP hD hS
      unfold wq_Me_bufferWith_2 at hw
      refine lv_iload_n hx hb d_Me_bufferWith_2 rfl (lv_at hl 2 rfl) ?_
      refine lv_iconst (v := 2) hx hb d_Me_bufferWith_3 (by decide) ?_
      refine lv_icmp_ge hx hb d_Me_bufferWith_4 (tgt := 25) (by decide) (fun hc => ?_) (fun hc => ?_)
      · have hw := hw.1 hc
        refine lv_iconst (v := -1) hx hb d_Me_bufferWith_25 (by decide) ?_
        exact kr ((-1)) S _ _ _ _ hw hP hD hS d_Me_bufferWith_26
      · have hw := hw.2 hc
        refine lv_aload_n hx hb d_Me_bufferWith_7 rfl (lv_at hl 0 rfl) ?_
        refine va_get (D := g.1) (ci := 7) (v := .ref (g.2.2 11)) (C := R_Me) (T := F_Me) (N := 6) hx hb hts hin_Me hown hK hP 8 rfl rfl 3 (by decide) (hts _ k_C_81) (fun _ h9 => h9) rfl d_Me_bufferWith_8 ?_
        refine lv_iload_n hx hb d_Me_bufferWith_11 rfl (lv_at hl 2 rfl) ?_
        obtain ⟨hi, hw⟩ := hw
        refine va_iald (f := (S.2.1 3)) hx hb hK hP 11 0 rfl rfl hi d_Me_bufferWith_12 ?_
        refine lv_iload_n hx hb d_Me_bufferWith_13 rfl (lv_at hl 1 rfl) ?_
        refine lv_icmp_ne hx hb d_Me_bufferWith_14 (tgt := 19) (by decide) (fun hc => ?_) (fun hc => ?_)
        · have hw := hw.2 hc
          refine lv_iinc (k := 2) (v := (x2 + 1)) (lv' := [(2, .int ((x2 + 1))), (0, .ref (g.2.2 8)), (1, .int (x1))]) hx hb d_Me_bufferWith_19 hl rfl rfl (by decide) rfl (fun ls hl => ?_)
          refine lv_goto hx hb d_Me_bufferWith_22 (tgt := 2) (by decide) ?_
          exact ih2 S (x1) ((x2 + 1)) _ _ _ hw (lv_sub hl [1, 2, 0] rfl) hP hD hS
        · have hw := hw.1 hc
          refine lv_iload_n hx hb d_Me_bufferWith_17 rfl (lv_at hl 2 rfl) ?_
          exact kr (x2) S _ _ _ _ hw hP hD hS d_Me_bufferWith_18
  refine lv_iconst (v := 0) hx hb d_Me_bufferWith_0 (by decide) ?_
  refine lv_istore_n (lv' := [(2, .int (0)), (0, .ref (g.2.2 8)), (1, .int (a0))]) hx hb d_Me_bufferWith_1 rfl hl (by decide) rfl (fun ls hl => ?_)
  obtain ⟨nn, hw⟩ := hw
  exact J2 nn S (a0) (0) _ _ _ hw (lv_sub hl [1, 2, 0] rfl) hP hD hS
theorem d_Me_writeIfUpdated_0 : decode b_Me_writeIfUpdated 0 = .ok (.aload_n 0, 1) := by decide +kernel
theorem d_Me_writeIfUpdated_1 : decode b_Me_writeIfUpdated 1 = .ok (.getfield 20, 3) := by decide +kernel
theorem d_Me_writeIfUpdated_4 : decode b_Me_writeIfUpdated 4 = .ok (.iload_n 1, 1) := by decide +kernel
theorem d_Me_writeIfUpdated_5 : decode b_Me_writeIfUpdated 5 = .ok (.iaload, 1) := by decide +kernel
theorem d_Me_writeIfUpdated_6 : decode b_Me_writeIfUpdated 6 = .ok (.istore_n 2, 1) := by decide +kernel
theorem d_Me_writeIfUpdated_7 : decode b_Me_writeIfUpdated 7 = .ok (.aload_n 0, 1) := by decide +kernel
theorem d_Me_writeIfUpdated_8 : decode b_Me_writeIfUpdated 8 = .ok (.getfield 23, 3) := by decide +kernel
theorem d_Me_writeIfUpdated_11 : decode b_Me_writeIfUpdated 11 = .ok (.iload_n 1, 1) := by decide +kernel
theorem d_Me_writeIfUpdated_12 : decode b_Me_writeIfUpdated 12 = .ok (.baload, 1) := by decide +kernel
theorem d_Me_writeIfUpdated_13 : decode b_Me_writeIfUpdated 13 = .ok (.ifCond .eq 29, 3) := by decide +kernel
theorem d_Me_writeIfUpdated_16 : decode b_Me_writeIfUpdated 16 = .ok (.iload_n 2, 1) := by decide +kernel
theorem d_Me_writeIfUpdated_17 : decode b_Me_writeIfUpdated 17 = .ok (.iconst (-1), 1) := by decide +kernel
theorem d_Me_writeIfUpdated_18 : decode b_Me_writeIfUpdated 18 = .ok (.if_icmp .eq 24, 3) := by decide +kernel
theorem d_Me_writeIfUpdated_21 : decode b_Me_writeIfUpdated 21 = .ok (.aload_n 0, 1) := by decide +kernel
theorem d_Me_writeIfUpdated_22 : decode b_Me_writeIfUpdated 22 = .ok (.getfield 9, 3) := by decide +kernel
theorem d_Me_writeIfUpdated_25 : decode b_Me_writeIfUpdated 25 = .ok (.getstatic 58, 3) := by decide +kernel
theorem d_Me_writeIfUpdated_28 : decode b_Me_writeIfUpdated 28 = .ok (.iload_n 1, 1) := by decide +kernel
theorem d_Me_writeIfUpdated_29 : decode b_Me_writeIfUpdated 29 = .ok (.iaload, 1) := by decide +kernel
theorem d_Me_writeIfUpdated_30 : decode b_Me_writeIfUpdated 30 = .ok (.aload_n 0, 1) := by decide +kernel
theorem d_Me_writeIfUpdated_31 : decode b_Me_writeIfUpdated 31 = .ok (.getfield 17, 3) := by decide +kernel
theorem d_Me_writeIfUpdated_34 : decode b_Me_writeIfUpdated 34 = .ok (.iload_n 2, 1) := by decide +kernel
theorem d_Me_writeIfUpdated_35 : decode b_Me_writeIfUpdated 35 = .ok (.aaload, 1) := by decide +kernel
theorem d_Me_writeIfUpdated_36 : decode b_Me_writeIfUpdated 36 = .ok (.iconst 0, 1) := by decide +kernel
theorem d_Me_writeIfUpdated_37 : decode b_Me_writeIfUpdated 37 = .ok (.bipush 16, 2) := by decide +kernel
theorem d_Me_writeIfUpdated_39 : decode b_Me_writeIfUpdated 39 = .ok (.invokestatic 61, 3) := by decide +kernel
theorem d_Me_writeIfUpdated_42 : decode b_Me_writeIfUpdated 42 = .ok (.aload_n 0, 1) := by decide +kernel
theorem d_Me_writeIfUpdated_43 : decode b_Me_writeIfUpdated 43 = .ok (.getfield 23, 3) := by decide +kernel
theorem d_Me_writeIfUpdated_46 : decode b_Me_writeIfUpdated 46 = .ok (.iload_n 1, 1) := by decide +kernel
theorem d_Me_writeIfUpdated_47 : decode b_Me_writeIfUpdated 47 = .ok (.iconst 0, 1) := by decide +kernel
theorem d_Me_writeIfUpdated_48 : decode b_Me_writeIfUpdated 48 = .ok (.bastore, 1) := by decide +kernel
theorem d_Me_writeIfUpdated_49 : decode b_Me_writeIfUpdated 49 = .ok (.return_, 1) := by decide +kernel
def wq_Me_writeIfUpdated_42 (g : Gm) (post : StC → Prop)  (S : StC) (x1 : Int32) : Prop :=
  (vp_in x1 2) ∧ (post (S.1, (va_up S.2.1 4 (upd (S.2.1 4) (Int32.toNatClampNeg (x1)) (vp_nar .boolean (0)))), S.2.2))
def wp_Me_writeIfUpdated (g : Gm) (post : StC → Prop) (S : StC) (a0 : Int32) : Prop :=
  (vp_in a0 2) ∧ ((vp_in a0 2) ∧ (((((S.2.1 4) (Int32.toNatClampNeg (a0))) = 0) → wq_Me_writeIfUpdated_42 g post  S (a0)) ∧ (¬ (((S.2.1 4) (Int32.toNatClampNeg (a0))) = 0) → ((((S.2.1 3) (Int32.toNatClampNeg (a0))) = (-1)) → wq_Me_writeIfUpdated_42 g post  S (a0)) ∧ (¬ (((S.2.1 3) (Int32.toNatClampNeg (a0))) = (-1)) → (vp_in a0 2) ∧ ((vp_in ((S.2.1 3) (Int32.toNatClampNeg (a0))) 4) ∧ (∃ (y1 : Nat), (((S.2.2.2.2.1 3) (Int32.toNatClampNeg (((S.2.1 3) (Int32.toNatClampNeg (a0)))))) = some y1) ∧ (∃ (n3 : Nat) (f4 : Nat → Int32), (y1 ∈ S.2.2.2.2.2.1) ∧ (S.2.2.2.2.2.2 y1 = .inl (g.2.1 0, n3, .inl f4)) ∧ (cpyOK 96 n3 (bufE.getD (Int32.toNatClampNeg (a0)) 0) 0 16) ∧ (wq_Me_writeIfUpdated_42 g post  (S.1, S.2.1, S.2.2.1, S.2.2.2.1, S.2.2.2.2.1, S.2.2.2.2.2.1, (va_up S.2.2.2.2.2.2 y1 (.inl (g.2.1 0, n3, .inl (va_cpy (S.2.1 2) f4 (Int32.toNatClampNeg ((bufE.getD (Int32.toNatClampNeg (a0)) 0))) (Int32.toNatClampNeg (0)) (Int32.toNatClampNeg (16))))))) (a0)))))))))
set_option maxRecDepth 100000 in
set_option maxHeartbeats 4000000 in
theorem c_Me_writeIfUpdated (l : Launch) (g : Gm) (sz : Nat) (S : StC) (a0 : Int32) (post : StC → Prop) (hw : wp_Me_writeIfUpdated g post S a0) : Met l y_Me_writeIfUpdated (.code y_Me_writeIfUpdated b_Me_writeIfUpdated 3 none :: w_C) (rmM 1 40) (va_Pc [.ref (g.2.2 8), .int (a0)] (PC g sz S)) (va_Qv post (BC g (AC g sz S)) (AC g sz S)) 0 0 (AC g sz S) := by
  refine ofC_v (by decide) (Nat.le_of_ble_eq_true rfl) (fun p e s m args below meth c Q A H locs ls hx hb hml hts hown hK hA hC hN kr hl hP hD hS => ?_)
  have hl : lv_has ls 3 [(0, .ref (g.2.2 8)), (1, .int (a0))] := hl
  unfold wp_Me_writeIfUpdated at hw
  have J42 : ∀ (S : StC) (x1 : Int32) (H : Heap) (locs : List Loc) (ls : Array Slot), wq_Me_writeIfUpdated_42 g post  S x1 → lv_has ls 3 [(0, .ref (g.2.2 8)), (1, .int (x1))] → va_P g.1 classes (wC g S) H → va_D A (wC g S) → va_S A s.heap H locs → W p l e (rmM 1 40) s m args below meth c H locs 0 0 Q (F0 m 42 ls []) := by
    intro S x1 H locs ls hw hl hP hD hS
    unfold wq_Me_writeIfUpdated_42 at hw
    refine lv_aload_n hx hb d_Me_writeIfUpdated_42 rfl (lv_at hl 0 rfl) ?_
    refine va_get (D := g.1) (ci := 7) (v := .ref (g.2.2 12)) (C := R_Me) (T := F_Me) (N := 6) hx hb hts hin_Me hown hK hP 8 rfl rfl 4 (by decide) (hts _ k_C_82) (fun _ h9 => h9) rfl d_Me_writeIfUpdated_43 ?_
    refine lv_iload_n hx hb d_Me_writeIfUpdated_46 rfl (lv_at hl 1 rfl) ?_
    refine lv_iconst (v := 0) hx hb d_Me_writeIfUpdated_47 (by decide) ?_
    obtain ⟨hi, hw⟩ := hw
    refine za_C (S2 := (S.1, (va_up S.2.1 4 (upd (S.2.1 4) (Int32.toNatClampNeg (x1)) (vp_nar .boolean (0)))), S.2.2)) (f := (S.2.1 4)) hx hb hK hP hD hS 12 rfl hi d_Me_writeIfUpdated_48 (sA_C_4 g _ _) (fun H locs hP hD hS => ?_)
    exact kr (S.1, (va_up S.2.1 4 (upd (S.2.1 4) (Int32.toNatClampNeg (x1)) (vp_nar .boolean (0)))), S.2.2) _ _ _ _ hw hP hD hS d_Me_writeIfUpdated_49
  refine lv_aload_n hx hb d_Me_writeIfUpdated_0 rfl (lv_at hl 0 rfl) ?_
  refine va_get (D := g.1) (ci := 7) (v := .ref (g.2.2 11)) (C := R_Me) (T := F_Me) (N := 6) hx hb hts hin_Me hown hK hP 8 rfl rfl 3 (by decide) (hts _ k_C_81) (fun _ h9 => h9) rfl d_Me_writeIfUpdated_1 ?_
  refine lv_iload_n hx hb d_Me_writeIfUpdated_4 rfl (lv_at hl 1 rfl) ?_
  obtain ⟨hi, hw⟩ := hw
  refine va_iald (f := (S.2.1 3)) hx hb hK hP 11 0 rfl rfl hi d_Me_writeIfUpdated_5 ?_
  refine lv_istore_n (lv' := [(2, .int (((S.2.1 3) (Int32.toNatClampNeg (a0))))), (0, .ref (g.2.2 8)), (1, .int (a0))]) hx hb d_Me_writeIfUpdated_6 rfl hl (by decide) rfl (fun ls hl => ?_)
  refine lv_aload_n hx hb d_Me_writeIfUpdated_7 rfl (lv_at hl 1 rfl) ?_
  refine va_get (D := g.1) (ci := 7) (v := .ref (g.2.2 12)) (C := R_Me) (T := F_Me) (N := 6) hx hb hts hin_Me hown hK hP 8 rfl rfl 4 (by decide) (hts _ k_C_82) (fun _ h9 => h9) rfl d_Me_writeIfUpdated_8 ?_
  refine lv_iload_n hx hb d_Me_writeIfUpdated_11 rfl (lv_at hl 2 rfl) ?_
  obtain ⟨hi, hw⟩ := hw
  refine va_zald (f := (S.2.1 4)) hx hb hK hP 12 1 rfl rfl hi d_Me_writeIfUpdated_12 ?_
  refine lv_if_eq hx hb d_Me_writeIfUpdated_13 (tgt := 42) (by decide) (fun hc => ?_) (fun hc => ?_)
  · have hw := hw.1 hc
    exact J42 S (a0) _ _ _ hw (lv_sub hl [1, 2] rfl) hP hD hS
  · have hw := hw.2 hc
    refine lv_iload_n hx hb d_Me_writeIfUpdated_16 rfl (lv_at hl 0 rfl) ?_
    refine lv_iconst (v := -1) hx hb d_Me_writeIfUpdated_17 (by decide) ?_
    refine lv_icmp_eq hx hb d_Me_writeIfUpdated_18 (tgt := 42) (by decide) (fun hc => ?_) (fun hc => ?_)
    · have hw := hw.1 hc
      exact J42 S (a0) _ _ _ hw (lv_sub hl [1, 2] rfl) hP hD hS
    · have hw := hw.2 hc
      refine lv_aload_n hx hb d_Me_writeIfUpdated_21 rfl (lv_at hl 1 rfl) ?_
      refine va_get (D := g.1) (ci := 7) (v := .ref (g.2.2 9)) (C := R_Me) (T := F_Me) (N := 6) hx hb hts hin_Me hown hK hP 8 rfl rfl 0 (by decide) (hts _ k_C_78) (fun _ h9 => h9) rfl d_Me_writeIfUpdated_22 ?_
      refine va_getsN (C := "WordSmith") (n := "BUFFER_ADDRESSES") (d := "[I") (v := .ref (g.2.2 91)) hx hb hC.1.2.2.2.1 hS hown (va_Nw.use rfl (hN.1 _ kn_C_37)) (fun _ h9 => h9) d_Me_writeIfUpdated_25 ?_
      refine lv_iload_n hx hb d_Me_writeIfUpdated_28 rfl (lv_at hl 2 rfl) ?_
      obtain ⟨hi, hw⟩ := hw
      refine va_ti (v := .int (bufE.getD (Int32.toNatClampNeg (a0)) 0)) hx hb hC.1.2.2.2.2.1 hS hi rfl d_Me_writeIfUpdated_29 ?_
      refine lv_aload_n hx hb d_Me_writeIfUpdated_30 rfl (lv_at hl 1 rfl) ?_
      refine va_get (D := g.1) (ci := 7) (v := .ref (g.2.2 10)) (C := R_Me) (T := F_Me) (N := 6) hx hb hts hin_Me hown hK hP 8 rfl rfl 2 (by decide) (hts _ k_C_80) (fun _ h9 => h9) rfl d_Me_writeIfUpdated_31 ?_
      refine lv_iload_n hx hb d_Me_writeIfUpdated_34 rfl (lv_at hl 0 rfl) ?_
      obtain ⟨hi, hw⟩ := hw
      refine aldg_C (f := (S.2.2.2.2.1 3)) hx hb hK hP 10 rfl hi d_Me_writeIfUpdated_35 ?_
      obtain ⟨y1, hy2, hw⟩ := hw
      refine W_rf hy2 ?_
      refine lv_iconst (v := 0) hx hb d_Me_writeIfUpdated_36 (by decide) ?_
      refine lv_bipush (v := 16) hx hb d_Me_writeIfUpdated_37 (by decide) ?_
      obtain ⟨n3, f4, ha5, hf6, hz7, hw⟩ := hw
      refine cpyOut_C (S := S) (f := f4) (fo := (S.2.1 2)) hx hb (hml.trans hl.1.symm) hown (hts _ k_C_685) (hts _ k_C_188) (hts _ k_C_187) (hts _ k_C_15) hK hP hD hS ha5 hf6 hz7 rfl (Nat.le_of_ble_eq_true rfl) (Nat.le_of_ble_eq_true rfl) d_Me_writeIfUpdated_39 (fun H locs hP hD hS => ?_)
      have hP : va_P g.1 classes (wC g (S.1, S.2.1, S.2.2.1, S.2.2.2.1, S.2.2.2.2.1, S.2.2.2.2.2.1, (va_up S.2.2.2.2.2.2 y1 (.inl (g.2.1 0, n3, .inl (va_cpy (S.2.1 2) f4 (Int32.toNatClampNeg ((bufE.getD (Int32.toNatClampNeg (a0)) 0))) (Int32.toNatClampNeg (0)) (Int32.toNatClampNeg (16)))))))) H := hP
      have hD : va_D A (wC g (S.1, S.2.1, S.2.2.1, S.2.2.2.1, S.2.2.2.2.1, S.2.2.2.2.2.1, (va_up S.2.2.2.2.2.2 y1 (.inl (g.2.1 0, n3, .inl (va_cpy (S.2.1 2) f4 (Int32.toNatClampNeg ((bufE.getD (Int32.toNatClampNeg (a0)) 0))) (Int32.toNatClampNeg (0)) (Int32.toNatClampNeg (16)))))))) := hD
      exact J42 (S.1, S.2.1, S.2.2.1, S.2.2.2.1, S.2.2.2.2.1, S.2.2.2.2.2.1, (va_up S.2.2.2.2.2.2 y1 (.inl (g.2.1 0, n3, .inl (va_cpy (S.2.1 2) f4 (Int32.toNatClampNeg ((bufE.getD (Int32.toNatClampNeg (a0)) 0))) (Int32.toNatClampNeg (0)) (Int32.toNatClampNeg (16))))))) (a0) _ _ _ hw (lv_sub hl [1, 2] rfl) hP hD hS
theorem d_Me_readInto_0 : decode b_Me_readInto 0 = .ok (.iload_n 2, 1) := by decide +kernel
theorem d_Me_readInto_1 : decode b_Me_readInto 1 = .ok (.ifCond .lt 36, 3) := by decide +kernel
theorem d_Me_readInto_4 : decode b_Me_readInto 4 = .ok (.iload_n 2, 1) := by decide +kernel
theorem d_Me_readInto_5 : decode b_Me_readInto 5 = .ok (.iconst 4, 1) := by decide +kernel
theorem d_Me_readInto_6 : decode b_Me_readInto 6 = .ok (.if_icmp .ge 31, 3) := by decide +kernel
theorem d_Me_readInto_9 : decode b_Me_readInto 9 = .ok (.aload_n 0, 1) := by decide +kernel
theorem d_Me_readInto_10 : decode b_Me_readInto 10 = .ok (.getfield 17, 3) := by decide +kernel
theorem d_Me_readInto_13 : decode b_Me_readInto 13 = .ok (.iload_n 2, 1) := by decide +kernel
theorem d_Me_readInto_14 : decode b_Me_readInto 14 = .ok (.aaload, 1) := by decide +kernel
theorem d_Me_readInto_15 : decode b_Me_readInto 15 = .ok (.iconst 0, 1) := by decide +kernel
theorem d_Me_readInto_16 : decode b_Me_readInto 16 = .ok (.aload_n 0, 1) := by decide +kernel
theorem d_Me_readInto_17 : decode b_Me_readInto 17 = .ok (.getfield 9, 3) := by decide +kernel
theorem d_Me_readInto_20 : decode b_Me_readInto 20 = .ok (.getstatic 58, 3) := by decide +kernel
theorem d_Me_readInto_23 : decode b_Me_readInto 23 = .ok (.iload_n 1, 1) := by decide +kernel
theorem d_Me_readInto_24 : decode b_Me_readInto 24 = .ok (.iaload, 1) := by decide +kernel
theorem d_Me_readInto_25 : decode b_Me_readInto 25 = .ok (.bipush 16, 2) := by decide +kernel
theorem d_Me_readInto_27 : decode b_Me_readInto 27 = .ok (.invokestatic 61, 3) := by decide +kernel
theorem d_Me_readInto_30 : decode b_Me_readInto 30 = .ok (.aload_n 0, 1) := by decide +kernel
theorem d_Me_readInto_31 : decode b_Me_readInto 31 = .ok (.getfield 20, 3) := by decide +kernel
theorem d_Me_readInto_34 : decode b_Me_readInto 34 = .ok (.iload_n 1, 1) := by decide +kernel
theorem d_Me_readInto_35 : decode b_Me_readInto 35 = .ok (.iload_n 2, 1) := by decide +kernel
theorem d_Me_readInto_36 : decode b_Me_readInto 36 = .ok (.iastore, 1) := by decide +kernel
theorem d_Me_readInto_37 : decode b_Me_readInto 37 = .ok (.return_, 1) := by decide +kernel
def wq_Me_readInto_37 (g : Gm) (post : StC → Prop)  (S : StC)  : Prop :=
  post S
def wp_Me_readInto (g : Gm) (post : StC → Prop) (S : StC) (a0 : Int32) (a1 : Int32) : Prop :=
  ((a1 < 0) → wq_Me_readInto_37 g post  S ) ∧ (¬ (a1 < 0) → ((4 ≤ a1) → wq_Me_readInto_37 g post  S ) ∧ (¬ (4 ≤ a1) → (vp_in a1 4) ∧ (∃ (y1 : Nat), (((S.2.2.2.2.1 3) (Int32.toNatClampNeg (a1))) = some y1) ∧ ((vp_in a0 2) ∧ (∃ (n3 : Nat) (f4 : Nat → Int32), (y1 ∈ S.2.2.2.2.2.1) ∧ (S.2.2.2.2.2.2 y1 = .inl (g.2.1 0, n3, .inl f4)) ∧ (cpyOK n3 96 0 (bufE.getD (Int32.toNatClampNeg (a0)) 0) 16) ∧ ((vp_in a0 2) ∧ (wq_Me_readInto_37 g post  (S.1, (va_up (va_up S.2.1 2 (va_cpy f4 (S.2.1 2) (Int32.toNatClampNeg (0)) (Int32.toNatClampNeg ((bufE.getD (Int32.toNatClampNeg (a0)) 0))) (Int32.toNatClampNeg (16)))) 3 (upd (S.2.1 3) (Int32.toNatClampNeg (a0)) (a1))), S.2.2) )))))))
set_option maxRecDepth 100000 in
set_option maxHeartbeats 4000000 in
theorem c_Me_readInto (l : Launch) (g : Gm) (sz : Nat) (S : StC) (a0 : Int32) (a1 : Int32) (post : StC → Prop) (hw : wp_Me_readInto g post S a0 a1) : Met l y_Me_readInto (.code y_Me_readInto b_Me_readInto 3 none :: w_C) (rmM 1 40) (va_Pc [.ref (g.2.2 8), .int (a0), .int (a1)] (PC g sz S)) (va_Qv post (BC g (AC g sz S)) (AC g sz S)) 0 0 (AC g sz S) := by
  refine ofC_v (by decide) (Nat.le_of_ble_eq_true rfl) (fun p e s m args below meth c Q A H locs ls hx hb hml hts hown hK hA hC hN kr hl hP hD hS => ?_)
  have hl : lv_has ls 3 [(0, .ref (g.2.2 8)), (1, .int (a0)), (2, .int (a1))] := hl
  unfold wp_Me_readInto at hw
  have J37 : ∀ (S : StC)  (H : Heap) (locs : List Loc) (ls : Array Slot), wq_Me_readInto_37 g post  S  → lv_has ls 3 [] → va_P g.1 classes (wC g S) H → va_D A (wC g S) → va_S A s.heap H locs → W p l e (rmM 1 40) s m args below meth c H locs 0 0 Q (F0 m 37 ls []) := by
    intro S  H locs ls hw hl hP hD hS
    unfold wq_Me_readInto_37 at hw
    exact kr S _ _ _ _ hw hP hD hS d_Me_readInto_37
  refine lv_iload_n hx hb d_Me_readInto_0 rfl (lv_at hl 2 rfl) ?_
  refine lv_if_lt hx hb d_Me_readInto_1 (tgt := 37) (by decide) (fun hc => ?_) (fun hc => ?_)
  · have hw := hw.1 hc
    exact J37 S  _ _ _ hw (lv_sub hl [] rfl) hP hD hS
  · have hw := hw.2 hc
    refine lv_iload_n hx hb d_Me_readInto_4 rfl (lv_at hl 2 rfl) ?_
    refine lv_iconst (v := 4) hx hb d_Me_readInto_5 (by decide) ?_
    refine lv_icmp_ge hx hb d_Me_readInto_6 (tgt := 37) (by decide) (fun hc => ?_) (fun hc => ?_)
    · have hw := hw.1 hc
      exact J37 S  _ _ _ hw (lv_sub hl [] rfl) hP hD hS
    · have hw := hw.2 hc
      refine lv_aload_n hx hb d_Me_readInto_9 rfl (lv_at hl 0 rfl) ?_
      refine va_get (D := g.1) (ci := 7) (v := .ref (g.2.2 10)) (C := R_Me) (T := F_Me) (N := 6) hx hb hts hin_Me hown hK hP 8 rfl rfl 2 (by decide) (hts _ k_C_80) (fun _ h9 => h9) rfl d_Me_readInto_10 ?_
      refine lv_iload_n hx hb d_Me_readInto_13 rfl (lv_at hl 2 rfl) ?_
      obtain ⟨hi, hw⟩ := hw
      refine aldg_C (f := (S.2.2.2.2.1 3)) hx hb hK hP 10 rfl hi d_Me_readInto_14 ?_
      obtain ⟨y1, hy2, hw⟩ := hw
      refine W_rf hy2 ?_
      refine lv_iconst (v := 0) hx hb d_Me_readInto_15 (by decide) ?_
      refine lv_aload_n hx hb d_Me_readInto_16 rfl (lv_at hl 0 rfl) ?_
      refine va_get (D := g.1) (ci := 7) (v := .ref (g.2.2 9)) (C := R_Me) (T := F_Me) (N := 6) hx hb hts hin_Me hown hK hP 8 rfl rfl 0 (by decide) (hts _ k_C_78) (fun _ h9 => h9) rfl d_Me_readInto_17 ?_
      refine va_getsN (C := "WordSmith") (n := "BUFFER_ADDRESSES") (d := "[I") (v := .ref (g.2.2 91)) hx hb hC.1.2.2.2.1 hS hown (va_Nw.use rfl (hN.1 _ kn_C_37)) (fun _ h9 => h9) d_Me_readInto_20 ?_
      refine lv_iload_n hx hb d_Me_readInto_23 rfl (lv_at hl 1 rfl) ?_
      obtain ⟨hi, hw⟩ := hw
      refine va_ti (v := .int (bufE.getD (Int32.toNatClampNeg (a0)) 0)) hx hb hC.1.2.2.2.2.1 hS hi rfl d_Me_readInto_24 ?_
      refine lv_bipush (v := 16) hx hb d_Me_readInto_25 (by decide) ?_
      obtain ⟨n3, f4, ha5, hf6, hz7, hw⟩ := hw
      refine cpyIn_C (S := S) (S2 := (S.1, (va_up S.2.1 2 (va_cpy f4 (S.2.1 2) (Int32.toNatClampNeg (0)) (Int32.toNatClampNeg ((bufE.getD (Int32.toNatClampNeg (a0)) 0))) (Int32.toNatClampNeg (16)))), S.2.2)) (f := f4) (fo := (S.2.1 2)) hx hb (hml.trans hl.1.symm) hown (hts _ k_C_685) (hts _ k_C_188) (hts _ k_C_187) (hts _ k_C_15) hK hP hD hS ha5 hf6 hz7 rfl (sA_C_2 g _ _) (Nat.le_of_ble_eq_true rfl) (Nat.le_of_ble_eq_true rfl) d_Me_readInto_27 (fun H locs hP hD hS => ?_)
      refine lv_aload_n hx hb d_Me_readInto_30 rfl (lv_at hl 0 rfl) ?_
      refine va_get (D := g.1) (ci := 7) (v := .ref (g.2.2 11)) (C := R_Me) (T := F_Me) (N := 6) hx hb hts hin_Me hown hK hP 8 rfl rfl 3 (by decide) (hts _ k_C_81) (fun _ h9 => h9) rfl d_Me_readInto_31 ?_
      refine lv_iload_n hx hb d_Me_readInto_34 rfl (lv_at hl 1 rfl) ?_
      refine lv_iload_n hx hb d_Me_readInto_35 rfl (lv_at hl 2 rfl) ?_
      obtain ⟨hi, hw⟩ := hw
      refine ia_C (S2 := (S.1, (va_up (va_up S.2.1 2 (va_cpy f4 (S.2.1 2) (Int32.toNatClampNeg (0)) (Int32.toNatClampNeg ((bufE.getD (Int32.toNatClampNeg (a0)) 0))) (Int32.toNatClampNeg (16)))) 3 (upd (S.2.1 3) (Int32.toNatClampNeg (a0)) (a1))), S.2.2)) (f := (S.2.1 3)) hx hb hK hP hD hS 11 rfl hi d_Me_readInto_36 (sA_C_3 g _ _) (fun H locs hP hD hS => ?_)
      exact J37 (S.1, (va_up (va_up S.2.1 2 (va_cpy f4 (S.2.1 2) (Int32.toNatClampNeg (0)) (Int32.toNatClampNeg ((bufE.getD (Int32.toNatClampNeg (a0)) 0))) (Int32.toNatClampNeg (16)))) 3 (upd (S.2.1 3) (Int32.toNatClampNeg (a0)) (a1))), S.2.2)  _ _ _ hw (lv_sub hl [] rfl) hP hD hS
theorem qC_3 {R : Room} {s : State} {args : Array Value} (hts : ∀ w ∈ w_C, w.before args s = true) (hR : (rmM 1 40).frames + 1 ≤ R.frames ∧ 8 + (3 + 11) + (rmM 1 40).locals ≤ R.locals) : CallW R s args "WordSmith$Memory" R_Me 50 y_Me_writeIfUpdated b_Me_writeIfUpdated 3 none (.code y_Me_writeIfUpdated b_Me_writeIfUpdated 3 none :: w_C) (rmM 1 40) 0 0 1 := ⟨callB_of 1 hts (good_C k_C_684) rfl rfl rfl (hts _ k_C_8) (hts _ k_C_682) ⟨by decide +kernel, by decide +kernel, by decide +kernel⟩ hR, hts _ k_C_683, hts _ k_C_805⟩
theorem qC_4 {R : Room} {s : State} {args : Array Value} (hts : ∀ w ∈ w_C, w.before args s = true) (hR : (rmM 1 40).frames + 1 ≤ R.frames ∧ 8 + (3 + 11) + (rmM 1 40).locals ≤ R.locals) : CallW R s args "WordSmith$Memory" R_Me 54 y_Me_readInto b_Me_readInto 3 none (.code y_Me_readInto b_Me_readInto 3 none :: w_C) (rmM 1 40) 0 0 2 := ⟨callB_of 2 hts (good_C k_C_688) rfl rfl rfl (hts _ k_C_8) (hts _ k_C_686) ⟨by decide +kernel, by decide +kernel, by decide +kernel⟩ hR, hts _ k_C_687, hts _ k_C_806⟩
theorem qC_5 {R : Room} {s : State} {args : Array Value} (hts : ∀ w ∈ w_C, w.before args s = true) (hR : (rmM 0 0).frames + 1 ≤ R.frames ∧ 8 + (3 + 11) + (rmM 0 0).locals ≤ R.locals) : CallW R s args "WordSmith$Memory" R_Me 46 y_Me_bufferWith b_Me_bufferWith 3 (some .int) (.code y_Me_bufferWith b_Me_bufferWith 3 (some .int) :: w_C) (rmM 0 0) 0 0 1 := ⟨callB_of 1 hts (good_C k_C_681) rfl rfl rfl (hts _ k_C_8) (hts _ k_C_679) ⟨by decide +kernel, by decide +kernel, by decide +kernel⟩ hR, hts _ k_C_680, hts _ k_C_804⟩
theorem d_Me_tellBlock_0 : decode b_Me_tellBlock 0 = .ok (.aload_n 0, 1) := by decide +kernel
theorem d_Me_tellBlock_1 : decode b_Me_tellBlock 1 = .ok (.iload_n 1, 1) := by decide +kernel
theorem d_Me_tellBlock_2 : decode b_Me_tellBlock 2 = .ok (.invokevirtual 46, 3) := by decide +kernel
theorem d_Me_tellBlock_5 : decode b_Me_tellBlock 5 = .ok (.istore_n 2, 1) := by decide +kernel
theorem d_Me_tellBlock_6 : decode b_Me_tellBlock 6 = .ok (.iload_n 2, 1) := by decide +kernel
theorem d_Me_tellBlock_7 : decode b_Me_tellBlock 7 = .ok (.iconst (-1), 1) := by decide +kernel
theorem d_Me_tellBlock_8 : decode b_Me_tellBlock 8 = .ok (.if_icmp .ne 27, 3) := by decide +kernel
theorem d_Me_tellBlock_11 : decode b_Me_tellBlock 11 = .ok (.aload_n 0, 1) := by decide +kernel
theorem d_Me_tellBlock_12 : decode b_Me_tellBlock 12 = .ok (.getfield 27, 3) := by decide +kernel
theorem d_Me_tellBlock_15 : decode b_Me_tellBlock 15 = .ok (.ifCond .ne 7, 3) := by decide +kernel
theorem d_Me_tellBlock_18 : decode b_Me_tellBlock 18 = .ok (.iconst 1, 1) := by decide +kernel
theorem d_Me_tellBlock_19 : decode b_Me_tellBlock 19 = .ok (.goto 4, 3) := by decide +kernel
theorem d_Me_tellBlock_22 : decode b_Me_tellBlock 22 = .ok (.iconst 0, 1) := by decide +kernel
theorem d_Me_tellBlock_23 : decode b_Me_tellBlock 23 = .ok (.istore_n 2, 1) := by decide +kernel
theorem d_Me_tellBlock_24 : decode b_Me_tellBlock 24 = .ok (.aload_n 0, 1) := by decide +kernel
theorem d_Me_tellBlock_25 : decode b_Me_tellBlock 25 = .ok (.iload_n 2, 1) := by decide +kernel
theorem d_Me_tellBlock_26 : decode b_Me_tellBlock 26 = .ok (.invokevirtual 50, 3) := by decide +kernel
theorem d_Me_tellBlock_29 : decode b_Me_tellBlock 29 = .ok (.aload_n 0, 1) := by decide +kernel
theorem d_Me_tellBlock_30 : decode b_Me_tellBlock 30 = .ok (.iload_n 2, 1) := by decide +kernel
theorem d_Me_tellBlock_31 : decode b_Me_tellBlock 31 = .ok (.iload_n 1, 1) := by decide +kernel
theorem d_Me_tellBlock_32 : decode b_Me_tellBlock 32 = .ok (.invokevirtual 54, 3) := by decide +kernel
theorem d_Me_tellBlock_35 : decode b_Me_tellBlock 35 = .ok (.aload_n 0, 1) := by decide +kernel
theorem d_Me_tellBlock_36 : decode b_Me_tellBlock 36 = .ok (.iload_n 2, 1) := by decide +kernel
theorem d_Me_tellBlock_37 : decode b_Me_tellBlock 37 = .ok (.putfield 27, 3) := by decide +kernel
theorem d_Me_tellBlock_40 : decode b_Me_tellBlock 40 = .ok (.getstatic 58, 3) := by decide +kernel
theorem d_Me_tellBlock_43 : decode b_Me_tellBlock 43 = .ok (.iload_n 2, 1) := by decide +kernel
theorem d_Me_tellBlock_44 : decode b_Me_tellBlock 44 = .ok (.iaload, 1) := by decide +kernel
theorem d_Me_tellBlock_45 : decode b_Me_tellBlock 45 = .ok (.ireturn, 1) := by decide +kernel
def wq_Me_tellBlock_35 (g : Gm) (post : Int32 → StC → Prop)  (S : StC) (x2 : Int32) : Prop :=
  (vp_in x2 2) ∧ (post ((bufE.getD (Int32.toNatClampNeg (x2)) 0)) ((upd S.1 11 (x2)), S.2))
def wq_Me_tellBlock_23 (g : Gm) (post : Int32 → StC → Prop)  (S : StC) (x1 : Int32) (t0 : Int32) : Prop :=
  wp_Me_writeIfUpdated g (fun S1 : StC => (wp_Me_readInto g (fun S2 : StC => (wq_Me_tellBlock_35 g post  S2 (t0))) S1 (t0) (x1))) S (t0)
def wp_Me_tellBlock (g : Gm) (post : Int32 → StC → Prop) (S : StC) (a0 : Int32) : Prop :=
  wp_Me_bufferWith g (fun (r4 : Int32) (S3 : StC) => (((r4 = (-1)) → (((S3.1 11) = 0) → wq_Me_tellBlock_23 g post  S3 (a0) (1)) ∧ (¬ ((S3.1 11) = 0) → wq_Me_tellBlock_23 g post  S3 (a0) (0))) ∧ (¬ (r4 = (-1)) → wq_Me_tellBlock_35 g post  S3 (r4)))) S (a0)
set_option maxRecDepth 100000 in
set_option maxHeartbeats 4000000 in
theorem c_Me_tellBlock (l : Launch) (g : Gm) (sz : Nat) (S : StC) (a0 : Int32) (post : Int32 → StC → Prop) (hw : wp_Me_tellBlock g post S a0) : Met l y_Me_tellBlock (.code y_Me_tellBlock b_Me_tellBlock 3 (some .int) :: w_C) (rmM 2 62) (va_Pc [.ref (g.2.2 8), .int (a0)] (PC g sz S)) (va_Qi post (BC g (AC g sz S)) (AC g sz S)) 0 0 (AC g sz S) := by
  refine ofC_i (by decide) (Nat.le_of_ble_eq_true rfl) (fun p e s m args below meth c Q A H locs ls hx hb hml hts hown hK hA hC hN kr hl hP hD hS => ?_)
  have hl : lv_has ls 3 [(0, .ref (g.2.2 8)), (1, .int (a0))] := hl
  unfold wp_Me_tellBlock at hw
  have J35 : ∀ (S : StC) (x2 : Int32) (H : Heap) (locs : List Loc) (ls : Array Slot), wq_Me_tellBlock_35 g post  S x2 → lv_has ls 3 [(0, .ref (g.2.2 8)), (2, .int (x2))] → va_P g.1 classes (wC g S) H → va_D A (wC g S) → va_S A s.heap H locs → W p l e (rmM 2 62) s m args below meth c H locs 0 0 Q (F0 m 35 ls []) := by
    intro S x2 H locs ls hw hl hP hD hS
    unfold wq_Me_tellBlock_35 at hw
    refine lv_aload_n hx hb d_Me_tellBlock_35 rfl (lv_at hl 0 rfl) ?_
    refine lv_iload_n hx hb d_Me_tellBlock_36 rfl (lv_at hl 1 rfl) ?_
    refine pt_C (S2 := ((upd S.1 11 (x2)), S.2)) (v := .int (x2)) (C := R_Me) (F := F_Me) (N := 6) (ci := 7) hx hb hts hin_Me t_Me t_Me_ok n_Me hown hK hP hD hS 8 rfl rfl 5 (by decide) rfl rfl rfl (Nat.le_of_ble_eq_true rfl) (sI_C_11 g _ _) k_C_83 d_Me_tellBlock_37 (fun H locs hP hD hS => ?_)
    refine va_getsN (C := "WordSmith") (n := "BUFFER_ADDRESSES") (d := "[I") (v := .ref (g.2.2 91)) hx hb hC.1.2.2.2.1 hS hown (va_Nw.use rfl (hN.1 _ kn_C_37)) (fun _ h9 => h9) d_Me_tellBlock_40 ?_
    refine lv_iload_n hx hb d_Me_tellBlock_43 rfl (lv_at hl 1 rfl) ?_
    obtain ⟨hi, hw⟩ := hw
    refine va_ti (v := .int (bufE.getD (Int32.toNatClampNeg (x2)) 0)) hx hb hC.1.2.2.2.2.1 hS hi rfl d_Me_tellBlock_44 ?_
    exact kr ((bufE.getD (Int32.toNatClampNeg (x2)) 0)) ((upd S.1 11 (x2)), S.2) _ _ _ _ hw hP hD hS d_Me_tellBlock_45
  have J23 : ∀ (S : StC) (x1 : Int32) (t0 : Int32) (H : Heap) (locs : List Loc) (ls : Array Slot), wq_Me_tellBlock_23 g post  S x1 t0 → lv_has ls 3 [(0, .ref (g.2.2 8)), (1, .int (x1))] → va_P g.1 classes (wC g S) H → va_D A (wC g S) → va_S A s.heap H locs → W p l e (rmM 2 62) s m args below meth c H locs 0 0 Q (F0 m 23 ls [.int (t0)]) := by
    intro S x1 t0 H locs ls hw hl hP hD hS
    unfold wq_Me_tellBlock_23 at hw
    refine lv_istore_n (lv' := [(2, .int (t0)), (0, .ref (g.2.2 8)), (1, .int (x1))]) hx hb d_Me_tellBlock_23 rfl hl (by decide) rfl (fun ls hl => ?_)
    refine lv_aload_n hx hb d_Me_tellBlock_24 rfl (lv_at hl 1 rfl) ?_
    refine lv_iload_n hx hb d_Me_tellBlock_25 rfl (lv_at hl 0 rfl) ?_
    refine cC_vV (As := [.int (t0)]) (rest := []) hx hb hml hown hts hK hC hN hP hD hS hA (Nat.zero_le _) (Nat.zero_le _) hl.1 (va_recv (q0 := 8) (ci := 7) (q := (R_Me, F_Me, 6)) hK hP rfl rfl) (qC_3 hts ⟨Nat.le_of_ble_eq_true rfl, Nat.le_of_ble_eq_true rfl⟩) (c_Me_writeIfUpdated l g H.size _ (t0) _ hw) rfl rfl (Nat.le_of_ble_eq_true rfl) d_Me_tellBlock_26 (fun S1 H locs hw hP hD hS => ?_)
    refine lv_aload_n hx hb d_Me_tellBlock_29 rfl (lv_at hl 1 rfl) ?_
    refine lv_iload_n hx hb d_Me_tellBlock_30 rfl (lv_at hl 0 rfl) ?_
    refine lv_iload_n hx hb d_Me_tellBlock_31 rfl (lv_at hl 2 rfl) ?_
    refine cC_vV (As := [.int (t0), .int (x1)]) (rest := []) hx hb hml hown hts hK hC hN hP hD hS hA (Nat.zero_le _) (Nat.zero_le _) hl.1 (va_recv (q0 := 8) (ci := 7) (q := (R_Me, F_Me, 6)) hK hP rfl rfl) (qC_4 hts ⟨Nat.le_of_ble_eq_true rfl, Nat.le_of_ble_eq_true rfl⟩) (c_Me_readInto l g H.size _ (t0) (x1) _ hw) rfl rfl (Nat.le_of_ble_eq_true rfl) d_Me_tellBlock_32 (fun S2 H locs hw hP hD hS => ?_)
    exact J35 S2 (t0) _ _ _ hw (lv_sub hl [1, 0] rfl) hP hD hS
  refine lv_aload_n hx hb d_Me_tellBlock_0 rfl (lv_at hl 0 rfl) ?_
  refine lv_iload_n hx hb d_Me_tellBlock_1 rfl (lv_at hl 1 rfl) ?_
  refine cC_iV (As := [.int (a0)]) (rest := []) hx hb hml hown hts hK hC hN hP hD hS hA (Nat.zero_le _) (Nat.zero_le _) hl.1 (va_recv (q0 := 8) (ci := 7) (q := (R_Me, F_Me, 6)) hK hP rfl rfl) (qC_5 hts ⟨Nat.le_of_ble_eq_true rfl, Nat.le_of_ble_eq_true rfl⟩) (c_Me_bufferWith l g H.size _ (a0) _ hw) rfl rfl (Nat.le_of_ble_eq_true rfl) d_Me_tellBlock_2 (fun r4 S3 H locs hw hP hD hS => ?_)
  refine lv_istore_n (lv' := [(2, .int (r4)), (0, .ref (g.2.2 8)), (1, .int (a0))]) hx hb d_Me_tellBlock_5 rfl hl (by decide) rfl (fun ls hl => ?_)
  refine lv_iload_n hx hb d_Me_tellBlock_6 rfl (lv_at hl 0 rfl) ?_
  refine lv_iconst (v := -1) hx hb d_Me_tellBlock_7 (by decide) ?_
  refine lv_icmp_ne hx hb d_Me_tellBlock_8 (tgt := 35) (by decide) (fun hc => ?_) (fun hc => ?_)
  · have hw := hw.2 hc
    exact J35 S3 (r4) _ _ _ hw (lv_sub hl [1, 0] rfl) hP hD hS
  · have hw := hw.1 hc
    refine lv_aload_n hx hb d_Me_tellBlock_11 rfl (lv_at hl 1 rfl) ?_
    refine va_get (D := g.1) (ci := 7) (v := .int ((S3.1 11))) (C := R_Me) (T := F_Me) (N := 6) hx hb hts hin_Me hown hK hP 8 rfl rfl 5 (by decide) (hts _ k_C_83) (fun _ h9 => h9) rfl d_Me_tellBlock_12 ?_
    refine lv_if_ne hx hb d_Me_tellBlock_15 (tgt := 22) (by decide) (fun hc => ?_) (fun hc => ?_)
    · have hw := hw.2 hc
      refine lv_iconst (v := 0) hx hb d_Me_tellBlock_22 (by decide) ?_
      exact J23 S3 (a0) (0) _ _ _ hw (lv_sub hl [1, 2] rfl) hP hD hS
    · have hw := hw.1 hc
      refine lv_iconst (v := 1) hx hb d_Me_tellBlock_18 (by decide) ?_
      refine lv_goto hx hb d_Me_tellBlock_19 (tgt := 23) (by decide) ?_
      exact J23 S3 (a0) (1) _ _ _ hw (lv_sub hl [1, 2] rfl) hP hD hS
theorem d_Me_update_0 : decode b_Me_update 0 = .ok (.aload_n 0, 1) := by decide +kernel
theorem d_Me_update_1 : decode b_Me_update 1 = .ok (.getfield 27, 3) := by decide +kernel
theorem d_Me_update_4 : decode b_Me_update 4 = .ok (.iconst (-1), 1) := by decide +kernel
theorem d_Me_update_5 : decode b_Me_update 5 = .ok (.if_icmp .eq 13, 3) := by decide +kernel
theorem d_Me_update_8 : decode b_Me_update 8 = .ok (.aload_n 0, 1) := by decide +kernel
theorem d_Me_update_9 : decode b_Me_update 9 = .ok (.getfield 23, 3) := by decide +kernel
theorem d_Me_update_12 : decode b_Me_update 12 = .ok (.aload_n 0, 1) := by decide +kernel
theorem d_Me_update_13 : decode b_Me_update 13 = .ok (.getfield 27, 3) := by decide +kernel
theorem d_Me_update_16 : decode b_Me_update 16 = .ok (.iconst 1, 1) := by decide +kernel
theorem d_Me_update_17 : decode b_Me_update 17 = .ok (.bastore, 1) := by decide +kernel
theorem d_Me_update_18 : decode b_Me_update 18 = .ok (.return_, 1) := by decide +kernel
def wq_Me_update_18 (g : Gm) (post : StC → Prop)  (S : StC)  : Prop :=
  post S
def wp_Me_update (g : Gm) (post : StC → Prop) (S : StC)  : Prop :=
  (((S.1 11) = (-1)) → wq_Me_update_18 g post  S ) ∧ (¬ ((S.1 11) = (-1)) → (vp_in (S.1 11) 2) ∧ (wq_Me_update_18 g post  (S.1, (va_up S.2.1 4 (upd (S.2.1 4) (Int32.toNatClampNeg ((S.1 11))) (vp_nar .boolean (1)))), S.2.2) ))
set_option maxRecDepth 100000 in
set_option maxHeartbeats 4000000 in
theorem c_Me_update (l : Launch) (g : Gm) (sz : Nat) (S : StC)  (post : StC → Prop) (hw : wp_Me_update g post S ) : Met l y_Me_update (.code y_Me_update b_Me_update 1 none :: w_C) (rmM 0 0) (va_Pc [.ref (g.2.2 8)] (PC g sz S)) (va_Qv post (BC g (AC g sz S)) (AC g sz S)) 0 0 (AC g sz S) := by
  refine ofC_v (by decide) (Nat.le_of_ble_eq_true rfl) (fun p e s m args below meth c Q A H locs ls hx hb hml hts hown hK hA hC hN kr hl hP hD hS => ?_)
  have hl : lv_has ls 1 [(0, .ref (g.2.2 8))] := hl
  unfold wp_Me_update at hw
  have J18 : ∀ (S : StC)  (H : Heap) (locs : List Loc) (ls : Array Slot), wq_Me_update_18 g post  S  → lv_has ls 1 [] → va_P g.1 classes (wC g S) H → va_D A (wC g S) → va_S A s.heap H locs → W p l e (rmM 0 0) s m args below meth c H locs 0 0 Q (F0 m 18 ls []) := by
    intro S  H locs ls hw hl hP hD hS
    unfold wq_Me_update_18 at hw
    exact kr S _ _ _ _ hw hP hD hS d_Me_update_18
  refine lv_aload_n hx hb d_Me_update_0 rfl (lv_at hl 0 rfl) ?_
  refine va_get (D := g.1) (ci := 7) (v := .int ((S.1 11))) (C := R_Me) (T := F_Me) (N := 6) hx hb hts hin_Me hown hK hP 8 rfl rfl 5 (by decide) (hts _ k_C_83) (fun _ h9 => h9) rfl d_Me_update_1 ?_
  refine lv_iconst (v := -1) hx hb d_Me_update_4 (by decide) ?_
  refine lv_icmp_eq hx hb d_Me_update_5 (tgt := 18) (by decide) (fun hc => ?_) (fun hc => ?_)
  · have hw := hw.1 hc
    exact J18 S  _ _ _ hw (lv_sub hl [] rfl) hP hD hS
  · have hw := hw.2 hc
    refine lv_aload_n hx hb d_Me_update_8 rfl (lv_at hl 0 rfl) ?_
    refine va_get (D := g.1) (ci := 7) (v := .ref (g.2.2 12)) (C := R_Me) (T := F_Me) (N := 6) hx hb hts hin_Me hown hK hP 8 rfl rfl 4 (by decide) (hts _ k_C_82) (fun _ h9 => h9) rfl d_Me_update_9 ?_
    refine lv_aload_n hx hb d_Me_update_12 rfl (lv_at hl 0 rfl) ?_
    refine va_get (D := g.1) (ci := 7) (v := .int ((S.1 11))) (C := R_Me) (T := F_Me) (N := 6) hx hb hts hin_Me hown hK hP 8 rfl rfl 5 (by decide) (hts _ k_C_83) (fun _ h9 => h9) rfl d_Me_update_13 ?_
    refine lv_iconst (v := 1) hx hb d_Me_update_16 (by decide) ?_
    obtain ⟨hi, hw⟩ := hw
    refine za_C (S2 := (S.1, (va_up S.2.1 4 (upd (S.2.1 4) (Int32.toNatClampNeg ((S.1 11))) (vp_nar .boolean (1)))), S.2.2)) (f := (S.2.1 4)) hx hb hK hP hD hS 12 rfl hi d_Me_update_17 (sA_C_4 g _ _) (fun H locs hP hD hS => ?_)
    exact J18 (S.1, (va_up S.2.1 4 (upd (S.2.1 4) (Int32.toNatClampNeg ((S.1 11))) (vp_nar .boolean (1)))), S.2.2)  _ _ _ hw (lv_sub hl [] rfl) hP hD hS
theorem d_Me_flush_0 : decode b_Me_flush 0 = .ok (.iconst 0, 1) := by decide +kernel
theorem d_Me_flush_1 : decode b_Me_flush 1 = .ok (.istore_n 1, 1) := by decide +kernel
theorem d_Me_flush_2 : decode b_Me_flush 2 = .ok (.iload_n 1, 1) := by decide +kernel
theorem d_Me_flush_3 : decode b_Me_flush 3 = .ok (.iconst 2, 1) := by decide +kernel
theorem d_Me_flush_4 : decode b_Me_flush 4 = .ok (.if_icmp .ge 14, 3) := by decide +kernel
theorem d_Me_flush_7 : decode b_Me_flush 7 = .ok (.aload_n 0, 1) := by decide +kernel
theorem d_Me_flush_8 : decode b_Me_flush 8 = .ok (.iload_n 1, 1) := by decide +kernel
theorem d_Me_flush_9 : decode b_Me_flush 9 = .ok (.invokevirtual 50, 3) := by decide +kernel
theorem d_Me_flush_12 : decode b_Me_flush 12 = .ok (.iinc 1 1, 3) := by decide +kernel
theorem d_Me_flush_15 : decode b_Me_flush 15 = .ok (.goto (-13), 3) := by decide +kernel
theorem d_Me_flush_18 : decode b_Me_flush 18 = .ok (.return_, 1) := by decide +kernel
def wq_Me_flush_2 (g : Gm) (post : StC → Prop)  : Nat → StC → Int32 → Prop
  | 0, _, _ => False
  | n2 + 1, S, x1 =>
    ((2 ≤ x1) → post S) ∧ (¬ (2 ≤ x1) → wp_Me_writeIfUpdated g (fun S1 : StC => ((wq_Me_flush_2 g post  n2) S1 ((x1 + 1)))) S (x1))
def wp_Me_flush (g : Gm) (post : StC → Prop) (S : StC)  : Prop :=
  ∃ nn : Nat, wq_Me_flush_2 g post  nn S (0)
set_option maxRecDepth 100000 in
set_option maxHeartbeats 4000000 in
theorem c_Me_flush (l : Launch) (g : Gm) (sz : Nat) (S : StC)  (post : StC → Prop) (hw : wp_Me_flush g post S ) : Met l y_Me_flush (.code y_Me_flush b_Me_flush 2 none :: w_C) (rmM 2 62) (va_Pc [.ref (g.2.2 8)] (PC g sz S)) (va_Qv post (BC g (AC g sz S)) (AC g sz S)) 0 0 (AC g sz S) := by
  refine ofC_v (by decide) (Nat.le_of_ble_eq_true rfl) (fun p e s m args below meth c Q A H locs ls hx hb hml hts hown hK hA hC hN kr hl hP hD hS => ?_)
  have hl : lv_has ls 2 [(0, .ref (g.2.2 8))] := hl
  unfold wp_Me_flush at hw
  have J2 : ∀ (n2 : Nat), ∀ (S : StC) (x1 : Int32) (H : Heap) (locs : List Loc) (ls : Array Slot), wq_Me_flush_2 g post  n2 S x1 → lv_has ls 2 [(0, .ref (g.2.2 8)), (1, .int (x1))] → va_P g.1 classes (wC g S) H → va_D A (wC g S) → va_S A s.heap H locs → W p l e (rmM 2 62) s m args below meth c H locs 0 0 Q (F0 m 2 ls []) := by
    intro n2
    induction n2 with
    | zero => intro S x1 H locs ls hw; exact hw.elim
    | succ n2 ih2 =>
      intro S x1 H locs ls hw hl hP hD hS
      unfold wq_Me_flush_2 at hw
      refine lv_iload_n hx hb d_Me_flush_2 rfl (lv_at hl 1 rfl) ?_
      refine lv_iconst (v := 2) hx hb d_Me_flush_3 (by decide) ?_
      refine lv_icmp_ge hx hb d_Me_flush_4 (tgt := 18) (by decide) (fun hc => ?_) (fun hc => ?_)
      · have hw := hw.1 hc
        exact kr S _ _ _ _ hw hP hD hS d_Me_flush_18
      · have hw := hw.2 hc
        refine lv_aload_n hx hb d_Me_flush_7 rfl (lv_at hl 0 rfl) ?_
        refine lv_iload_n hx hb d_Me_flush_8 rfl (lv_at hl 1 rfl) ?_
        refine cC_vV (As := [.int (x1)]) (rest := []) hx hb hml hown hts hK hC hN hP hD hS hA (Nat.zero_le _) (Nat.zero_le _) hl.1 (va_recv (q0 := 8) (ci := 7) (q := (R_Me, F_Me, 6)) hK hP rfl rfl) (qC_3 hts ⟨Nat.le_of_ble_eq_true rfl, Nat.le_of_ble_eq_true rfl⟩) (c_Me_writeIfUpdated l g H.size _ (x1) _ hw) rfl rfl (Nat.le_of_ble_eq_true rfl) d_Me_flush_9 (fun S1 H locs hw hP hD hS => ?_)
        refine lv_iinc (k := 1) (v := (x1 + 1)) (lv' := [(1, .int ((x1 + 1))), (0, .ref (g.2.2 8))]) hx hb d_Me_flush_12 hl rfl rfl (by decide) rfl (fun ls hl => ?_)
        refine lv_goto hx hb d_Me_flush_15 (tgt := 2) (by decide) ?_
        exact ih2 S1 ((x1 + 1)) _ _ _ hw (lv_sub hl [1, 0] rfl) hP hD hS
  refine lv_iconst (v := 0) hx hb d_Me_flush_0 (by decide) ?_
  refine lv_istore_n (lv' := [(1, .int (0)), (0, .ref (g.2.2 8))]) hx hb d_Me_flush_1 rfl hl (by decide) rfl (fun ls hl => ?_)
  obtain ⟨nn, hw⟩ := hw
  exact J2 nn S (0) _ _ _ hw (lv_sub hl [1, 0] rfl) hP hD hS
