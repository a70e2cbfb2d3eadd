theorem d_M_target_0 : decode b_M_target 0 = .ok (.aload_n 0, 1) := by decide +kernel
theorem d_M_target_1 : decode b_M_target 1 = .ok (.iconst 1, 1) := by decide +kernel
theorem d_M_target_2 : decode b_M_target 2 = .ok (.invokevirtual 230, 3) := by decide +kernel
theorem d_M_target_5 : decode b_M_target 5 = .ok (.ifCond .ne 5, 3) := by decide +kernel
theorem d_M_target_8 : decode b_M_target 8 = .ok (.iconst 0, 1) := by decide +kernel
theorem d_M_target_9 : decode b_M_target 9 = .ok (.ireturn, 1) := by decide +kernel
theorem d_M_target_10 : decode b_M_target 10 = .ok (.aload_n 0, 1) := by decide +kernel
theorem d_M_target_11 : decode b_M_target 11 = .ok (.iconst 0, 1) := by decide +kernel
theorem d_M_target_12 : decode b_M_target 12 = .ok (.invokevirtual 234, 3) := by decide +kernel
theorem d_M_target_15 : decode b_M_target 15 = .ok (.istore_n 1, 1) := by decide +kernel
theorem d_M_target_16 : decode b_M_target 16 = .ok (.iload_n 1, 1) := by decide +kernel
theorem d_M_target_17 : decode b_M_target 17 = .ok (.iconst 0, 1) := by decide +kernel
theorem d_M_target_18 : decode b_M_target 18 = .ok (.bipush 31, 2) := by decide +kernel
theorem d_M_target_20 : decode b_M_target 20 = .ok (.invokestatic 212, 3) := by decide +kernel
theorem d_M_target_23 : decode b_M_target 23 = .ok (.ifCond .ne 37, 3) := by decide +kernel
theorem d_M_target_26 : decode b_M_target 26 = .ok (.iload_n 1, 1) := by decide +kernel
theorem d_M_target_27 : decode b_M_target 27 = .ok (.bipush 37, 2) := by decide +kernel
theorem d_M_target_29 : decode b_M_target 29 = .ok (.bipush 39, 2) := by decide +kernel
theorem d_M_target_31 : decode b_M_target 31 = .ok (.invokestatic 212, 3) := by decide +kernel
theorem d_M_target_34 : decode b_M_target 34 = .ok (.ifCond .ne 26, 3) := by decide +kernel
theorem d_M_target_37 : decode b_M_target 37 = .ok (.iload_n 1, 1) := by decide +kernel
theorem d_M_target_38 : decode b_M_target 38 = .ok (.bipush 100, 2) := by decide +kernel
theorem d_M_target_40 : decode b_M_target 40 = .ok (.bipush 99, 2) := by decide +kernel
theorem d_M_target_42 : decode b_M_target 42 = .ok (.aload_n 0, 1) := by decide +kernel
theorem d_M_target_43 : decode b_M_target 43 = .ok (.getfield 227, 3) := by decide +kernel
theorem d_M_target_46 : decode b_M_target 46 = .ok (.iadd, 1) := by decide +kernel
theorem d_M_target_47 : decode b_M_target 47 = .ok (.invokestatic 212, 3) := by decide +kernel
theorem d_M_target_50 : decode b_M_target 50 = .ok (.ifCond .ne 10, 3) := by decide +kernel
theorem d_M_target_53 : decode b_M_target 53 = .ok (.aload_n 0, 1) := by decide +kernel
theorem d_M_target_54 : decode b_M_target 54 = .ok (.iconst 5, 1) := by decide +kernel
theorem d_M_target_55 : decode b_M_target 55 = .ok (.invokevirtual 196, 3) := by decide +kernel
theorem d_M_target_58 : decode b_M_target 58 = .ok (.iconst 0, 1) := by decide +kernel
theorem d_M_target_59 : decode b_M_target 59 = .ok (.ireturn, 1) := by decide +kernel
theorem d_M_target_60 : decode b_M_target 60 = .ok (.aload_n 0, 1) := by decide +kernel
theorem d_M_target_61 : decode b_M_target 61 = .ok (.invokevirtual 241, 3) := by decide +kernel
theorem d_M_target_64 : decode b_M_target 64 = .ok (.ireturn, 1) := by decide +kernel
def wq_M_target_60 (post : Int32 → StM → Prop)  (S : StM)  : Prop :=
  wp_M_pop (fun (r2 : Int32) (S1 : StM) => (post (r2) S1)) S 
def wp_M_target (post : Int32 → StM → Prop) (S : StM)  : Prop :=
  wp_M_needs (fun (r4 : Int32) (S3 : StM) => (((r4 = 0) → post (0) S3) ∧ (¬ (r4 = 0) → wp_M_top (fun (r6 : Int32) (S5 : StM) => (wp_M_in (fun (r8 : Int32) (S7 : StM) => (((r8 = 0) → wp_M_in (fun (r10 : Int32) (S9 : StM) => (((r10 = 0) → wp_M_in (fun (r12 : Int32) (S11 : StM) => (((r12 = 0) → wp_M_fail (fun S13 : StM => (post (0) S13)) S11 (5)) ∧ (¬ (r12 = 0) → wq_M_target_60 post  S11 ))) S9 (r6) (100) ((99 + (S9.1 20)))) ∧ (¬ (r10 = 0) → wq_M_target_60 post  S9 ))) S7 (r6) (37) (39)) ∧ (¬ (r8 = 0) → wq_M_target_60 post  S7 ))) S5 (r6) (0) (31))) S3 (0)))) S (1)
set_option maxRecDepth 100000 in
set_option maxHeartbeats 4000000 in
theorem c_M_target (l : Launch) (g : Gm) (sz : Nat) (S : StM)  (post : Int32 → StM → Prop) (hw : wp_M_target post S ) : Met l y_M_target (.code y_M_target b_M_target 2 (some .int) :: w_M) (rmM 2 42) (va_Pc [.ref (g.2.2 0)] (PM g sz S)) (va_Qi post (BM g sz) (AM g sz)) 0 0 (AM g sz) := by
  refine ofM_i (by decide) (Nat.le_of_ble_eq_true rfl) (fun p e s m args below meth c Q H locs ls hx hb hml hts hown hK hA kr hl hP hD hS => ?_)
  have hl : lv_has ls 2 [(0, .ref (g.2.2 0))] := hl
  unfold wp_M_target at hw
  have J60 : ∀ (S : StM)  (H : Heap) (locs : List Loc) (ls : Array Slot), wq_M_target_60 post  S  → lv_has ls 2 [(0, .ref (g.2.2 0))] → va_P g.1 classes (wM g S) H → va_D (AM g s.heap.size) (wM g S) → va_S (AM g s.heap.size) s.heap H locs → W p l e (rmM 2 42) s m args below meth c H locs 0 0 Q (F0 m 60 ls []) := by
    intro S  H locs ls hw hl hP hD hS
    unfold wq_M_target_60 at hw
    refine lv_aload_n hx hb d_M_target_60 rfl (lv_at hl 0 rfl) ?_
    refine cM_i (As := []) (rest := []) hx hb hml hown hts hK hP hD hS hA (Nat.zero_le _) (Nat.zero_le _) hl.1 (q_M_pop hts ⟨Nat.le_of_ble_eq_true rfl, Nat.le_of_ble_eq_true rfl⟩) (c_M_pop l g H.size _  _ hw) rfl rfl (Nat.le_of_ble_eq_true rfl) d_M_target_61 (fun r2 S1 H locs hw hP hD hS => ?_)
    exact kr (r2) S1 _ _ _ _ hw hP hD hS d_M_target_64
  refine lv_aload_n hx hb d_M_target_0 rfl (lv_at hl 0 rfl) ?_
  refine lv_iconst (v := 1) hx hb d_M_target_1 (by decide) ?_
  refine cM_i (As := [.int (1)]) (rest := []) hx hb hml hown hts hK hP hD hS hA (Nat.zero_le _) (Nat.zero_le _) hl.1 (q_M_needs hts ⟨Nat.le_of_ble_eq_true rfl, Nat.le_of_ble_eq_true rfl⟩) (c_M_needs l g H.size _ (1) _ hw) rfl rfl (Nat.le_of_ble_eq_true rfl) d_M_target_2 (fun r4 S3 H locs hw hP hD hS => ?_)
  refine lv_if_ne hx hb d_M_target_5 (tgt := 10) (by decide) (fun hc => ?_) (fun hc => ?_)
  · have hw := hw.2 hc
    refine lv_aload_n hx hb d_M_target_10 rfl (lv_at hl 0 rfl) ?_
    refine lv_iconst (v := 0) hx hb d_M_target_11 (by decide) ?_
    refine cM_i (As := [.int (0)]) (rest := []) hx hb hml hown hts hK hP hD hS hA (Nat.zero_le _) (Nat.zero_le _) hl.1 (q_M_top hts ⟨Nat.le_of_ble_eq_true rfl, Nat.le_of_ble_eq_true rfl⟩) (c_M_top l g H.size _ (0) _ hw) rfl rfl (Nat.le_of_ble_eq_true rfl) d_M_target_12 (fun r6 S5 H locs hw hP hD hS => ?_)
    refine lv_istore_n (lv' := [(1, .int (r6)), (0, .ref (g.2.2 0))]) hx hb d_M_target_15 rfl hl (by decide) rfl (fun ls hl => ?_)
    refine lv_iload_n hx hb d_M_target_16 rfl (lv_at hl 0 rfl) ?_
    refine lv_iconst (v := 0) hx hb d_M_target_17 (by decide) ?_
    refine lv_bipush (v := 31) hx hb d_M_target_18 (by decide) ?_
    refine cM_iS (As := [.int (r6), .int (0), .int (31)]) (rest := []) hx hb hml hown hts hK hP hD hS hA (Nat.zero_le _) (Nat.zero_le _) hl.1 (q_M_in hts ⟨Nat.le_of_ble_eq_true rfl, Nat.le_of_ble_eq_true rfl⟩) (c_M_in l g H.size _ (r6) (0) (31) _ hw) rfl rfl (Nat.le_of_ble_eq_true rfl) d_M_target_20 (fun r8 S7 H locs hw hP hD hS => ?_)
    refine lv_if_ne hx hb d_M_target_23 (tgt := 60) (by decide) (fun hc => ?_) (fun hc => ?_)
    · have hw := hw.2 hc
      exact J60 S7  _ _ _ hw (lv_sub hl [1] rfl) hP hD hS
    · have hw := hw.1 hc
      refine lv_iload_n hx hb d_M_target_26 rfl (lv_at hl 0 rfl) ?_
      refine lv_bipush (v := 37) hx hb d_M_target_27 (by decide) ?_
      refine lv_bipush (v := 39) hx hb d_M_target_29 (by decide) ?_
      refine cM_iS (As := [.int (r6), .int (37), .int (39)]) (rest := []) hx hb hml hown hts hK hP hD hS hA (Nat.zero_le _) (Nat.zero_le _) hl.1 (q_M_in hts ⟨Nat.le_of_ble_eq_true rfl, Nat.le_of_ble_eq_true rfl⟩) (c_M_in l g H.size _ (r6) (37) (39) _ hw) rfl rfl (Nat.le_of_ble_eq_true rfl) d_M_target_31 (fun r10 S9 H locs hw hP hD hS => ?_)
      refine lv_if_ne hx hb d_M_target_34 (tgt := 60) (by decide) (fun hc => ?_) (fun hc => ?_)
      · have hw := hw.2 hc
        exact J60 S9  _ _ _ hw (lv_sub hl [1] rfl) hP hD hS
      · have hw := hw.1 hc
        refine lv_iload_n hx hb d_M_target_37 rfl (lv_at hl 0 rfl) ?_
        refine lv_bipush (v := 100) hx hb d_M_target_38 (by decide) ?_
        refine lv_bipush (v := 99) hx hb d_M_target_40 (by decide) ?_
        refine lv_aload_n hx hb d_M_target_42 rfl (lv_at hl 1 rfl) ?_
        refine gt_M (v := .int ((S9.1 20))) hx hb hown hts hK hP 20 (by decide) rfl k_M_126 d_M_target_43 ?_
        refine lv_iadd hx hb d_M_target_46 ?_
        refine cM_iS (As := [.int (r6), .int (100), .int ((99 + (S9.1 20)))]) (rest := []) hx hb hml hown hts hK hP hD hS hA (Nat.zero_le _) (Nat.zero_le _) hl.1 (q_M_in hts ⟨Nat.le_of_ble_eq_true rfl, Nat.le_of_ble_eq_true rfl⟩) (c_M_in l g H.size _ (r6) (100) ((99 + (S9.1 20))) _ hw) rfl rfl (Nat.le_of_ble_eq_true rfl) d_M_target_47 (fun r12 S11 H locs hw hP hD hS => ?_)
        refine lv_if_ne hx hb d_M_target_50 (tgt := 60) (by decide) (fun hc => ?_) (fun hc => ?_)
        · have hw := hw.2 hc
          exact J60 S11  _ _ _ hw (lv_sub hl [1] rfl) hP hD hS
        · have hw := hw.1 hc
          refine lv_aload_n hx hb d_M_target_53 rfl (lv_at hl 1 rfl) ?_
          refine lv_iconst (v := 5) hx hb d_M_target_54 (by decide) ?_
          refine cM_v (As := [.int (5)]) (rest := []) hx hb hml hown hts hK hP hD hS hA (Nat.zero_le _) (Nat.zero_le _) hl.1 (q_M_fail hts ⟨Nat.le_of_ble_eq_true rfl, Nat.le_of_ble_eq_true rfl⟩) (c_M_fail l g H.size _ (5) _ hw) rfl rfl (Nat.le_of_ble_eq_true rfl) d_M_target_55 (fun S13 H locs hw hP hD hS => ?_)
          refine lv_iconst (v := 0) hx hb d_M_target_58 (by decide) ?_
          exact kr (0) S13 _ _ _ _ hw hP hD hS d_M_target_59
  · have hw := hw.1 hc
    refine lv_iconst (v := 0) hx hb d_M_target_8 (by decide) ?_
    exact kr (0) S3 _ _ _ _ hw hP hD hS d_M_target_9
theorem d_M_enter_0 : decode b_M_enter 0 = .ok (.aload_n 0, 1) := by decide +kernel
theorem d_M_enter_1 : decode b_M_enter 1 = .ok (.getfield 257, 3) := by decide +kernel
theorem d_M_enter_4 : decode b_M_enter 4 = .ok (.bipush 16, 2) := by decide +kernel
theorem d_M_enter_6 : decode b_M_enter 6 = .ok (.if_icmp .lt 11, 3) := by decide +kernel
theorem d_M_enter_9 : decode b_M_enter 9 = .ok (.aload_n 0, 1) := by decide +kernel
theorem d_M_enter_10 : decode b_M_enter 10 = .ok (.iconst 3, 1) := by decide +kernel
theorem d_M_enter_11 : decode b_M_enter 11 = .ok (.invokevirtual 196, 3) := by decide +kernel
theorem d_M_enter_14 : decode b_M_enter 14 = .ok (.goto 43, 3) := by decide +kernel
theorem d_M_enter_17 : decode b_M_enter 17 = .ok (.aload_n 0, 1) := by decide +kernel
theorem d_M_enter_18 : decode b_M_enter 18 = .ok (.getfield 48, 3) := by decide +kernel
theorem d_M_enter_21 : decode b_M_enter 21 = .ok (.aload_n 0, 1) := by decide +kernel
theorem d_M_enter_22 : decode b_M_enter 22 = .ok (.getfield 257, 3) := by decide +kernel
theorem d_M_enter_25 : decode b_M_enter 25 = .ok (.iload_n 1, 1) := by decide +kernel
theorem d_M_enter_26 : decode b_M_enter 26 = .ok (.iastore, 1) := by decide +kernel
theorem d_M_enter_27 : decode b_M_enter 27 = .ok (.aload_n 0, 1) := by decide +kernel
theorem d_M_enter_28 : decode b_M_enter 28 = .ok (.getfield 51, 3) := by decide +kernel
theorem d_M_enter_31 : decode b_M_enter 31 = .ok (.aload_n 0, 1) := by decide +kernel
theorem d_M_enter_32 : decode b_M_enter 32 = .ok (.getfield 257, 3) := by decide +kernel
theorem d_M_enter_35 : decode b_M_enter 35 = .ok (.iconst 0, 1) := by decide +kernel
theorem d_M_enter_36 : decode b_M_enter 36 = .ok (.iastore, 1) := by decide +kernel
theorem d_M_enter_37 : decode b_M_enter 37 = .ok (.aload_n 0, 1) := by decide +kernel
theorem d_M_enter_38 : decode b_M_enter 38 = .ok (.getfield 54, 3) := by decide +kernel
theorem d_M_enter_41 : decode b_M_enter 41 = .ok (.aload_n 0, 1) := by decide +kernel
theorem d_M_enter_42 : decode b_M_enter 42 = .ok (.getfield 257, 3) := by decide +kernel
theorem d_M_enter_45 : decode b_M_enter 45 = .ok (.iconst 0, 1) := by decide +kernel
theorem d_M_enter_46 : decode b_M_enter 46 = .ok (.iastore, 1) := by decide +kernel
theorem d_M_enter_47 : decode b_M_enter 47 = .ok (.aload_n 0, 1) := by decide +kernel
theorem d_M_enter_48 : decode b_M_enter 48 = .ok (.aload_n 0, 1) := by decide +kernel
theorem d_M_enter_49 : decode b_M_enter 49 = .ok (.getfield 257, 3) := by decide +kernel
theorem d_M_enter_52 : decode b_M_enter 52 = .ok (.iconst 1, 1) := by decide +kernel
theorem d_M_enter_53 : decode b_M_enter 53 = .ok (.iadd, 1) := by decide +kernel
theorem d_M_enter_54 : decode b_M_enter 54 = .ok (.putfield 257, 3) := by decide +kernel
theorem d_M_enter_57 : decode b_M_enter 57 = .ok (.return_, 1) := by decide +kernel
def wq_M_enter_57 (post : StM → Prop)  (S : StM)  : Prop :=
  post S
def wp_M_enter (post : StM → Prop) (S : StM) (a0 : Int32) : Prop :=
  (((S.1 25) < 16) → (vp_in (S.1 25) 16) ∧ ((vp_in (S.1 25) 16) ∧ ((vp_in (S.1 25) 16) ∧ (wq_M_enter_57 post  ((upd S.1 25 (((S.1 25) + 1))), (va_up (va_up (va_up S.2.1 26 (upd (S.2.1 26) (Int32.toNatClampNeg ((S.1 25))) (a0))) 27 (upd (S.2.1 27) (Int32.toNatClampNeg ((S.1 25))) (0))) 28 (upd (S.2.1 28) (Int32.toNatClampNeg ((S.1 25))) (0))), S.2.2) )))) ∧ (¬ ((S.1 25) < 16) → wp_M_fail (fun S1 : StM => (wq_M_enter_57 post  S1 )) S (3))
set_option maxRecDepth 100000 in
set_option maxHeartbeats 4000000 in
theorem c_M_enter (l : Launch) (g : Gm) (sz : Nat) (S : StM) (a0 : Int32) (post : StM → Prop) (hw : wp_M_enter post S a0) : Met l y_M_enter (.code y_M_enter b_M_enter 2 none :: w_M) (rmM 1 21) (va_Pc [.ref (g.2.2 0), .int (a0)] (PM g sz S)) (va_Qv post (BM g sz) (AM g sz)) 0 0 (AM g sz) := by
  refine ofM_v (by decide) (Nat.le_of_ble_eq_true rfl) (fun p e s m args below meth c Q H locs ls hx hb hml hts hown hK hA kr hl hP hD hS => ?_)
  have hl : lv_has ls 2 [(0, .ref (g.2.2 0)), (1, .int (a0))] := hl
  unfold wp_M_enter at hw
  have J57 : ∀ (S : StM)  (H : Heap) (locs : List Loc) (ls : Array Slot), wq_M_enter_57 post  S  → lv_has ls 2 [] → va_P g.1 classes (wM g S) H → va_D (AM g s.heap.size) (wM g S) → va_S (AM g s.heap.size) s.heap H locs → W p l e (rmM 1 21) s m args below meth c H locs 0 0 Q (F0 m 57 ls []) := by
    intro S  H locs ls hw hl hP hD hS
    unfold wq_M_enter_57 at hw
    exact kr S _ _ _ _ hw hP hD hS d_M_enter_57
  refine lv_aload_n hx hb d_M_enter_0 rfl (lv_at hl 0 rfl) ?_
  refine gt_M (v := .int ((S.1 25))) hx hb hown hts hK hP 25 (by decide) rfl k_M_131 d_M_enter_1 ?_
  refine lv_bipush (v := 16) hx hb d_M_enter_4 (by decide) ?_
  refine lv_icmp_lt hx hb d_M_enter_6 (tgt := 17) (by decide) (fun hc => ?_) (fun hc => ?_)
  · have hw := hw.1 hc
    refine lv_aload_n hx hb d_M_enter_17 rfl (lv_at hl 0 rfl) ?_
    refine gt_M (v := .ref (g.2.2 27)) hx hb hown hts hK hP 26 (by decide) rfl k_M_132 d_M_enter_18 ?_
    refine lv_aload_n hx hb d_M_enter_21 rfl (lv_at hl 0 rfl) ?_
    refine gt_M (v := .int ((S.1 25))) hx hb hown hts hK hP 25 (by decide) rfl k_M_131 d_M_enter_22 ?_
    refine lv_iload_n hx hb d_M_enter_25 rfl (lv_at hl 1 rfl) ?_
    obtain ⟨hi, hw⟩ := hw
    refine ia_M (S2 := (S.1, (va_up S.2.1 26 (upd (S.2.1 26) (Int32.toNatClampNeg ((S.1 25))) (a0))), S.2.2)) (f := (S.2.1 26)) hx hb hK hP hD hS 13 rfl hi d_M_enter_26 (sA_M_26 g _ _) (fun H locs hP hD hS => ?_)
    refine lv_aload_n hx hb d_M_enter_27 rfl (lv_at hl 0 rfl) ?_
    refine gt_M (v := .ref (g.2.2 28)) hx hb hown hts hK hP 27 (by decide) rfl k_M_133 d_M_enter_28 ?_
    refine lv_aload_n hx hb d_M_enter_31 rfl (lv_at hl 0 rfl) ?_
    refine gt_M (v := .int ((S.1 25))) hx hb hown hts hK hP 25 (by decide) rfl k_M_131 d_M_enter_32 ?_
    refine lv_iconst (v := 0) hx hb d_M_enter_35 (by decide) ?_
    obtain ⟨hi, hw⟩ := hw
    refine ia_M (S2 := (S.1, (va_up (va_up S.2.1 26 (upd (S.2.1 26) (Int32.toNatClampNeg ((S.1 25))) (a0))) 27 (upd (S.2.1 27) (Int32.toNatClampNeg ((S.1 25))) (0))), S.2.2)) (f := (S.2.1 27)) hx hb hK hP hD hS 14 rfl hi d_M_enter_36 (sA_M_27 g _ _) (fun H locs hP hD hS => ?_)
    refine lv_aload_n hx hb d_M_enter_37 rfl (lv_at hl 0 rfl) ?_
    refine gt_M (v := .ref (g.2.2 29)) hx hb hown hts hK hP 28 (by decide) rfl k_M_134 d_M_enter_38 ?_
    refine lv_aload_n hx hb d_M_enter_41 rfl (lv_at hl 0 rfl) ?_
    refine gt_M (v := .int ((S.1 25))) hx hb hown hts hK hP 25 (by decide) rfl k_M_131 d_M_enter_42 ?_
    refine lv_iconst (v := 0) hx hb d_M_enter_45 (by decide) ?_
    obtain ⟨hi, hw⟩ := hw
    refine ia_M (S2 := (S.1, (va_up (va_up (va_up S.2.1 26 (upd (S.2.1 26) (Int32.toNatClampNeg ((S.1 25))) (a0))) 27 (upd (S.2.1 27) (Int32.toNatClampNeg ((S.1 25))) (0))) 28 (upd (S.2.1 28) (Int32.toNatClampNeg ((S.1 25))) (0))), S.2.2)) (f := (S.2.1 28)) hx hb hK hP hD hS 15 rfl hi d_M_enter_46 (sA_M_28 g _ _) (fun H locs hP hD hS => ?_)
    refine lv_aload_n hx hb d_M_enter_47 rfl (lv_at hl 0 rfl) ?_
    refine lv_aload_n hx hb d_M_enter_48 rfl (lv_at hl 0 rfl) ?_
    refine gt_M (v := .int ((S.1 25))) hx hb hown hts hK hP 25 (by decide) rfl k_M_131 d_M_enter_49 ?_
    refine lv_iconst (v := 1) hx hb d_M_enter_52 (by decide) ?_
    refine lv_iadd hx hb d_M_enter_53 ?_
    refine pt_M (S2 := ((upd S.1 25 (((S.1 25) + 1))), (va_up (va_up (va_up S.2.1 26 (upd (S.2.1 26) (Int32.toNatClampNeg ((S.1 25))) (a0))) 27 (upd (S.2.1 27) (Int32.toNatClampNeg ((S.1 25))) (0))) 28 (upd (S.2.1 28) (Int32.toNatClampNeg ((S.1 25))) (0))), S.2.2)) (v := .int (((S.1 25) + 1))) hx hb hown hts hK hP hD hS 25 (by decide) rfl rfl rfl (sI_M_25 g _ _) k_M_131 d_M_enter_54 (fun H locs hP hD hS => ?_)
    exact J57 ((upd S.1 25 (((S.1 25) + 1))), (va_up (va_up (va_up S.2.1 26 (upd (S.2.1 26) (Int32.toNatClampNeg ((S.1 25))) (a0))) 27 (upd (S.2.1 27) (Int32.toNatClampNeg ((S.1 25))) (0))) 28 (upd (S.2.1 28) (Int32.toNatClampNeg ((S.1 25))) (0))), S.2.2)  _ _ _ hw (lv_sub hl [] rfl) hP hD hS
  · have hw := hw.2 hc
    refine lv_aload_n hx hb d_M_enter_9 rfl (lv_at hl 0 rfl) ?_
    refine lv_iconst (v := 3) hx hb d_M_enter_10 (by decide) ?_
    refine cM_v (As := [.int (3)]) (rest := []) hx hb hml hown hts hK hP hD hS hA (Nat.zero_le _) (Nat.zero_le _) hl.1 (q_M_fail hts ⟨Nat.le_of_ble_eq_true rfl, Nat.le_of_ble_eq_true rfl⟩) (c_M_fail l g H.size _ (3) _ hw) rfl rfl (Nat.le_of_ble_eq_true rfl) d_M_enter_11 (fun S1 H locs hw hP hD hS => ?_)
    refine lv_goto hx hb d_M_enter_14 (tgt := 57) (by decide) ?_
    exact J57 S1  _ _ _ hw (lv_sub hl [] rfl) hP hD hS
theorem d_M_perform_0 : decode b_M_perform 0 = .ok (.iload_n 1, 1) := by decide +kernel
theorem d_M_perform_1 : decode b_M_perform 1 = .ok (.istore_n 2, 1) := by decide +kernel
theorem d_M_perform_2 : decode b_M_perform 2 = .ok (.aload_n 0, 1) := by decide +kernel
theorem d_M_perform_3 : decode b_M_perform 3 = .ok (.getfield 190, 3) := by decide +kernel
theorem d_M_perform_6 : decode b_M_perform 6 = .ok (.ifCond .ne 17, 3) := by decide +kernel
theorem d_M_perform_9 : decode b_M_perform 9 = .ok (.iload_n 2, 1) := by decide +kernel
theorem d_M_perform_10 : decode b_M_perform 10 = .ok (.bipush 31, 2) := by decide +kernel
theorem d_M_perform_12 : decode b_M_perform 12 = .ok (.if_icmp .ne 11, 3) := by decide +kernel
theorem d_M_perform_15 : decode b_M_perform 15 = .ok (.aload_n 0, 1) := by decide +kernel
theorem d_M_perform_16 : decode b_M_perform 16 = .ok (.invokevirtual 298, 3) := by decide +kernel
theorem d_M_perform_19 : decode b_M_perform 19 = .ok (.istore_n 2, 1) := by decide +kernel
theorem d_M_perform_20 : decode b_M_perform 20 = .ok (.goto (-18), 3) := by decide +kernel
theorem d_M_perform_23 : decode b_M_perform 23 = .ok (.aload_n 0, 1) := by decide +kernel
theorem d_M_perform_24 : decode b_M_perform 24 = .ok (.getfield 190, 3) := by decide +kernel
theorem d_M_perform_27 : decode b_M_perform 27 = .ok (.ifCond .le 4, 3) := by decide +kernel
theorem d_M_perform_30 : decode b_M_perform 30 = .ok (.return_, 1) := by decide +kernel
theorem d_M_perform_31 : decode b_M_perform 31 = .ok (.iload_n 2, 1) := by decide +kernel
theorem d_M_perform_32 : decode b_M_perform 32 = .ok (.bipush 100, 2) := by decide +kernel
theorem d_M_perform_34 : decode b_M_perform 34 = .ok (.if_icmp .lt 14, 3) := by decide +kernel
theorem d_M_perform_37 : decode b_M_perform 37 = .ok (.aload_n 0, 1) := by decide +kernel
theorem d_M_perform_38 : decode b_M_perform 38 = .ok (.iload_n 2, 1) := by decide +kernel
theorem d_M_perform_39 : decode b_M_perform 39 = .ok (.bipush 100, 2) := by decide +kernel
theorem d_M_perform_41 : decode b_M_perform 41 = .ok (.isub, 1) := by decide +kernel
theorem d_M_perform_42 : decode b_M_perform 42 = .ok (.invokevirtual 301, 3) := by decide +kernel
theorem d_M_perform_45 : decode b_M_perform 45 = .ok (.goto 179, 3) := by decide +kernel
theorem d_M_perform_48 : decode b_M_perform 48 = .ok (.iload_n 2, 1) := by decide +kernel
theorem d_M_perform_49 : decode b_M_perform 49 = .ok (.bipush 10, 2) := by decide +kernel
theorem d_M_perform_51 : decode b_M_perform 51 = .ok (.if_icmp .ge 11, 3) := by decide +kernel
theorem d_M_perform_54 : decode b_M_perform 54 = .ok (.aload_n 0, 1) := by decide +kernel
theorem d_M_perform_55 : decode b_M_perform 55 = .ok (.iload_n 2, 1) := by decide +kernel
theorem d_M_perform_56 : decode b_M_perform 56 = .ok (.invokevirtual 304, 3) := by decide +kernel
theorem d_M_perform_59 : decode b_M_perform 59 = .ok (.goto 165, 3) := by decide +kernel
theorem d_M_perform_62 : decode b_M_perform 62 = .ok (.iload_n 2, 1) := by decide +kernel
theorem d_M_perform_63 : decode b_M_perform 63 = .ok (.bipush 19, 2) := by decide +kernel
theorem d_M_perform_65 : decode b_M_perform 65 = .ok (.if_icmp .ge 11, 3) := by decide +kernel
theorem d_M_perform_68 : decode b_M_perform 68 = .ok (.aload_n 0, 1) := by decide +kernel
theorem d_M_perform_69 : decode b_M_perform 69 = .ok (.iload_n 2, 1) := by decide +kernel
theorem d_M_perform_70 : decode b_M_perform 70 = .ok (.invokevirtual 307, 3) := by decide +kernel
theorem d_M_perform_73 : decode b_M_perform 73 = .ok (.goto 151, 3) := by decide +kernel
theorem d_M_perform_76 : decode b_M_perform 76 = .ok (.iload_n 2, 1) := by decide +kernel
theorem d_M_perform_77 : decode b_M_perform 77 = .ok (.bipush 25, 2) := by decide +kernel
theorem d_M_perform_79 : decode b_M_perform 79 = .ok (.if_icmp .ge 11, 3) := by decide +kernel
theorem d_M_perform_82 : decode b_M_perform 82 = .ok (.aload_n 0, 1) := by decide +kernel
theorem d_M_perform_83 : decode b_M_perform 83 = .ok (.iload_n 2, 1) := by decide +kernel
theorem d_M_perform_84 : decode b_M_perform 84 = .ok (.invokevirtual 310, 3) := by decide +kernel
theorem d_M_perform_87 : decode b_M_perform 87 = .ok (.goto 137, 3) := by decide +kernel
theorem d_M_perform_90 : decode b_M_perform 90 = .ok (.iload_n 2, 1) := by decide +kernel
theorem d_M_perform_91 : decode b_M_perform 91 = .ok (.bipush 30, 2) := by decide +kernel
theorem d_M_perform_93 : decode b_M_perform 93 = .ok (.if_icmp .ge 11, 3) := by decide +kernel
theorem d_M_perform_96 : decode b_M_perform 96 = .ok (.aload_n 0, 1) := by decide +kernel
theorem d_M_perform_97 : decode b_M_perform 97 = .ok (.iload_n 2, 1) := by decide +kernel
theorem d_M_perform_98 : decode b_M_perform 98 = .ok (.invokevirtual 313, 3) := by decide +kernel
theorem d_M_perform_101 : decode b_M_perform 101 = .ok (.goto 123, 3) := by decide +kernel
theorem d_M_perform_104 : decode b_M_perform 104 = .ok (.iload_n 2, 1) := by decide +kernel
theorem d_M_perform_105 : decode b_M_perform 105 = .ok (.bipush 30, 2) := by decide +kernel
theorem d_M_perform_107 : decode b_M_perform 107 = .ok (.if_icmp .ne 40, 3) := by decide +kernel
theorem d_M_perform_110 : decode b_M_perform 110 = .ok (.aload_n 0, 1) := by decide +kernel
theorem d_M_perform_111 : decode b_M_perform 111 = .ok (.getfield 257, 3) := by decide +kernel
theorem d_M_perform_114 : decode b_M_perform 114 = .ok (.ifCond .ne 9, 3) := by decide +kernel
theorem d_M_perform_117 : decode b_M_perform 117 = .ok (.aload_n 0, 1) := by decide +kernel
theorem d_M_perform_118 : decode b_M_perform 118 = .ok (.bipush 6, 2) := by decide +kernel
theorem d_M_perform_120 : decode b_M_perform 120 = .ok (.invokevirtual 196, 3) := by decide +kernel
theorem d_M_perform_123 : decode b_M_perform 123 = .ok (.aload_n 0, 1) := by decide +kernel
theorem d_M_perform_124 : decode b_M_perform 124 = .ok (.aload_n 0, 1) := by decide +kernel
theorem d_M_perform_125 : decode b_M_perform 125 = .ok (.getfield 257, 3) := by decide +kernel
theorem d_M_perform_128 : decode b_M_perform 128 = .ok (.ifCond .le 12, 3) := by decide +kernel
theorem d_M_perform_131 : decode b_M_perform 131 = .ok (.aload_n 0, 1) := by decide +kernel
theorem d_M_perform_132 : decode b_M_perform 132 = .ok (.getfield 257, 3) := by decide +kernel
theorem d_M_perform_135 : decode b_M_perform 135 = .ok (.iconst 1, 1) := by decide +kernel
theorem d_M_perform_136 : decode b_M_perform 136 = .ok (.isub, 1) := by decide +kernel
theorem d_M_perform_137 : decode b_M_perform 137 = .ok (.goto 4, 3) := by decide +kernel
theorem d_M_perform_140 : decode b_M_perform 140 = .ok (.iconst 0, 1) := by decide +kernel
theorem d_M_perform_141 : decode b_M_perform 141 = .ok (.putfield 257, 3) := by decide +kernel
theorem d_M_perform_144 : decode b_M_perform 144 = .ok (.goto 80, 3) := by decide +kernel
theorem d_M_perform_147 : decode b_M_perform 147 = .ok (.iload_n 2, 1) := by decide +kernel
theorem d_M_perform_148 : decode b_M_perform 148 = .ok (.bipush 37, 2) := by decide +kernel
theorem d_M_perform_150 : decode b_M_perform 150 = .ok (.if_icmp .ge 11, 3) := by decide +kernel
theorem d_M_perform_153 : decode b_M_perform 153 = .ok (.aload_n 0, 1) := by decide +kernel
theorem d_M_perform_154 : decode b_M_perform 154 = .ok (.iload_n 2, 1) := by decide +kernel
theorem d_M_perform_155 : decode b_M_perform 155 = .ok (.invokevirtual 316, 3) := by decide +kernel
theorem d_M_perform_158 : decode b_M_perform 158 = .ok (.goto 66, 3) := by decide +kernel
theorem d_M_perform_161 : decode b_M_perform 161 = .ok (.iload_n 2, 1) := by decide +kernel
theorem d_M_perform_162 : decode b_M_perform 162 = .ok (.bipush 37, 2) := by decide +kernel
theorem d_M_perform_164 : decode b_M_perform 164 = .ok (.if_icmp .ne 10, 3) := by decide +kernel
theorem d_M_perform_167 : decode b_M_perform 167 = .ok (.aload_n 0, 1) := by decide +kernel
theorem d_M_perform_168 : decode b_M_perform 168 = .ok (.invokevirtual 319, 3) := by decide +kernel
theorem d_M_perform_171 : decode b_M_perform 171 = .ok (.goto 53, 3) := by decide +kernel
theorem d_M_perform_174 : decode b_M_perform 174 = .ok (.iload_n 2, 1) := by decide +kernel
theorem d_M_perform_175 : decode b_M_perform 175 = .ok (.bipush 38, 2) := by decide +kernel
theorem d_M_perform_177 : decode b_M_perform 177 = .ok (.if_icmp .ne 23, 3) := by decide +kernel
theorem d_M_perform_180 : decode b_M_perform 180 = .ok (.aload_n 0, 1) := by decide +kernel
theorem d_M_perform_181 : decode b_M_perform 181 = .ok (.getfield 72, 3) := by decide +kernel
theorem d_M_perform_184 : decode b_M_perform 184 = .ok (.ifCond .lt 40, 3) := by decide +kernel
theorem d_M_perform_187 : decode b_M_perform 187 = .ok (.aload_n 0, 1) := by decide +kernel
theorem d_M_perform_188 : decode b_M_perform 188 = .ok (.getfield 69, 3) := by decide +kernel
theorem d_M_perform_191 : decode b_M_perform 191 = .ok (.aload_n 0, 1) := by decide +kernel
theorem d_M_perform_192 : decode b_M_perform 192 = .ok (.getfield 72, 3) := by decide +kernel
theorem d_M_perform_195 : decode b_M_perform 195 = .ok (.iconst 1, 1) := by decide +kernel
theorem d_M_perform_196 : decode b_M_perform 196 = .ok (.bastore, 1) := by decide +kernel
theorem d_M_perform_197 : decode b_M_perform 197 = .ok (.goto 27, 3) := by decide +kernel
theorem d_M_perform_200 : decode b_M_perform 200 = .ok (.iload_n 2, 1) := by decide +kernel
theorem d_M_perform_201 : decode b_M_perform 201 = .ok (.bipush 39, 2) := by decide +kernel
theorem d_M_perform_203 : decode b_M_perform 203 = .ok (.if_icmp .ne 16, 3) := by decide +kernel
theorem d_M_perform_206 : decode b_M_perform 206 = .ok (.aload_n 0, 1) := by decide +kernel
theorem d_M_perform_207 : decode b_M_perform 207 = .ok (.iconst 0, 1) := by decide +kernel
theorem d_M_perform_208 : decode b_M_perform 208 = .ok (.invokevirtual 295, 3) := by decide +kernel
theorem d_M_perform_211 : decode b_M_perform 211 = .ok (.aload_n 0, 1) := by decide +kernel
theorem d_M_perform_212 : decode b_M_perform 212 = .ok (.iconst 1, 1) := by decide +kernel
theorem d_M_perform_213 : decode b_M_perform 213 = .ok (.invokevirtual 295, 3) := by decide +kernel
theorem d_M_perform_216 : decode b_M_perform 216 = .ok (.goto 8, 3) := by decide +kernel
theorem d_M_perform_219 : decode b_M_perform 219 = .ok (.aload_n 0, 1) := by decide +kernel
theorem d_M_perform_220 : decode b_M_perform 220 = .ok (.iload_n 2, 1) := by decide +kernel
theorem d_M_perform_221 : decode b_M_perform 221 = .ok (.invokevirtual 322, 3) := by decide +kernel
theorem d_M_perform_224 : decode b_M_perform 224 = .ok (.return_, 1) := by decide +kernel
def wq_M_perform_224 (post : StM → Prop)  (S : StM)  : Prop :=
  post S
def wq_M_perform_141 (post : StM → Prop)  (S : StM) (t0 : Int32) : Prop :=
  wq_M_perform_224 post  ((upd S.1 25 (t0)), S.2) 
def wq_M_perform_123 (post : StM → Prop)  (S : StM)  : Prop :=
  (((S.1 25) ≤ 0) → wq_M_perform_141 post  S (0)) ∧ (¬ ((S.1 25) ≤ 0) → wq_M_perform_141 post  S (((S.1 25) - 1)))
def wq_M_perform_23 (post : StM → Prop)  (S : StM) (x2 : Int32) : Prop :=
  (((S.1 14) ≤ 0) → ((x2 < 100) → ((10 ≤ x2) → ((19 ≤ x2) → ((25 ≤ x2) → ((30 ≤ x2) → ((x2 = 30) → (((S.1 25) = 0) → wp_M_fail (fun S6 : StM => (wq_M_perform_123 post  S6 )) S (6)) ∧ (¬ ((S.1 25) = 0) → wq_M_perform_123 post  S )) ∧ (¬ (x2 = 30) → ((37 ≤ x2) → ((x2 = 37) → wp_M_block (fun S4 : StM => (wq_M_perform_224 post  S4 )) S ) ∧ (¬ (x2 = 37) → ((x2 = 38) → (((S.1 34) < 0) → wq_M_perform_224 post  S ) ∧ (¬ ((S.1 34) < 0) → (vp_in (S.1 34) 2) ∧ (wq_M_perform_224 post  (S.1, (va_up S.2.1 33 (upd (S.2.1 33) (Int32.toNatClampNeg ((S.1 34))) (vp_nar .boolean (1)))), S.2.2) ))) ∧ (¬ (x2 = 38) → ((x2 = 39) → wp_M_write (fun S2 : StM => (wp_M_write (fun S3 : StM => (wq_M_perform_224 post  S3 )) S2 (1))) S (0)) ∧ (¬ (x2 = 39) → wp_M_control (fun S1 : StM => (wq_M_perform_224 post  S1 )) S (x2))))) ∧ (¬ (37 ≤ x2) → wp_M_parsing (fun S5 : StM => (wq_M_perform_224 post  S5 )) S (x2)))) ∧ (¬ (30 ≤ x2) → wp_M_returns (fun S7 : StM => (wq_M_perform_224 post  S7 )) S (x2))) ∧ (¬ (25 ≤ x2) → wp_M_store (fun S8 : StM => (wq_M_perform_224 post  S8 )) S (x2))) ∧ (¬ (19 ≤ x2) → wp_M_shuffle (fun S9 : StM => (wq_M_perform_224 post  S9 )) S (x2))) ∧ (¬ (10 ≤ x2) → wp_M_arithmetic (fun S10 : StM => (wq_M_perform_224 post  S10 )) S (x2))) ∧ (¬ (x2 < 100) → wp_M_enter (fun S11 : StM => (wq_M_perform_224 post  S11 )) S ((x2 - 100)))) ∧ (¬ ((S.1 14) ≤ 0) → post S)
def wq_M_perform_2 (post : StM → Prop)  : Nat → StM → Int32 → Prop
  | 0, _, _ => False
  | n2 + 1, S, x2 =>
    (((S.1 14) = 0) → ((x2 = 31) → wp_M_target (fun (r13 : Int32) (S12 : StM) => ((wq_M_perform_2 post  n2) S12 (r13))) S ) ∧ (¬ (x2 = 31) → wq_M_perform_23 post  S (x2))) ∧ (¬ ((S.1 14) = 0) → wq_M_perform_23 post  S (x2))
def wp_M_perform (post : StM → Prop) (S : StM) (a0 : Int32) : Prop :=
  ∃ nn : Nat, wq_M_perform_2 post  nn S (a0)
set_option maxRecDepth 100000 in
set_option maxHeartbeats 4000000 in
theorem c_M_perform (l : Launch) (g : Gm) (sz : Nat) (S : StM) (a0 : Int32) (post : StM → Prop) (hw : wp_M_perform post S a0) : Met l y_M_perform (.code y_M_perform b_M_perform 3 none :: w_M) (rmM 5 112) (va_Pc [.ref (g.2.2 0), .int (a0)] (PM g sz S)) (va_Qv post (BM g sz) (AM g sz)) 0 0 (AM g sz) := by
  refine ofM_v (by decide) (Nat.le_of_ble_eq_true rfl) (fun p e s m args below meth c Q H locs ls hx hb hml hts hown hK hA kr hl hP hD hS => ?_)
  have hl : lv_has ls 3 [(0, .ref (g.2.2 0)), (1, .int (a0))] := hl
  unfold wp_M_perform at hw
  have J224 : ∀ (S : StM)  (H : Heap) (locs : List Loc) (ls : Array Slot), wq_M_perform_224 post  S  → lv_has ls 3 [] → va_P g.1 classes (wM g S) H → va_D (AM g s.heap.size) (wM g S) → va_S (AM g s.heap.size) s.heap H locs → W p l e (rmM 5 112) s m args below meth c H locs 0 0 Q (F0 m 224 ls []) := by
    intro S  H locs ls hw hl hP hD hS
    unfold wq_M_perform_224 at hw
    exact kr S _ _ _ _ hw hP hD hS d_M_perform_224
  have J141 : ∀ (S : StM) (t0 : Int32) (H : Heap) (locs : List Loc) (ls : Array Slot), wq_M_perform_141 post  S t0 → lv_has ls 3 [] → va_P g.1 classes (wM g S) H → va_D (AM g s.heap.size) (wM g S) → va_S (AM g s.heap.size) s.heap H locs → W p l e (rmM 5 112) s m args below meth c H locs 0 0 Q (F0 m 141 ls [.int (t0), .ref (g.2.2 0)]) := by
    intro S t0 H locs ls hw hl hP hD hS
    unfold wq_M_perform_141 at hw
    refine pt_M (S2 := ((upd S.1 25 (t0)), S.2)) (v := .int (t0)) hx hb hown hts hK hP hD hS 25 (by decide) rfl rfl rfl (sI_M_25 g _ _) k_M_131 d_M_perform_141 (fun H locs hP hD hS => ?_)
    refine lv_goto hx hb d_M_perform_144 (tgt := 224) (by decide) ?_
    exact J224 ((upd S.1 25 (t0)), S.2)  _ _ _ hw (lv_sub hl [] rfl) hP hD hS
  have J123 : ∀ (S : StM)  (H : Heap) (locs : List Loc) (ls : Array Slot), wq_M_perform_123 post  S  → lv_has ls 3 [(0, .ref (g.2.2 0))] → va_P g.1 classes (wM g S) H → va_D (AM g s.heap.size) (wM g S) → va_S (AM g s.heap.size) s.heap H locs → W p l e (rmM 5 112) s m args below meth c H locs 0 0 Q (F0 m 123 ls []) := by
    intro S  H locs ls hw hl hP hD hS
    unfold wq_M_perform_123 at hw
    refine lv_aload_n hx hb d_M_perform_123 rfl (lv_at hl 0 rfl) ?_
    refine lv_aload_n hx hb d_M_perform_124 rfl (lv_at hl 0 rfl) ?_
    refine gt_M (v := .int ((S.1 25))) hx hb hown hts hK hP 25 (by decide) rfl k_M_131 d_M_perform_125 ?_
    refine lv_if_le hx hb d_M_perform_128 (tgt := 140) (by decide) (fun hc => ?_) (fun hc => ?_)
    · have hw := hw.1 hc
      refine lv_iconst (v := 0) hx hb d_M_perform_140 (by decide) ?_
      exact J141 S (0) _ _ _ hw (lv_sub hl [] rfl) hP hD hS
    · have hw := hw.2 hc
      refine lv_aload_n hx hb d_M_perform_131 rfl (lv_at hl 0 rfl) ?_
      refine gt_M (v := .int ((S.1 25))) hx hb hown hts hK hP 25 (by decide) rfl k_M_131 d_M_perform_132 ?_
      refine lv_iconst (v := 1) hx hb d_M_perform_135 (by decide) ?_
      refine lv_isub hx hb d_M_perform_136 ?_
      refine lv_goto hx hb d_M_perform_137 (tgt := 141) (by decide) ?_
      exact J141 S (((S.1 25) - 1)) _ _ _ hw (lv_sub hl [] rfl) hP hD hS
  have J23 : ∀ (S : StM) (x2 : Int32) (H : Heap) (locs : List Loc) (ls : Array Slot), wq_M_perform_23 post  S x2 → lv_has ls 3 [(0, .ref (g.2.2 0)), (2, .int (x2))] → va_P g.1 classes (wM g S) H → va_D (AM g s.heap.size) (wM g S) → va_S (AM g s.heap.size) s.heap H locs → W p l e (rmM 5 112) s m args below meth c H locs 0 0 Q (F0 m 23 ls []) := by
    intro S x2 H locs ls hw hl hP hD hS
    unfold wq_M_perform_23 at hw
    refine lv_aload_n hx hb d_M_perform_23 rfl (lv_at hl 0 rfl) ?_
    refine gt_M (v := .int ((S.1 14))) hx hb hown hts hK hP 14 (by decide) rfl k_M_120 d_M_perform_24 ?_
    refine lv_if_le hx hb d_M_perform_27 (tgt := 31) (by decide) (fun hc => ?_) (fun hc => ?_)
    · have hw := hw.1 hc
      refine lv_iload_n hx hb d_M_perform_31 rfl (lv_at hl 1 rfl) ?_
      refine lv_bipush (v := 100) hx hb d_M_perform_32 (by decide) ?_
      refine lv_icmp_lt hx hb d_M_perform_34 (tgt := 48) (by decide) (fun hc => ?_) (fun hc => ?_)
      · have hw := hw.1 hc
        refine lv_iload_n hx hb d_M_perform_48 rfl (lv_at hl 1 rfl) ?_
        refine lv_bipush (v := 10) hx hb d_M_perform_49 (by decide) ?_
        refine lv_icmp_ge hx hb d_M_perform_51 (tgt := 62) (by decide) (fun hc => ?_) (fun hc => ?_)
        · have hw := hw.1 hc
          refine lv_iload_n hx hb d_M_perform_62 rfl (lv_at hl 1 rfl) ?_
          refine lv_bipush (v := 19) hx hb d_M_perform_63 (by decide) ?_
          refine lv_icmp_ge hx hb d_M_perform_65 (tgt := 76) (by decide) (fun hc => ?_) (fun hc => ?_)
          · have hw := hw.1 hc
            refine lv_iload_n hx hb d_M_perform_76 rfl (lv_at hl 1 rfl) ?_
            refine lv_bipush (v := 25) hx hb d_M_perform_77 (by decide) ?_
            refine lv_icmp_ge hx hb d_M_perform_79 (tgt := 90) (by decide) (fun hc => ?_) (fun hc => ?_)
            · have hw := hw.1 hc
              refine lv_iload_n hx hb d_M_perform_90 rfl (lv_at hl 1 rfl) ?_
              refine lv_bipush (v := 30) hx hb d_M_perform_91 (by decide) ?_
              refine lv_icmp_ge hx hb d_M_perform_93 (tgt := 104) (by decide) (fun hc => ?_) (fun hc => ?_)
              · have hw := hw.1 hc
                refine lv_iload_n hx hb d_M_perform_104 rfl (lv_at hl 1 rfl) ?_
                refine lv_bipush (v := 30) hx hb d_M_perform_105 (by decide) ?_
                refine lv_icmp_ne hx hb d_M_perform_107 (tgt := 147) (by decide) (fun hc => ?_) (fun hc => ?_)
                · have hw := hw.2 hc
                  refine lv_iload_n hx hb d_M_perform_147 rfl (lv_at hl 1 rfl) ?_
                  refine lv_bipush (v := 37) hx hb d_M_perform_148 (by decide) ?_
                  refine lv_icmp_ge hx hb d_M_perform_150 (tgt := 161) (by decide) (fun hc => ?_) (fun hc => ?_)
                  · have hw := hw.1 hc
                    refine lv_iload_n hx hb d_M_perform_161 rfl (lv_at hl 1 rfl) ?_
                    refine lv_bipush (v := 37) hx hb d_M_perform_162 (by decide) ?_
                    refine lv_icmp_ne hx hb d_M_perform_164 (tgt := 174) (by decide) (fun hc => ?_) (fun hc => ?_)
                    · have hw := hw.2 hc
                      refine lv_iload_n hx hb d_M_perform_174 rfl (lv_at hl 1 rfl) ?_
                      refine lv_bipush (v := 38) hx hb d_M_perform_175 (by decide) ?_
                      refine lv_icmp_ne hx hb d_M_perform_177 (tgt := 200) (by decide) (fun hc => ?_) (fun hc => ?_)
                      · have hw := hw.2 hc
                        refine lv_iload_n hx hb d_M_perform_200 rfl (lv_at hl 1 rfl) ?_
                        refine lv_bipush (v := 39) hx hb d_M_perform_201 (by decide) ?_
                        refine lv_icmp_ne hx hb d_M_perform_203 (tgt := 219) (by decide) (fun hc => ?_) (fun hc => ?_)
                        · have hw := hw.2 hc
                          refine lv_aload_n hx hb d_M_perform_219 rfl (lv_at hl 0 rfl) ?_
                          refine lv_iload_n hx hb d_M_perform_220 rfl (lv_at hl 1 rfl) ?_
                          refine cM_v (As := [.int (x2)]) (rest := []) hx hb hml hown hts hK hP hD hS hA (Nat.zero_le _) (Nat.zero_le _) hl.1 (q_M_control hts ⟨Nat.le_of_ble_eq_true rfl, Nat.le_of_ble_eq_true rfl⟩) (c_M_control l g H.size _ (x2) _ hw) rfl rfl (Nat.le_of_ble_eq_true rfl) d_M_perform_221 (fun S1 H locs hw hP hD hS => ?_)
                          exact J224 S1  _ _ _ hw (lv_sub hl [] rfl) hP hD hS
                        · have hw := hw.1 hc
                          refine lv_aload_n hx hb d_M_perform_206 rfl (lv_at hl 0 rfl) ?_
                          refine lv_iconst (v := 0) hx hb d_M_perform_207 (by decide) ?_
                          refine cM_v (As := [.int (0)]) (rest := []) hx hb hml hown hts hK hP hD hS hA (Nat.zero_le _) (Nat.zero_le _) hl.1 (q_M_write hts ⟨Nat.le_of_ble_eq_true rfl, Nat.le_of_ble_eq_true rfl⟩) (c_M_write l g H.size _ (0) _ hw) rfl rfl (Nat.le_of_ble_eq_true rfl) d_M_perform_208 (fun S2 H locs hw hP hD hS => ?_)
                          refine lv_aload_n hx hb d_M_perform_211 rfl (lv_at hl 0 rfl) ?_
                          refine lv_iconst (v := 1) hx hb d_M_perform_212 (by decide) ?_
                          refine cM_v (As := [.int (1)]) (rest := []) hx hb hml hown hts hK hP hD hS hA (Nat.zero_le _) (Nat.zero_le _) hl.1 (q_M_write hts ⟨Nat.le_of_ble_eq_true rfl, Nat.le_of_ble_eq_true rfl⟩) (c_M_write l g H.size _ (1) _ hw) rfl rfl (Nat.le_of_ble_eq_true rfl) d_M_perform_213 (fun S3 H locs hw hP hD hS => ?_)
                          refine lv_goto hx hb d_M_perform_216 (tgt := 224) (by decide) ?_
                          exact J224 S3  _ _ _ hw (lv_sub hl [] rfl) hP hD hS
                      · have hw := hw.1 hc
                        refine lv_aload_n hx hb d_M_perform_180 rfl (lv_at hl 0 rfl) ?_
                        refine gt_M (v := .int ((S.1 34))) hx hb hown hts hK hP 34 (by decide) rfl k_M_140 d_M_perform_181 ?_
                        refine lv_if_lt hx hb d_M_perform_184 (tgt := 224) (by decide) (fun hc => ?_) (fun hc => ?_)
                        · have hw := hw.1 hc
                          exact J224 S  _ _ _ hw (lv_sub hl [] rfl) hP hD hS
                        · have hw := hw.2 hc
                          refine lv_aload_n hx hb d_M_perform_187 rfl (lv_at hl 0 rfl) ?_
                          refine gt_M (v := .ref (g.2.2 34)) hx hb hown hts hK hP 33 (by decide) rfl k_M_139 d_M_perform_188 ?_
                          refine lv_aload_n hx hb d_M_perform_191 rfl (lv_at hl 0 rfl) ?_
                          refine gt_M (v := .int ((S.1 34))) hx hb hown hts hK hP 34 (by decide) rfl k_M_140 d_M_perform_192 ?_
                          refine lv_iconst (v := 1) hx hb d_M_perform_195 (by decide) ?_
                          obtain ⟨hi, hw⟩ := hw
                          refine za_M (S2 := (S.1, (va_up S.2.1 33 (upd (S.2.1 33) (Int32.toNatClampNeg ((S.1 34))) (vp_nar .boolean (1)))), S.2.2)) (f := (S.2.1 33)) hx hb hK hP hD hS 20 rfl hi d_M_perform_196 (sA_M_33 g _ _) (fun H locs hP hD hS => ?_)
                          refine lv_goto hx hb d_M_perform_197 (tgt := 224) (by decide) ?_
                          exact J224 (S.1, (va_up S.2.1 33 (upd (S.2.1 33) (Int32.toNatClampNeg ((S.1 34))) (vp_nar .boolean (1)))), S.2.2)  _ _ _ hw (lv_sub hl [] rfl) hP hD hS
                    · have hw := hw.1 hc
                      refine lv_aload_n hx hb d_M_perform_167 rfl (lv_at hl 0 rfl) ?_
                      refine cM_v (As := []) (rest := []) hx hb hml hown hts hK hP hD hS hA (Nat.zero_le _) (Nat.zero_le _) hl.1 (q_M_block hts ⟨Nat.le_of_ble_eq_true rfl, Nat.le_of_ble_eq_true rfl⟩) (c_M_block l g H.size _  _ hw) rfl rfl (Nat.le_of_ble_eq_true rfl) d_M_perform_168 (fun S4 H locs hw hP hD hS => ?_)
                      refine lv_goto hx hb d_M_perform_171 (tgt := 224) (by decide) ?_
                      exact J224 S4  _ _ _ hw (lv_sub hl [] rfl) hP hD hS
                  · have hw := hw.2 hc
                    refine lv_aload_n hx hb d_M_perform_153 rfl (lv_at hl 0 rfl) ?_
                    refine lv_iload_n hx hb d_M_perform_154 rfl (lv_at hl 1 rfl) ?_
                    refine cM_v (As := [.int (x2)]) (rest := []) hx hb hml hown hts hK hP hD hS hA (Nat.zero_le _) (Nat.zero_le _) hl.1 (q_M_parsing hts ⟨Nat.le_of_ble_eq_true rfl, Nat.le_of_ble_eq_true rfl⟩) (c_M_parsing l g H.size _ (x2) _ hw) rfl rfl (Nat.le_of_ble_eq_true rfl) d_M_perform_155 (fun S5 H locs hw hP hD hS => ?_)
                    refine lv_goto hx hb d_M_perform_158 (tgt := 224) (by decide) ?_
                    exact J224 S5  _ _ _ hw (lv_sub hl [] rfl) hP hD hS
                · have hw := hw.1 hc
                  refine lv_aload_n hx hb d_M_perform_110 rfl (lv_at hl 0 rfl) ?_
                  refine gt_M (v := .int ((S.1 25))) hx hb hown hts hK hP 25 (by decide) rfl k_M_131 d_M_perform_111 ?_
                  refine lv_if_ne hx hb d_M_perform_114 (tgt := 123) (by decide) (fun hc => ?_) (fun hc => ?_)
                  · have hw := hw.2 hc
                    exact J123 S  _ _ _ hw (lv_sub hl [0] rfl) hP hD hS
                  · have hw := hw.1 hc
                    refine lv_aload_n hx hb d_M_perform_117 rfl (lv_at hl 0 rfl) ?_
                    refine lv_bipush (v := 6) hx hb d_M_perform_118 (by decide) ?_
                    refine cM_v (As := [.int (6)]) (rest := []) hx hb hml hown hts hK hP hD hS hA (Nat.zero_le _) (Nat.zero_le _) hl.1 (q_M_fail hts ⟨Nat.le_of_ble_eq_true rfl, Nat.le_of_ble_eq_true rfl⟩) (c_M_fail l g H.size _ (6) _ hw) rfl rfl (Nat.le_of_ble_eq_true rfl) d_M_perform_120 (fun S6 H locs hw hP hD hS => ?_)
                    exact J123 S6  _ _ _ hw (lv_sub hl [0] rfl) hP hD hS
              · have hw := hw.2 hc
                refine lv_aload_n hx hb d_M_perform_96 rfl (lv_at hl 0 rfl) ?_
                refine lv_iload_n hx hb d_M_perform_97 rfl (lv_at hl 1 rfl) ?_
                refine cM_v (As := [.int (x2)]) (rest := []) hx hb hml hown hts hK hP hD hS hA (Nat.zero_le _) (Nat.zero_le _) hl.1 (q_M_returns hts ⟨Nat.le_of_ble_eq_true rfl, Nat.le_of_ble_eq_true rfl⟩) (c_M_returns l g H.size _ (x2) _ hw) rfl rfl (Nat.le_of_ble_eq_true rfl) d_M_perform_98 (fun S7 H locs hw hP hD hS => ?_)
                refine lv_goto hx hb d_M_perform_101 (tgt := 224) (by decide) ?_
                exact J224 S7  _ _ _ hw (lv_sub hl [] rfl) hP hD hS
            · have hw := hw.2 hc
              refine lv_aload_n hx hb d_M_perform_82 rfl (lv_at hl 0 rfl) ?_
              refine lv_iload_n hx hb d_M_perform_83 rfl (lv_at hl 1 rfl) ?_
              refine cM_v (As := [.int (x2)]) (rest := []) hx hb hml hown hts hK hP hD hS hA (Nat.zero_le _) (Nat.zero_le _) hl.1 (q_M_store hts ⟨Nat.le_of_ble_eq_true rfl, Nat.le_of_ble_eq_true rfl⟩) (c_M_store l g H.size _ (x2) _ hw) rfl rfl (Nat.le_of_ble_eq_true rfl) d_M_perform_84 (fun S8 H locs hw hP hD hS => ?_)
              refine lv_goto hx hb d_M_perform_87 (tgt := 224) (by decide) ?_
              exact J224 S8  _ _ _ hw (lv_sub hl [] rfl) hP hD hS
          · have hw := hw.2 hc
            refine lv_aload_n hx hb d_M_perform_68 rfl (lv_at hl 0 rfl) ?_
            refine lv_iload_n hx hb d_M_perform_69 rfl (lv_at hl 1 rfl) ?_
            refine cM_v (As := [.int (x2)]) (rest := []) hx hb hml hown hts hK hP hD hS hA (Nat.zero_le _) (Nat.zero_le _) hl.1 (q_M_shuffle hts ⟨Nat.le_of_ble_eq_true rfl, Nat.le_of_ble_eq_true rfl⟩) (c_M_shuffle l g H.size _ (x2) _ hw) rfl rfl (Nat.le_of_ble_eq_true rfl) d_M_perform_70 (fun S9 H locs hw hP hD hS => ?_)
            refine lv_goto hx hb d_M_perform_73 (tgt := 224) (by decide) ?_
            exact J224 S9  _ _ _ hw (lv_sub hl [] rfl) hP hD hS
        · have hw := hw.2 hc
          refine lv_aload_n hx hb d_M_perform_54 rfl (lv_at hl 0 rfl) ?_
          refine lv_iload_n hx hb d_M_perform_55 rfl (lv_at hl 1 rfl) ?_
          refine cM_v (As := [.int (x2)]) (rest := []) hx hb hml hown hts hK hP hD hS hA (Nat.zero_le _) (Nat.zero_le _) hl.1 (q_M_arithmetic hts ⟨Nat.le_of_ble_eq_true rfl, Nat.le_of_ble_eq_true rfl⟩) (c_M_arithmetic l g H.size _ (x2) _ hw) rfl rfl (Nat.le_of_ble_eq_true rfl) d_M_perform_56 (fun S10 H locs hw hP hD hS => ?_)
          refine lv_goto hx hb d_M_perform_59 (tgt := 224) (by decide) ?_
          exact J224 S10  _ _ _ hw (lv_sub hl [] rfl) hP hD hS
      · have hw := hw.2 hc
        refine lv_aload_n hx hb d_M_perform_37 rfl (lv_at hl 0 rfl) ?_
        refine lv_iload_n hx hb d_M_perform_38 rfl (lv_at hl 1 rfl) ?_
        refine lv_bipush (v := 100) hx hb d_M_perform_39 (by decide) ?_
        refine lv_isub hx hb d_M_perform_41 ?_
        refine cM_v (As := [.int ((x2 - 100))]) (rest := []) hx hb hml hown hts hK hP hD hS hA (Nat.zero_le _) (Nat.zero_le _) hl.1 (q_M_enter hts ⟨Nat.le_of_ble_eq_true rfl, Nat.le_of_ble_eq_true rfl⟩) (c_M_enter l g H.size _ ((x2 - 100)) _ hw) rfl rfl (Nat.le_of_ble_eq_true rfl) d_M_perform_42 (fun S11 H locs hw hP hD hS => ?_)
        refine lv_goto hx hb d_M_perform_45 (tgt := 224) (by decide) ?_
        exact J224 S11  _ _ _ hw (lv_sub hl [] rfl) hP hD hS
    · have hw := hw.2 hc
      exact kr S _ _ _ _ hw hP hD hS d_M_perform_30
  have J2 : ∀ (n2 : Nat), ∀ (S : StM) (x2 : Int32) (H : Heap) (locs : List Loc) (ls : Array Slot), wq_M_perform_2 post  n2 S x2 → lv_has ls 3 [(0, .ref (g.2.2 0)), (2, .int (x2))] → va_P g.1 classes (wM g S) H → va_D (AM g s.heap.size) (wM g S) → va_S (AM g s.heap.size) s.heap H locs → W p l e (rmM 5 112) s m args below meth c H locs 0 0 Q (F0 m 2 ls []) := by
    intro n2
    induction n2 with
    | zero => intro S x2 H locs ls hw; exact hw.elim
    | succ n2 ih2 =>
      intro S x2 H locs ls hw hl hP hD hS
      unfold wq_M_perform_2 at hw
      refine lv_aload_n hx hb d_M_perform_2 rfl (lv_at hl 0 rfl) ?_
      refine gt_M (v := .int ((S.1 14))) hx hb hown hts hK hP 14 (by decide) rfl k_M_120 d_M_perform_3 ?_
      refine lv_if_ne hx hb d_M_perform_6 (tgt := 23) (by decide) (fun hc => ?_) (fun hc => ?_)
      · have hw := hw.2 hc
        exact J23 S (x2) _ _ _ hw (lv_sub hl [0, 1] rfl) hP hD hS
      · have hw := hw.1 hc
        refine lv_iload_n hx hb d_M_perform_9 rfl (lv_at hl 1 rfl) ?_
        refine lv_bipush (v := 31) hx hb d_M_perform_10 (by decide) ?_
        refine lv_icmp_ne hx hb d_M_perform_12 (tgt := 23) (by decide) (fun hc => ?_) (fun hc => ?_)
        · have hw := hw.2 hc
          exact J23 S (x2) _ _ _ hw (lv_sub hl [0, 1] rfl) hP hD hS
        · have hw := hw.1 hc
          refine lv_aload_n hx hb d_M_perform_15 rfl (lv_at hl 0 rfl) ?_
          refine cM_i (As := []) (rest := []) hx hb hml hown hts hK hP hD hS hA (Nat.zero_le _) (Nat.zero_le _) hl.1 (q_M_target hts ⟨Nat.le_of_ble_eq_true rfl, Nat.le_of_ble_eq_true rfl⟩) (c_M_target l g H.size _  _ hw) rfl rfl (Nat.le_of_ble_eq_true rfl) d_M_perform_16 (fun r13 S12 H locs hw hP hD hS => ?_)
          refine lv_istore_n (lv' := [(2, .int (r13)), (0, .ref (g.2.2 0))]) hx hb d_M_perform_19 rfl hl (by decide) rfl (fun ls hl => ?_)
          refine lv_goto hx hb d_M_perform_20 (tgt := 2) (by decide) ?_
          exact ih2 S12 (r13) _ _ _ hw (lv_sub hl [1, 0] rfl) hP hD hS
  refine lv_iload_n hx hb d_M_perform_0 rfl (lv_at hl 1 rfl) ?_
  refine lv_istore_n (lv' := [(2, .int (a0)), (0, .ref (g.2.2 0)), (1, .int (a0))]) hx hb d_M_perform_1 rfl hl (by decide) rfl (fun ls hl => ?_)
  obtain ⟨nn, hw⟩ := hw
  exact J2 nn S (a0) _ _ _ hw (lv_sub hl [1, 0] rfl) hP hD hS
theorem d_M_burn_0 : decode b_M_burn 0 = .ok (.aload_n 0, 1) := by decide +kernel
theorem d_M_burn_1 : decode b_M_burn 1 = .ok (.getfield 325, 3) := by decide +kernel
theorem d_M_burn_4 : decode b_M_burn 4 = .ok (.ifCond .ne 9, 3) := by decide +kernel
theorem d_M_burn_7 : decode b_M_burn 7 = .ok (.aload_n 0, 1) := by decide +kernel
theorem d_M_burn_8 : decode b_M_burn 8 = .ok (.bipush 7, 2) := by decide +kernel
theorem d_M_burn_10 : decode b_M_burn 10 = .ok (.invokevirtual 196, 3) := by decide +kernel
theorem d_M_burn_13 : decode b_M_burn 13 = .ok (.aload_n 0, 1) := by decide +kernel
theorem d_M_burn_14 : decode b_M_burn 14 = .ok (.aload_n 0, 1) := by decide +kernel
theorem d_M_burn_15 : decode b_M_burn 15 = .ok (.getfield 325, 3) := by decide +kernel
theorem d_M_burn_18 : decode b_M_burn 18 = .ok (.ifCond .le 12, 3) := by decide +kernel
theorem d_M_burn_21 : decode b_M_burn 21 = .ok (.aload_n 0, 1) := by decide +kernel
theorem d_M_burn_22 : decode b_M_burn 22 = .ok (.getfield 325, 3) := by decide +kernel
theorem d_M_burn_25 : decode b_M_burn 25 = .ok (.iconst 1, 1) := by decide +kernel
theorem d_M_burn_26 : decode b_M_burn 26 = .ok (.isub, 1) := by decide +kernel
theorem d_M_burn_27 : decode b_M_burn 27 = .ok (.goto 4, 3) := by decide +kernel
theorem d_M_burn_30 : decode b_M_burn 30 = .ok (.iconst 0, 1) := by decide +kernel
theorem d_M_burn_31 : decode b_M_burn 31 = .ok (.putfield 325, 3) := by decide +kernel
theorem d_M_burn_34 : decode b_M_burn 34 = .ok (.return_, 1) := by decide +kernel
def wq_M_burn_31 (post : StM → Prop)  (S : StM) (t0 : Int32) : Prop :=
  post ((upd S.1 13 (t0)), S.2)
def wq_M_burn_13 (post : StM → Prop)  (S : StM)  : Prop :=
  (((S.1 13) ≤ 0) → wq_M_burn_31 post  S (0)) ∧ (¬ ((S.1 13) ≤ 0) → wq_M_burn_31 post  S (((S.1 13) - 1)))
def wp_M_burn (post : StM → Prop) (S : StM)  : Prop :=
  (((S.1 13) = 0) → wp_M_fail (fun S1 : StM => (wq_M_burn_13 post  S1 )) S (7)) ∧ (¬ ((S.1 13) = 0) → wq_M_burn_13 post  S )
set_option maxRecDepth 100000 in
set_option maxHeartbeats 4000000 in
theorem c_M_burn (l : Launch) (g : Gm) (sz : Nat) (S : StM)  (post : StM → Prop) (hw : wp_M_burn post S ) : Met l y_M_burn (.code y_M_burn b_M_burn 1 none :: w_M) (rmM 1 21) (va_Pc [.ref (g.2.2 0)] (PM g sz S)) (va_Qv post (BM g sz) (AM g sz)) 0 0 (AM g sz) := by
  refine ofM_v (by decide) (Nat.le_of_ble_eq_true rfl) (fun p e s m args below meth c Q H locs ls hx hb hml hts hown hK hA kr hl hP hD hS => ?_)
  have hl : lv_has ls 1 [(0, .ref (g.2.2 0))] := hl
  unfold wp_M_burn at hw
  have J31 : ∀ (S : StM) (t0 : Int32) (H : Heap) (locs : List Loc) (ls : Array Slot), wq_M_burn_31 post  S t0 → lv_has ls 1 [] → va_P g.1 classes (wM g S) H → va_D (AM g s.heap.size) (wM g S) → va_S (AM g s.heap.size) s.heap H locs → W p l e (rmM 1 21) s m args below meth c H locs 0 0 Q (F0 m 31 ls [.int (t0), .ref (g.2.2 0)]) := by
    intro S t0 H locs ls hw hl hP hD hS
    unfold wq_M_burn_31 at hw
    refine pt_M (S2 := ((upd S.1 13 (t0)), S.2)) (v := .int (t0)) hx hb hown hts hK hP hD hS 13 (by decide) rfl rfl rfl (sI_M_13 g _ _) k_M_119 d_M_burn_31 (fun H locs hP hD hS => ?_)
    exact kr ((upd S.1 13 (t0)), S.2) _ _ _ _ hw hP hD hS d_M_burn_34
  have J13 : ∀ (S : StM)  (H : Heap) (locs : List Loc) (ls : Array Slot), wq_M_burn_13 post  S  → lv_has ls 1 [(0, .ref (g.2.2 0))] → va_P g.1 classes (wM g S) H → va_D (AM g s.heap.size) (wM g S) → va_S (AM g s.heap.size) s.heap H locs → W p l e (rmM 1 21) s m args below meth c H locs 0 0 Q (F0 m 13 ls []) := by
    intro S  H locs ls hw hl hP hD hS
    unfold wq_M_burn_13 at hw
    refine lv_aload_n hx hb d_M_burn_13 rfl (lv_at hl 0 rfl) ?_
    refine lv_aload_n hx hb d_M_burn_14 rfl (lv_at hl 0 rfl) ?_
    refine gt_M (v := .int ((S.1 13))) hx hb hown hts hK hP 13 (by decide) rfl k_M_119 d_M_burn_15 ?_
    refine lv_if_le hx hb d_M_burn_18 (tgt := 30) (by decide) (fun hc => ?_) (fun hc => ?_)
    · have hw := hw.1 hc
      refine lv_iconst (v := 0) hx hb d_M_burn_30 (by decide) ?_
      exact J31 S (0) _ _ _ hw (lv_sub hl [] rfl) hP hD hS
    · have hw := hw.2 hc
      refine lv_aload_n hx hb d_M_burn_21 rfl (lv_at hl 0 rfl) ?_
      refine gt_M (v := .int ((S.1 13))) hx hb hown hts hK hP 13 (by decide) rfl k_M_119 d_M_burn_22 ?_
      refine lv_iconst (v := 1) hx hb d_M_burn_25 (by decide) ?_
      refine lv_isub hx hb d_M_burn_26 ?_
      refine lv_goto hx hb d_M_burn_27 (tgt := 31) (by decide) ?_
      exact J31 S (((S.1 13) - 1)) _ _ _ hw (lv_sub hl [] rfl) hP hD hS
  refine lv_aload_n hx hb d_M_burn_0 rfl (lv_at hl 0 rfl) ?_
  refine gt_M (v := .int ((S.1 13))) hx hb hown hts hK hP 13 (by decide) rfl k_M_119 d_M_burn_1 ?_
  refine lv_if_ne hx hb d_M_burn_4 (tgt := 13) (by decide) (fun hc => ?_) (fun hc => ?_)
  · have hw := hw.2 hc
    exact J13 S  _ _ _ hw (lv_sub hl [0] rfl) hP hD hS
  · have hw := hw.1 hc
    refine lv_aload_n hx hb d_M_burn_7 rfl (lv_at hl 0 rfl) ?_
    refine lv_bipush (v := 7) hx hb d_M_burn_8 (by decide) ?_
    refine cM_v (As := [.int (7)]) (rest := []) hx hb hml hown hts hK hP hD hS hA (Nat.zero_le _) (Nat.zero_le _) hl.1 (q_M_fail hts ⟨Nat.le_of_ble_eq_true rfl, Nat.le_of_ble_eq_true rfl⟩) (c_M_fail l g H.size _ (7) _ hw) rfl rfl (Nat.le_of_ble_eq_true rfl) d_M_burn_10 (fun S1 H locs hw hP hD hS => ?_)
    exact J13 S1  _ _ _ hw (lv_sub hl [0] rfl) hP hD hS
theorem d_M_beginLoop_0 : decode b_M_beginLoop 0 = .ok (.aload_n 0, 1) := by decide +kernel
theorem d_M_beginLoop_1 : decode b_M_beginLoop 1 = .ok (.iconst 2, 1) := by decide +kernel
theorem d_M_beginLoop_2 : decode b_M_beginLoop 2 = .ok (.invokevirtual 230, 3) := by decide +kernel
theorem d_M_beginLoop_5 : decode b_M_beginLoop 5 = .ok (.ifCond .ne 4, 3) := by decide +kernel
theorem d_M_beginLoop_8 : decode b_M_beginLoop 8 = .ok (.return_, 1) := by decide +kernel
theorem d_M_beginLoop_9 : decode b_M_beginLoop 9 = .ok (.aload_n 0, 1) := by decide +kernel
theorem d_M_beginLoop_10 : decode b_M_beginLoop 10 = .ok (.getfield 54, 3) := by decide +kernel
theorem d_M_beginLoop_13 : decode b_M_beginLoop 13 = .ok (.iload_n 1, 1) := by decide +kernel
theorem d_M_beginLoop_14 : decode b_M_beginLoop 14 = .ok (.iaload, 1) := by decide +kernel
theorem d_M_beginLoop_15 : decode b_M_beginLoop 15 = .ok (.iconst 4, 1) := by decide +kernel
theorem d_M_beginLoop_16 : decode b_M_beginLoop 16 = .ok (.if_icmp .lt 9, 3) := by decide +kernel
theorem d_M_beginLoop_19 : decode b_M_beginLoop 19 = .ok (.aload_n 0, 1) := by decide +kernel
theorem d_M_beginLoop_20 : decode b_M_beginLoop 20 = .ok (.iconst 3, 1) := by decide +kernel
theorem d_M_beginLoop_21 : decode b_M_beginLoop 21 = .ok (.invokevirtual 196, 3) := by decide +kernel
theorem d_M_beginLoop_24 : decode b_M_beginLoop 24 = .ok (.return_, 1) := by decide +kernel
theorem d_M_beginLoop_25 : decode b_M_beginLoop 25 = .ok (.iconst 4, 1) := by decide +kernel
theorem d_M_beginLoop_26 : decode b_M_beginLoop 26 = .ok (.iload_n 1, 1) := by decide +kernel
theorem d_M_beginLoop_27 : decode b_M_beginLoop 27 = .ok (.imul, 1) := by decide +kernel
theorem d_M_beginLoop_28 : decode b_M_beginLoop 28 = .ok (.aload_n 0, 1) := by decide +kernel
theorem d_M_beginLoop_29 : decode b_M_beginLoop 29 = .ok (.getfield 54, 3) := by decide +kernel
theorem d_M_beginLoop_32 : decode b_M_beginLoop 32 = .ok (.iload_n 1, 1) := by decide +kernel
theorem d_M_beginLoop_33 : decode b_M_beginLoop 33 = .ok (.iaload, 1) := by decide +kernel
theorem d_M_beginLoop_34 : decode b_M_beginLoop 34 = .ok (.iadd, 1) := by decide +kernel
theorem d_M_beginLoop_35 : decode b_M_beginLoop 35 = .ok (.istore_n 2, 1) := by decide +kernel
theorem d_M_beginLoop_36 : decode b_M_beginLoop 36 = .ok (.aload_n 0, 1) := by decide +kernel
theorem d_M_beginLoop_37 : decode b_M_beginLoop 37 = .ok (.getfield 57, 3) := by decide +kernel
theorem d_M_beginLoop_40 : decode b_M_beginLoop 40 = .ok (.iload_n 2, 1) := by decide +kernel
theorem d_M_beginLoop_41 : decode b_M_beginLoop 41 = .ok (.aload_n 0, 1) := by decide +kernel
theorem d_M_beginLoop_42 : decode b_M_beginLoop 42 = .ok (.invokevirtual 241, 3) := by decide +kernel
theorem d_M_beginLoop_45 : decode b_M_beginLoop 45 = .ok (.iastore, 1) := by decide +kernel
theorem d_M_beginLoop_46 : decode b_M_beginLoop 46 = .ok (.aload_n 0, 1) := by decide +kernel
theorem d_M_beginLoop_47 : decode b_M_beginLoop 47 = .ok (.getfield 60, 3) := by decide +kernel
theorem d_M_beginLoop_50 : decode b_M_beginLoop 50 = .ok (.iload_n 2, 1) := by decide +kernel
theorem d_M_beginLoop_51 : decode b_M_beginLoop 51 = .ok (.aload_n 0, 1) := by decide +kernel
theorem d_M_beginLoop_52 : decode b_M_beginLoop 52 = .ok (.invokevirtual 241, 3) := by decide +kernel
theorem d_M_beginLoop_55 : decode b_M_beginLoop 55 = .ok (.iastore, 1) := by decide +kernel
theorem d_M_beginLoop_56 : decode b_M_beginLoop 56 = .ok (.aload_n 0, 1) := by decide +kernel
theorem d_M_beginLoop_57 : decode b_M_beginLoop 57 = .ok (.getfield 54, 3) := by decide +kernel
theorem d_M_beginLoop_60 : decode b_M_beginLoop 60 = .ok (.iload_n 1, 1) := by decide +kernel
theorem d_M_beginLoop_61 : decode b_M_beginLoop 61 = .ok (.aload_n 0, 1) := by decide +kernel
theorem d_M_beginLoop_62 : decode b_M_beginLoop 62 = .ok (.getfield 54, 3) := by decide +kernel
theorem d_M_beginLoop_65 : decode b_M_beginLoop 65 = .ok (.iload_n 1, 1) := by decide +kernel
theorem d_M_beginLoop_66 : decode b_M_beginLoop 66 = .ok (.iaload, 1) := by decide +kernel
theorem d_M_beginLoop_67 : decode b_M_beginLoop 67 = .ok (.iconst 1, 1) := by decide +kernel
theorem d_M_beginLoop_68 : decode b_M_beginLoop 68 = .ok (.iadd, 1) := by decide +kernel
theorem d_M_beginLoop_69 : decode b_M_beginLoop 69 = .ok (.iastore, 1) := by decide +kernel
theorem d_M_beginLoop_70 : decode b_M_beginLoop 70 = .ok (.return_, 1) := by decide +kernel
def wp_M_beginLoop (post : StM → Prop) (S : StM) (a0 : Int32) : Prop :=
  wp_M_needs (fun (r2 : Int32) (S1 : StM) => (((r2 = 0) → post S1) ∧ (¬ (r2 = 0) → (vp_in a0 16) ∧ (((((S1.2.1 28) (Int32.toNatClampNeg (a0))) < 4) → (vp_in a0 16) ∧ (wp_M_pop (fun (r4 : Int32) (S3 : StM) => ((vp_in ((4 * a0) + ((S1.2.1 28) (Int32.toNatClampNeg (a0)))) 64) ∧ (wp_M_pop (fun (r6 : Int32) (S5 : StM) => ((vp_in ((4 * a0) + ((S1.2.1 28) (Int32.toNatClampNeg (a0)))) 64) ∧ ((vp_in a0 16) ∧ ((vp_in a0 16) ∧ (post (S5.1, (va_up (va_up S5.2.1 30 (upd (S5.2.1 30) (Int32.toNatClampNeg (((4 * a0) + ((S1.2.1 28) (Int32.toNatClampNeg (a0)))))) (r6))) 28 (upd (S5.2.1 28) (Int32.toNatClampNeg (a0)) ((((S5.2.1 28) (Int32.toNatClampNeg (a0))) + 1)))), S5.2.2)))))) (S3.1, (va_up S3.2.1 29 (upd (S3.2.1 29) (Int32.toNatClampNeg (((4 * a0) + ((S1.2.1 28) (Int32.toNatClampNeg (a0)))))) (r4))), S3.2.2) ))) S1 )) ∧ (¬ (((S1.2.1 28) (Int32.toNatClampNeg (a0))) < 4) → wp_M_fail (fun S7 : StM => (post S7)) S1 (3)))))) S (2)
set_option maxRecDepth 100000 in
set_option maxHeartbeats 4000000 in
theorem c_M_beginLoop (l : Launch) (g : Gm) (sz : Nat) (S : StM) (a0 : Int32) (post : StM → Prop) (hw : wp_M_beginLoop post S a0) : Met l y_M_beginLoop (.code y_M_beginLoop b_M_beginLoop 3 none :: w_M) (rmM 2 42) (va_Pc [.ref (g.2.2 0), .int (a0)] (PM g sz S)) (va_Qv post (BM g sz) (AM g sz)) 0 0 (AM g sz) := by
  refine ofM_v (by decide) (Nat.le_of_ble_eq_true rfl) (fun p e s m args below meth c Q H locs ls hx hb hml hts hown hK hA kr hl hP hD hS => ?_)
  have hl : lv_has ls 3 [(0, .ref (g.2.2 0)), (1, .int (a0))] := hl
  unfold wp_M_beginLoop at hw
  refine lv_aload_n hx hb d_M_beginLoop_0 rfl (lv_at hl 0 rfl) ?_
  refine lv_iconst (v := 2) hx hb d_M_beginLoop_1 (by decide) ?_
  refine cM_i (As := [.int (2)]) (rest := []) hx hb hml hown hts hK hP hD hS hA (Nat.zero_le _) (Nat.zero_le _) hl.1 (q_M_needs hts ⟨Nat.le_of_ble_eq_true rfl, Nat.le_of_ble_eq_true rfl⟩) (c_M_needs l g H.size _ (2) _ hw) rfl rfl (Nat.le_of_ble_eq_true rfl) d_M_beginLoop_2 (fun r2 S1 H locs hw hP hD hS => ?_)
  refine lv_if_ne hx hb d_M_beginLoop_5 (tgt := 9) (by decide) (fun hc => ?_) (fun hc => ?_)
  · have hw := hw.2 hc
    refine lv_aload_n hx hb d_M_beginLoop_9 rfl (lv_at hl 0 rfl) ?_
    refine gt_M (v := .ref (g.2.2 29)) hx hb hown hts hK hP 28 (by decide) rfl k_M_134 d_M_beginLoop_10 ?_
    refine lv_iload_n hx hb d_M_beginLoop_13 rfl (lv_at hl 1 rfl) ?_
    obtain ⟨hi, hw⟩ := hw
    refine va_iald (f := (S1.2.1 28)) hx hb hK hP 15 0 rfl rfl hi d_M_beginLoop_14 ?_
    refine lv_iconst (v := 4) hx hb d_M_beginLoop_15 (by decide) ?_
    refine lv_icmp_lt hx hb d_M_beginLoop_16 (tgt := 25) (by decide) (fun hc => ?_) (fun hc => ?_)
    · have hw := hw.1 hc
      refine lv_iconst (v := 4) hx hb d_M_beginLoop_25 (by decide) ?_
      refine lv_iload_n hx hb d_M_beginLoop_26 rfl (lv_at hl 1 rfl) ?_
      refine lv_imul hx hb d_M_beginLoop_27 ?_
      refine lv_aload_n hx hb d_M_beginLoop_28 rfl (lv_at hl 0 rfl) ?_
      refine gt_M (v := .ref (g.2.2 29)) hx hb hown hts hK hP 28 (by decide) rfl k_M_134 d_M_beginLoop_29 ?_
      refine lv_iload_n hx hb d_M_beginLoop_32 rfl (lv_at hl 1 rfl) ?_
      obtain ⟨hi, hw⟩ := hw
      refine va_iald (f := (S1.2.1 28)) hx hb hK hP 15 0 rfl rfl hi d_M_beginLoop_33 ?_
      refine lv_iadd hx hb d_M_beginLoop_34 ?_
      refine lv_istore_n (lv' := [(2, .int (((4 * a0) + ((S1.2.1 28) (Int32.toNatClampNeg (a0)))))), (0, .ref (g.2.2 0)), (1, .int (a0))]) hx hb d_M_beginLoop_35 rfl hl (by decide) rfl (fun ls hl => ?_)
      refine lv_aload_n hx hb d_M_beginLoop_36 rfl (lv_at hl 1 rfl) ?_
      refine gt_M (v := .ref (g.2.2 30)) hx hb hown hts hK hP 29 (by decide) rfl k_M_135 d_M_beginLoop_37 ?_
      refine lv_iload_n hx hb d_M_beginLoop_40 rfl (lv_at hl 0 rfl) ?_
      refine lv_aload_n hx hb d_M_beginLoop_41 rfl (lv_at hl 1 rfl) ?_
      refine cM_i (As := []) (rest := [.int (((4 * a0) + ((S1.2.1 28) (Int32.toNatClampNeg (a0))))), .ref (g.2.2 30)]) hx hb hml hown hts hK hP hD hS hA (Nat.zero_le _) (Nat.zero_le _) hl.1 (q_M_pop hts ⟨Nat.le_of_ble_eq_true rfl, Nat.le_of_ble_eq_true rfl⟩) (c_M_pop l g H.size _  _ hw) rfl rfl (Nat.le_of_ble_eq_true rfl) d_M_beginLoop_42 (fun r4 S3 H locs hw hP hD hS => ?_)
      obtain ⟨hi, hw⟩ := hw
      refine ia_M (S2 := (S3.1, (va_up S3.2.1 29 (upd (S3.2.1 29) (Int32.toNatClampNeg (((4 * a0) + ((S1.2.1 28) (Int32.toNatClampNeg (a0)))))) (r4))), S3.2.2)) (f := (S3.2.1 29)) hx hb hK hP hD hS 16 rfl hi d_M_beginLoop_45 (sA_M_29 g _ _) (fun H locs hP hD hS => ?_)
      refine lv_aload_n hx hb d_M_beginLoop_46 rfl (lv_at hl 1 rfl) ?_
      refine gt_M (v := .ref (g.2.2 31)) hx hb hown hts hK hP 30 (by decide) rfl k_M_136 d_M_beginLoop_47 ?_
      refine lv_iload_n hx hb d_M_beginLoop_50 rfl (lv_at hl 0 rfl) ?_
      refine lv_aload_n hx hb d_M_beginLoop_51 rfl (lv_at hl 1 rfl) ?_
      refine cM_i (As := []) (rest := [.int (((4 * a0) + ((S1.2.1 28) (Int32.toNatClampNeg (a0))))), .ref (g.2.2 31)]) hx hb hml hown hts hK hP hD hS hA (Nat.zero_le _) (Nat.zero_le _) hl.1 (q_M_pop hts ⟨Nat.le_of_ble_eq_true rfl, Nat.le_of_ble_eq_true rfl⟩) (c_M_pop l g H.size _  _ hw) rfl rfl (Nat.le_of_ble_eq_true rfl) d_M_beginLoop_52 (fun r6 S5 H locs hw hP hD hS => ?_)
      obtain ⟨hi, hw⟩ := hw
      refine ia_M (S2 := (S5.1, (va_up S5.2.1 30 (upd (S5.2.1 30) (Int32.toNatClampNeg (((4 * a0) + ((S1.2.1 28) (Int32.toNatClampNeg (a0)))))) (r6))), S5.2.2)) (f := (S5.2.1 30)) hx hb hK hP hD hS 17 rfl hi d_M_beginLoop_55 (sA_M_30 g _ _) (fun H locs hP hD hS => ?_)
      refine lv_aload_n hx hb d_M_beginLoop_56 rfl (lv_at hl 1 rfl) ?_
      refine gt_M (v := .ref (g.2.2 29)) hx hb hown hts hK hP 28 (by decide) rfl k_M_134 d_M_beginLoop_57 ?_
      refine lv_iload_n hx hb d_M_beginLoop_60 rfl (lv_at hl 2 rfl) ?_
      refine lv_aload_n hx hb d_M_beginLoop_61 rfl (lv_at hl 1 rfl) ?_
      refine gt_M (v := .ref (g.2.2 29)) hx hb hown hts hK hP 28 (by decide) rfl k_M_134 d_M_beginLoop_62 ?_
      refine lv_iload_n hx hb d_M_beginLoop_65 rfl (lv_at hl 2 rfl) ?_
      obtain ⟨hi, hw⟩ := hw
      refine va_iald (f := (S5.2.1 28)) hx hb hK hP 15 0 rfl rfl hi d_M_beginLoop_66 ?_
      refine lv_iconst (v := 1) hx hb d_M_beginLoop_67 (by decide) ?_
      refine lv_iadd hx hb d_M_beginLoop_68 ?_
      obtain ⟨hi, hw⟩ := hw
      refine ia_M (S2 := (S5.1, (va_up (va_up S5.2.1 30 (upd (S5.2.1 30) (Int32.toNatClampNeg (((4 * a0) + ((S1.2.1 28) (Int32.toNatClampNeg (a0)))))) (r6))) 28 (upd (S5.2.1 28) (Int32.toNatClampNeg (a0)) ((((S5.2.1 28) (Int32.toNatClampNeg (a0))) + 1)))), S5.2.2)) (f := (S5.2.1 28)) hx hb hK hP hD hS 15 rfl hi d_M_beginLoop_69 (sA_M_28 g _ _) (fun H locs hP hD hS => ?_)
      exact kr (S5.1, (va_up (va_up S5.2.1 30 (upd (S5.2.1 30) (Int32.toNatClampNeg (((4 * a0) + ((S1.2.1 28) (Int32.toNatClampNeg (a0)))))) (r6))) 28 (upd (S5.2.1 28) (Int32.toNatClampNeg (a0)) ((((S5.2.1 28) (Int32.toNatClampNeg (a0))) + 1)))), S5.2.2) _ _ _ _ hw hP hD hS d_M_beginLoop_70
    · have hw := hw.2 hc
      refine lv_aload_n hx hb d_M_beginLoop_19 rfl (lv_at hl 0 rfl) ?_
      refine lv_iconst (v := 3) hx hb d_M_beginLoop_20 (by decide) ?_
      refine cM_v (As := [.int (3)]) (rest := []) hx hb hml hown hts hK hP hD hS hA (Nat.zero_le _) (Nat.zero_le _) hl.1 (q_M_fail hts ⟨Nat.le_of_ble_eq_true rfl, Nat.le_of_ble_eq_true rfl⟩) (c_M_fail l g H.size _ (3) _ hw) rfl rfl (Nat.le_of_ble_eq_true rfl) d_M_beginLoop_21 (fun S7 H locs hw hP hD hS => ?_)
      exact kr S7 _ _ _ _ hw hP hD hS d_M_beginLoop_24
  · have hw := hw.1 hc
    exact kr S1 _ _ _ _ hw hP hD hS d_M_beginLoop_8
theorem d_M_step_0 : decode b_M_step 0 = .ok (.aload_n 0, 1) := by decide +kernel
theorem d_M_step_1 : decode b_M_step 1 = .ok (.getfield 257, 3) := by decide +kernel
theorem d_M_step_4 : decode b_M_step 4 = .ok (.iconst 1, 1) := by decide +kernel
theorem d_M_step_5 : decode b_M_step 5 = .ok (.isub, 1) := by decide +kernel
theorem d_M_step_6 : decode b_M_step 6 = .ok (.istore_n 1, 1) := by decide +kernel
theorem d_M_step_7 : decode b_M_step 7 = .ok (.aload_n 0, 1) := by decide +kernel
theorem d_M_step_8 : decode b_M_step 8 = .ok (.getfield 48, 3) := by decide +kernel
theorem d_M_step_11 : decode b_M_step 11 = .ok (.iload_n 1, 1) := by decide +kernel
theorem d_M_step_12 : decode b_M_step 12 = .ok (.iaload, 1) := by decide +kernel
theorem d_M_step_13 : decode b_M_step 13 = .ok (.istore_n 2, 1) := by decide +kernel
theorem d_M_step_14 : decode b_M_step 14 = .ok (.aload_n 0, 1) := by decide +kernel
theorem d_M_step_15 : decode b_M_step 15 = .ok (.getfield 51, 3) := by decide +kernel
theorem d_M_step_18 : decode b_M_step 18 = .ok (.iload_n 1, 1) := by decide +kernel
theorem d_M_step_19 : decode b_M_step 19 = .ok (.iaload, 1) := by decide +kernel
theorem d_M_step_20 : decode b_M_step 20 = .ok (.aload_n 0, 1) := by decide +kernel
theorem d_M_step_21 : decode b_M_step 21 = .ok (.getfield 33, 3) := by decide +kernel
theorem d_M_step_24 : decode b_M_step 24 = .ok (.iload_n 2, 1) := by decide +kernel
theorem d_M_step_25 : decode b_M_step 25 = .ok (.iaload, 1) := by decide +kernel
theorem d_M_step_26 : decode b_M_step 26 = .ok (.if_icmp .lt 9, 3) := by decide +kernel
theorem d_M_step_29 : decode b_M_step 29 = .ok (.aload_n 0, 1) := by decide +kernel
theorem d_M_step_30 : decode b_M_step 30 = .ok (.iload_n 1, 1) := by decide +kernel
theorem d_M_step_31 : decode b_M_step 31 = .ok (.putfield 257, 3) := by decide +kernel
theorem d_M_step_34 : decode b_M_step 34 = .ok (.return_, 1) := by decide +kernel
theorem d_M_step_35 : decode b_M_step 35 = .ok (.aload_n 0, 1) := by decide +kernel
theorem d_M_step_36 : decode b_M_step 36 = .ok (.invokevirtual 328, 3) := by decide +kernel
theorem d_M_step_39 : decode b_M_step 39 = .ok (.aload_n 0, 1) := by decide +kernel
theorem d_M_step_40 : decode b_M_step 40 = .ok (.getfield 190, 3) := by decide +kernel
theorem d_M_step_43 : decode b_M_step 43 = .ok (.ifCond .le 4, 3) := by decide +kernel
theorem d_M_step_46 : decode b_M_step 46 = .ok (.return_, 1) := by decide +kernel
theorem d_M_step_47 : decode b_M_step 47 = .ok (.aload_n 0, 1) := by decide +kernel
theorem d_M_step_48 : decode b_M_step 48 = .ok (.getfield 36, 3) := by decide +kernel
theorem d_M_step_51 : decode b_M_step 51 = .ok (.bipush 60, 2) := by decide +kernel
theorem d_M_step_53 : decode b_M_step 53 = .ok (.iload_n 2, 1) := by decide +kernel
theorem d_M_step_54 : decode b_M_step 54 = .ok (.imul, 1) := by decide +kernel
theorem d_M_step_55 : decode b_M_step 55 = .ok (.aload_n 0, 1) := by decide +kernel
theorem d_M_step_56 : decode b_M_step 56 = .ok (.getfield 51, 3) := by decide +kernel
theorem d_M_step_59 : decode b_M_step 59 = .ok (.iload_n 1, 1) := by decide +kernel
theorem d_M_step_60 : decode b_M_step 60 = .ok (.iaload, 1) := by decide +kernel
theorem d_M_step_61 : decode b_M_step 61 = .ok (.iadd, 1) := by decide +kernel
theorem d_M_step_62 : decode b_M_step 62 = .ok (.iaload, 1) := by decide +kernel
theorem d_M_step_63 : decode b_M_step 63 = .ok (.istore_n 3, 1) := by decide +kernel
theorem d_M_step_64 : decode b_M_step 64 = .ok (.aload_n 0, 1) := by decide +kernel
theorem d_M_step_65 : decode b_M_step 65 = .ok (.getfield 39, 3) := by decide +kernel
theorem d_M_step_68 : decode b_M_step 68 = .ok (.bipush 60, 2) := by decide +kernel
theorem d_M_step_70 : decode b_M_step 70 = .ok (.iload_n 2, 1) := by decide +kernel
theorem d_M_step_71 : decode b_M_step 71 = .ok (.imul, 1) := by decide +kernel
theorem d_M_step_72 : decode b_M_step 72 = .ok (.aload_n 0, 1) := by decide +kernel
theorem d_M_step_73 : decode b_M_step 73 = .ok (.getfield 51, 3) := by decide +kernel
theorem d_M_step_76 : decode b_M_step 76 = .ok (.iload_n 1, 1) := by decide +kernel
theorem d_M_step_77 : decode b_M_step 77 = .ok (.iaload, 1) := by decide +kernel
theorem d_M_step_78 : decode b_M_step 78 = .ok (.iadd, 1) := by decide +kernel
theorem d_M_step_79 : decode b_M_step 79 = .ok (.iaload, 1) := by decide +kernel
theorem d_M_step_80 : decode b_M_step 80 = .ok (.istore 4, 2) := by decide +kernel
theorem d_M_step_82 : decode b_M_step 82 = .ok (.aload_n 0, 1) := by decide +kernel
theorem d_M_step_83 : decode b_M_step 83 = .ok (.getfield 51, 3) := by decide +kernel
theorem d_M_step_86 : decode b_M_step 86 = .ok (.iload_n 1, 1) := by decide +kernel
theorem d_M_step_87 : decode b_M_step 87 = .ok (.aload_n 0, 1) := by decide +kernel
theorem d_M_step_88 : decode b_M_step 88 = .ok (.getfield 51, 3) := by decide +kernel
theorem d_M_step_91 : decode b_M_step 91 = .ok (.iload_n 1, 1) := by decide +kernel
theorem d_M_step_92 : decode b_M_step 92 = .ok (.iaload, 1) := by decide +kernel
theorem d_M_step_93 : decode b_M_step 93 = .ok (.iconst 1, 1) := by decide +kernel
theorem d_M_step_94 : decode b_M_step 94 = .ok (.iadd, 1) := by decide +kernel
theorem d_M_step_95 : decode b_M_step 95 = .ok (.iastore, 1) := by decide +kernel
theorem d_M_step_96 : decode b_M_step 96 = .ok (.iload_n 3, 1) := by decide +kernel
theorem d_M_step_97 : decode b_M_step 97 = .ok (.ifCond .ne 12, 3) := by decide +kernel
theorem d_M_step_100 : decode b_M_step 100 = .ok (.aload_n 0, 1) := by decide +kernel
theorem d_M_step_101 : decode b_M_step 101 = .ok (.iload 4, 2) := by decide +kernel
theorem d_M_step_103 : decode b_M_step 103 = .ok (.invokevirtual 331, 3) := by decide +kernel
theorem d_M_step_106 : decode b_M_step 106 = .ok (.goto 181, 3) := by decide +kernel
theorem d_M_step_109 : decode b_M_step 109 = .ok (.iload_n 3, 1) := by decide +kernel
theorem d_M_step_110 : decode b_M_step 110 = .ok (.iconst 1, 1) := by decide +kernel
theorem d_M_step_111 : decode b_M_step 111 = .ok (.if_icmp .ne 12, 3) := by decide +kernel
theorem d_M_step_114 : decode b_M_step 114 = .ok (.aload_n 0, 1) := by decide +kernel
theorem d_M_step_115 : decode b_M_step 115 = .ok (.iload 4, 2) := by decide +kernel
theorem d_M_step_117 : decode b_M_step 117 = .ok (.invokevirtual 238, 3) := by decide +kernel
theorem d_M_step_120 : decode b_M_step 120 = .ok (.goto 167, 3) := by decide +kernel
theorem d_M_step_123 : decode b_M_step 123 = .ok (.iload_n 3, 1) := by decide +kernel
theorem d_M_step_124 : decode b_M_step 124 = .ok (.iconst 3, 1) := by decide +kernel
theorem d_M_step_125 : decode b_M_step 125 = .ok (.if_icmp .ne 14, 3) := by decide +kernel
theorem d_M_step_128 : decode b_M_step 128 = .ok (.aload_n 0, 1) := by decide +kernel
theorem d_M_step_129 : decode b_M_step 129 = .ok (.getfield 51, 3) := by decide +kernel
theorem d_M_step_132 : decode b_M_step 132 = .ok (.iload_n 1, 1) := by decide +kernel
theorem d_M_step_133 : decode b_M_step 133 = .ok (.iload 4, 2) := by decide +kernel
theorem d_M_step_135 : decode b_M_step 135 = .ok (.iastore, 1) := by decide +kernel
theorem d_M_step_136 : decode b_M_step 136 = .ok (.goto 151, 3) := by decide +kernel
theorem d_M_step_139 : decode b_M_step 139 = .ok (.iload_n 3, 1) := by decide +kernel
theorem d_M_step_140 : decode b_M_step 140 = .ok (.iconst 2, 1) := by decide +kernel
theorem d_M_step_141 : decode b_M_step 141 = .ok (.if_icmp .ne 29, 3) := by decide +kernel
theorem d_M_step_144 : decode b_M_step 144 = .ok (.aload_n 0, 1) := by decide +kernel
theorem d_M_step_145 : decode b_M_step 145 = .ok (.iconst 1, 1) := by decide +kernel
theorem d_M_step_146 : decode b_M_step 146 = .ok (.invokevirtual 230, 3) := by decide +kernel
theorem d_M_step_149 : decode b_M_step 149 = .ok (.ifCond .eq 138, 3) := by decide +kernel
theorem d_M_step_152 : decode b_M_step 152 = .ok (.aload_n 0, 1) := by decide +kernel
theorem d_M_step_153 : decode b_M_step 153 = .ok (.invokevirtual 241, 3) := by decide +kernel
theorem d_M_step_156 : decode b_M_step 156 = .ok (.ifCond .ne 131, 3) := by decide +kernel
theorem d_M_step_159 : decode b_M_step 159 = .ok (.aload_n 0, 1) := by decide +kernel
theorem d_M_step_160 : decode b_M_step 160 = .ok (.getfield 51, 3) := by decide +kernel
theorem d_M_step_163 : decode b_M_step 163 = .ok (.iload_n 1, 1) := by decide +kernel
theorem d_M_step_164 : decode b_M_step 164 = .ok (.iload 4, 2) := by decide +kernel
theorem d_M_step_166 : decode b_M_step 166 = .ok (.iastore, 1) := by decide +kernel
theorem d_M_step_167 : decode b_M_step 167 = .ok (.goto 120, 3) := by decide +kernel
theorem d_M_step_170 : decode b_M_step 170 = .ok (.iload_n 3, 1) := by decide +kernel
theorem d_M_step_171 : decode b_M_step 171 = .ok (.iconst 4, 1) := by decide +kernel
theorem d_M_step_172 : decode b_M_step 172 = .ok (.if_icmp .ne 11, 3) := by decide +kernel
theorem d_M_step_175 : decode b_M_step 175 = .ok (.aload_n 0, 1) := by decide +kernel
theorem d_M_step_176 : decode b_M_step 176 = .ok (.iload_n 1, 1) := by decide +kernel
theorem d_M_step_177 : decode b_M_step 177 = .ok (.invokevirtual 334, 3) := by decide +kernel
theorem d_M_step_180 : decode b_M_step 180 = .ok (.goto 107, 3) := by decide +kernel
theorem d_M_step_183 : decode b_M_step 183 = .ok (.iconst 4, 1) := by decide +kernel
theorem d_M_step_184 : decode b_M_step 184 = .ok (.iload_n 1, 1) := by decide +kernel
theorem d_M_step_185 : decode b_M_step 185 = .ok (.imul, 1) := by decide +kernel
theorem d_M_step_186 : decode b_M_step 186 = .ok (.aload_n 0, 1) := by decide +kernel
theorem d_M_step_187 : decode b_M_step 187 = .ok (.getfield 54, 3) := by decide +kernel
theorem d_M_step_190 : decode b_M_step 190 = .ok (.iload_n 1, 1) := by decide +kernel
theorem d_M_step_191 : decode b_M_step 191 = .ok (.iaload, 1) := by decide +kernel
theorem d_M_step_192 : decode b_M_step 192 = .ok (.iadd, 1) := by decide +kernel
theorem d_M_step_193 : decode b_M_step 193 = .ok (.iconst 1, 1) := by decide +kernel
theorem d_M_step_194 : decode b_M_step 194 = .ok (.isub, 1) := by decide +kernel
theorem d_M_step_195 : decode b_M_step 195 = .ok (.istore 5, 2) := by decide +kernel
theorem d_M_step_197 : decode b_M_step 197 = .ok (.aload_n 0, 1) := by decide +kernel
theorem d_M_step_198 : decode b_M_step 198 = .ok (.getfield 57, 3) := by decide +kernel
theorem d_M_step_201 : decode b_M_step 201 = .ok (.iload 5, 2) := by decide +kernel
theorem d_M_step_203 : decode b_M_step 203 = .ok (.aload_n 0, 1) := by decide +kernel
theorem d_M_step_204 : decode b_M_step 204 = .ok (.getfield 57, 3) := by decide +kernel
theorem d_M_step_207 : decode b_M_step 207 = .ok (.iload 5, 2) := by decide +kernel
theorem d_M_step_209 : decode b_M_step 209 = .ok (.iaload, 1) := by decide +kernel
theorem d_M_step_210 : decode b_M_step 210 = .ok (.iconst 1, 1) := by decide +kernel
theorem d_M_step_211 : decode b_M_step 211 = .ok (.iadd, 1) := by decide +kernel
theorem d_M_step_212 : decode b_M_step 212 = .ok (.iastore, 1) := by decide +kernel
theorem d_M_step_213 : decode b_M_step 213 = .ok (.aload_n 0, 1) := by decide +kernel
theorem d_M_step_214 : decode b_M_step 214 = .ok (.getfield 57, 3) := by decide +kernel
theorem d_M_step_217 : decode b_M_step 217 = .ok (.iload 5, 2) := by decide +kernel
theorem d_M_step_219 : decode b_M_step 219 = .ok (.iaload, 1) := by decide +kernel
theorem d_M_step_220 : decode b_M_step 220 = .ok (.aload_n 0, 1) := by decide +kernel
theorem d_M_step_221 : decode b_M_step 221 = .ok (.getfield 60, 3) := by decide +kernel
theorem d_M_step_224 : decode b_M_step 224 = .ok (.iload 5, 2) := by decide +kernel
theorem d_M_step_226 : decode b_M_step 226 = .ok (.iaload, 1) := by decide +kernel
theorem d_M_step_227 : decode b_M_step 227 = .ok (.if_icmp .eq 7, 3) := by decide +kernel
theorem d_M_step_230 : decode b_M_step 230 = .ok (.iconst 1, 1) := by decide +kernel
theorem d_M_step_231 : decode b_M_step 231 = .ok (.goto 4, 3) := by decide +kernel
theorem d_M_step_234 : decode b_M_step 234 = .ok (.iconst 0, 1) := by decide +kernel
theorem d_M_step_235 : decode b_M_step 235 = .ok (.istore 6, 2) := by decide +kernel
theorem d_M_step_237 : decode b_M_step 237 = .ok (.aload_n 0, 1) := by decide +kernel
theorem d_M_step_238 : decode b_M_step 238 = .ok (.getfield 51, 3) := by decide +kernel
theorem d_M_step_241 : decode b_M_step 241 = .ok (.iload_n 1, 1) := by decide +kernel
theorem d_M_step_242 : decode b_M_step 242 = .ok (.iload 6, 2) := by decide +kernel
theorem d_M_step_244 : decode b_M_step 244 = .ok (.ifCond .eq 8, 3) := by decide +kernel
theorem d_M_step_247 : decode b_M_step 247 = .ok (.iload 4, 2) := by decide +kernel
theorem d_M_step_249 : decode b_M_step 249 = .ok (.goto 9, 3) := by decide +kernel
theorem d_M_step_252 : decode b_M_step 252 = .ok (.aload_n 0, 1) := by decide +kernel
theorem d_M_step_253 : decode b_M_step 253 = .ok (.getfield 51, 3) := by decide +kernel
theorem d_M_step_256 : decode b_M_step 256 = .ok (.iload_n 1, 1) := by decide +kernel
theorem d_M_step_257 : decode b_M_step 257 = .ok (.iaload, 1) := by decide +kernel
theorem d_M_step_258 : decode b_M_step 258 = .ok (.iastore, 1) := by decide +kernel
theorem d_M_step_259 : decode b_M_step 259 = .ok (.aload_n 0, 1) := by decide +kernel
theorem d_M_step_260 : decode b_M_step 260 = .ok (.getfield 54, 3) := by decide +kernel
theorem d_M_step_263 : decode b_M_step 263 = .ok (.iload_n 1, 1) := by decide +kernel
theorem d_M_step_264 : decode b_M_step 264 = .ok (.iload 6, 2) := by decide +kernel
theorem d_M_step_266 : decode b_M_step 266 = .ok (.ifCond .eq 12, 3) := by decide +kernel
theorem d_M_step_269 : decode b_M_step 269 = .ok (.aload_n 0, 1) := by decide +kernel
theorem d_M_step_270 : decode b_M_step 270 = .ok (.getfield 54, 3) := by decide +kernel
theorem d_M_step_273 : decode b_M_step 273 = .ok (.iload_n 1, 1) := by decide +kernel
theorem d_M_step_274 : decode b_M_step 274 = .ok (.iaload, 1) := by decide +kernel
theorem d_M_step_275 : decode b_M_step 275 = .ok (.goto 11, 3) := by decide +kernel
theorem d_M_step_278 : decode b_M_step 278 = .ok (.aload_n 0, 1) := by decide +kernel
theorem d_M_step_279 : decode b_M_step 279 = .ok (.getfield 54, 3) := by decide +kernel
theorem d_M_step_282 : decode b_M_step 282 = .ok (.iload_n 1, 1) := by decide +kernel
theorem d_M_step_283 : decode b_M_step 283 = .ok (.iaload, 1) := by decide +kernel
theorem d_M_step_284 : decode b_M_step 284 = .ok (.iconst 1, 1) := by decide +kernel
theorem d_M_step_285 : decode b_M_step 285 = .ok (.isub, 1) := by decide +kernel
theorem d_M_step_286 : decode b_M_step 286 = .ok (.iastore, 1) := by decide +kernel
theorem d_M_step_287 : decode b_M_step 287 = .ok (.return_, 1) := by decide +kernel
def wq_M_step_287 (post : StM → Prop)  (S : StM)  : Prop :=
  post S
def wq_M_step_286 (post : StM → Prop)  (S : StM) (t0 : Int32) (t1 : Int32) : Prop :=
  (vp_in t1 16) ∧ (wq_M_step_287 post  (S.1, (va_up S.2.1 28 (upd (S.2.1 28) (Int32.toNatClampNeg (t1)) (t0))), S.2.2) )
def wq_M_step_258 (post : StM → Prop)  (S : StM) (x1 : Int32) (x6 : Int32) (t0 : Int32) (t1 : Int32) : Prop :=
  (vp_in t1 16) ∧ (((x6 = 0) → (vp_in x1 16) ∧ (wq_M_step_286 post  (S.1, (va_up S.2.1 27 (upd (S.2.1 27) (Int32.toNatClampNeg (t1)) (t0))), S.2.2) ((((S.2.1 28) (Int32.toNatClampNeg (x1))) - 1)) (x1))) ∧ (¬ (x6 = 0) → (vp_in x1 16) ∧ (wq_M_step_286 post  (S.1, (va_up S.2.1 27 (upd (S.2.1 27) (Int32.toNatClampNeg (t1)) (t0))), S.2.2) (((S.2.1 28) (Int32.toNatClampNeg (x1)))) (x1))))
def wq_M_step_235 (post : StM → Prop)  (S : StM) (x1 : Int32) (x4 : Int32) (t0 : Int32) : Prop :=
  ((t0 = 0) → (vp_in x1 16) ∧ (wq_M_step_258 post  S (x1) (t0) (((S.2.1 27) (Int32.toNatClampNeg (x1)))) (x1))) ∧ (¬ (t0 = 0) → wq_M_step_258 post  S (x1) (t0) (x4) (x1))
def wp_M_step (post : StM → Prop) (S : StM)  : Prop :=
  (vp_in ((S.1 25) - 1) 16) ∧ ((vp_in ((S.1 25) - 1) 16) ∧ ((vp_in ((S.2.1 26) (Int32.toNatClampNeg (((S.1 25) - 1)))) 25) ∧ (((((S.2.1 27) (Int32.toNatClampNeg (((S.1 25) - 1)))) < ((S.2.1 17) (Int32.toNatClampNeg (((S.2.1 26) (Int32.toNatClampNeg (((S.1 25) - 1)))))))) → wp_M_burn (fun S1 : StM => ((((S1.1 14) ≤ 0) → (vp_in ((S.1 25) - 1) 16) ∧ ((vp_in ((60 * ((S.2.1 26) (Int32.toNatClampNeg (((S.1 25) - 1))))) + ((S1.2.1 27) (Int32.toNatClampNeg (((S.1 25) - 1))))) 1500) ∧ ((vp_in ((S.1 25) - 1) 16) ∧ ((vp_in ((60 * ((S.2.1 26) (Int32.toNatClampNeg (((S.1 25) - 1))))) + ((S1.2.1 27) (Int32.toNatClampNeg (((S.1 25) - 1))))) 1500) ∧ ((vp_in ((S.1 25) - 1) 16) ∧ ((vp_in ((S.1 25) - 1) 16) ∧ (((((S1.2.1 18) (Int32.toNatClampNeg (((60 * ((S.2.1 26) (Int32.toNatClampNeg (((S.1 25) - 1))))) + ((S1.2.1 27) (Int32.toNatClampNeg (((S.1 25) - 1)))))))) = 0) → wp_M_perform (fun S8 : StM => (wq_M_step_287 post  S8 )) (S1.1, (va_up S1.2.1 27 (upd (S1.2.1 27) (Int32.toNatClampNeg (((S.1 25) - 1))) ((((S1.2.1 27) (Int32.toNatClampNeg (((S.1 25) - 1)))) + 1)))), S1.2.2) (((S1.2.1 19) (Int32.toNatClampNeg (((60 * ((S.2.1 26) (Int32.toNatClampNeg (((S.1 25) - 1))))) + ((S1.2.1 27) (Int32.toNatClampNeg (((S.1 25) - 1)))))))))) ∧ (¬ (((S1.2.1 18) (Int32.toNatClampNeg (((60 * ((S.2.1 26) (Int32.toNatClampNeg (((S.1 25) - 1))))) + ((S1.2.1 27) (Int32.toNatClampNeg (((S.1 25) - 1)))))))) = 0) → ((((S1.2.1 18) (Int32.toNatClampNeg (((60 * ((S.2.1 26) (Int32.toNatClampNeg (((S.1 25) - 1))))) + ((S1.2.1 27) (Int32.toNatClampNeg (((S.1 25) - 1)))))))) = 1) → wp_M_push (fun S7 : StM => (wq_M_step_287 post  S7 )) (S1.1, (va_up S1.2.1 27 (upd (S1.2.1 27) (Int32.toNatClampNeg (((S.1 25) - 1))) ((((S1.2.1 27) (Int32.toNatClampNeg (((S.1 25) - 1)))) + 1)))), S1.2.2) (((S1.2.1 19) (Int32.toNatClampNeg (((60 * ((S.2.1 26) (Int32.toNatClampNeg (((S.1 25) - 1))))) + ((S1.2.1 27) (Int32.toNatClampNeg (((S.1 25) - 1)))))))))) ∧ (¬ (((S1.2.1 18) (Int32.toNatClampNeg (((60 * ((S.2.1 26) (Int32.toNatClampNeg (((S.1 25) - 1))))) + ((S1.2.1 27) (Int32.toNatClampNeg (((S.1 25) - 1)))))))) = 1) → ((((S1.2.1 18) (Int32.toNatClampNeg (((60 * ((S.2.1 26) (Int32.toNatClampNeg (((S.1 25) - 1))))) + ((S1.2.1 27) (Int32.toNatClampNeg (((S.1 25) - 1)))))))) = 3) → (vp_in ((S.1 25) - 1) 16) ∧ (wq_M_step_287 post  (S1.1, (va_up (va_up S1.2.1 27 (upd (S1.2.1 27) (Int32.toNatClampNeg (((S.1 25) - 1))) ((((S1.2.1 27) (Int32.toNatClampNeg (((S.1 25) - 1)))) + 1)))) 27 (upd (upd (S1.2.1 27) (Int32.toNatClampNeg (((S.1 25) - 1))) ((((S1.2.1 27) (Int32.toNatClampNeg (((S.1 25) - 1)))) + 1))) (Int32.toNatClampNeg (((S.1 25) - 1))) (((S1.2.1 19) (Int32.toNatClampNeg (((60 * ((S.2.1 26) (Int32.toNatClampNeg (((S.1 25) - 1))))) + ((S1.2.1 27) (Int32.toNatClampNeg (((S.1 25) - 1))))))))))), S1.2.2) )) ∧ (¬ (((S1.2.1 18) (Int32.toNatClampNeg (((60 * ((S.2.1 26) (Int32.toNatClampNeg (((S.1 25) - 1))))) + ((S1.2.1 27) (Int32.toNatClampNeg (((S.1 25) - 1)))))))) = 3) → ((((S1.2.1 18) (Int32.toNatClampNeg (((60 * ((S.2.1 26) (Int32.toNatClampNeg (((S.1 25) - 1))))) + ((S1.2.1 27) (Int32.toNatClampNeg (((S.1 25) - 1)))))))) = 2) → wp_M_needs (fun (r4 : Int32) (S3 : StM) => (((r4 = 0) → wq_M_step_287 post  S3 ) ∧ (¬ (r4 = 0) → wp_M_pop (fun (r6 : Int32) (S5 : StM) => (((r6 = 0) → (vp_in ((S.1 25) - 1) 16) ∧ (wq_M_step_287 post  (S5.1, (va_up S5.2.1 27 (upd (S5.2.1 27) (Int32.toNatClampNeg (((S.1 25) - 1))) (((S1.2.1 19) (Int32.toNatClampNeg (((60 * ((S.2.1 26) (Int32.toNatClampNeg (((S.1 25) - 1))))) + ((S1.2.1 27) (Int32.toNatClampNeg (((S.1 25) - 1))))))))))), S5.2.2) )) ∧ (¬ (r6 = 0) → wq_M_step_287 post  S5 ))) S3 ))) (S1.1, (va_up S1.2.1 27 (upd (S1.2.1 27) (Int32.toNatClampNeg (((S.1 25) - 1))) ((((S1.2.1 27) (Int32.toNatClampNeg (((S.1 25) - 1)))) + 1)))), S1.2.2) (1)) ∧ (¬ (((S1.2.1 18) (Int32.toNatClampNeg (((60 * ((S.2.1 26) (Int32.toNatClampNeg (((S.1 25) - 1))))) + ((S1.2.1 27) (Int32.toNatClampNeg (((S.1 25) - 1)))))))) = 2) → ((((S1.2.1 18) (Int32.toNatClampNeg (((60 * ((S.2.1 26) (Int32.toNatClampNeg (((S.1 25) - 1))))) + ((S1.2.1 27) (Int32.toNatClampNeg (((S.1 25) - 1)))))))) = 4) → wp_M_beginLoop (fun S2 : StM => (wq_M_step_287 post  S2 )) (S1.1, (va_up S1.2.1 27 (upd (S1.2.1 27) (Int32.toNatClampNeg (((S.1 25) - 1))) ((((S1.2.1 27) (Int32.toNatClampNeg (((S.1 25) - 1)))) + 1)))), S1.2.2) (((S.1 25) - 1))) ∧ (¬ (((S1.2.1 18) (Int32.toNatClampNeg (((60 * ((S.2.1 26) (Int32.toNatClampNeg (((S.1 25) - 1))))) + ((S1.2.1 27) (Int32.toNatClampNeg (((S.1 25) - 1)))))))) = 4) → (vp_in ((S.1 25) - 1) 16) ∧ ((vp_in (((4 * ((S.1 25) - 1)) + ((S1.2.1 28) (Int32.toNatClampNeg (((S.1 25) - 1))))) - 1) 64) ∧ ((vp_in (((4 * ((S.1 25) - 1)) + ((S1.2.1 28) (Int32.toNatClampNeg (((S.1 25) - 1))))) - 1) 64) ∧ ((vp_in (((4 * ((S.1 25) - 1)) + ((S1.2.1 28) (Int32.toNatClampNeg (((S.1 25) - 1))))) - 1) 64) ∧ ((vp_in (((4 * ((S.1 25) - 1)) + ((S1.2.1 28) (Int32.toNatClampNeg (((S.1 25) - 1))))) - 1) 64) ∧ (((((upd (S1.2.1 29) (Int32.toNatClampNeg ((((4 * ((S.1 25) - 1)) + ((S1.2.1 28) (Int32.toNatClampNeg (((S.1 25) - 1))))) - 1))) ((((S1.2.1 29) (Int32.toNatClampNeg ((((4 * ((S.1 25) - 1)) + ((S1.2.1 28) (Int32.toNatClampNeg (((S.1 25) - 1))))) - 1)))) + 1))) (Int32.toNatClampNeg ((((4 * ((S.1 25) - 1)) + ((S1.2.1 28) (Int32.toNatClampNeg (((S.1 25) - 1))))) - 1)))) = ((S1.2.1 30) (Int32.toNatClampNeg ((((4 * ((S.1 25) - 1)) + ((S1.2.1 28) (Int32.toNatClampNeg (((S.1 25) - 1))))) - 1))))) → wq_M_step_235 post  (S1.1, (va_up (va_up S1.2.1 27 (upd (S1.2.1 27) (Int32.toNatClampNeg (((S.1 25) - 1))) ((((S1.2.1 27) (Int32.toNatClampNeg (((S.1 25) - 1)))) + 1)))) 29 (upd (S1.2.1 29) (Int32.toNatClampNeg ((((4 * ((S.1 25) - 1)) + ((S1.2.1 28) (Int32.toNatClampNeg (((S.1 25) - 1))))) - 1))) ((((S1.2.1 29) (Int32.toNatClampNeg ((((4 * ((S.1 25) - 1)) + ((S1.2.1 28) (Int32.toNatClampNeg (((S.1 25) - 1))))) - 1)))) + 1)))), S1.2.2) (((S.1 25) - 1)) (((S1.2.1 19) (Int32.toNatClampNeg (((60 * ((S.2.1 26) (Int32.toNatClampNeg (((S.1 25) - 1))))) + ((S1.2.1 27) (Int32.toNatClampNeg (((S.1 25) - 1))))))))) (0)) ∧ (¬ (((upd (S1.2.1 29) (Int32.toNatClampNeg ((((4 * ((S.1 25) - 1)) + ((S1.2.1 28) (Int32.toNatClampNeg (((S.1 25) - 1))))) - 1))) ((((S1.2.1 29) (Int32.toNatClampNeg ((((4 * ((S.1 25) - 1)) + ((S1.2.1 28) (Int32.toNatClampNeg (((S.1 25) - 1))))) - 1)))) + 1))) (Int32.toNatClampNeg ((((4 * ((S.1 25) - 1)) + ((S1.2.1 28) (Int32.toNatClampNeg (((S.1 25) - 1))))) - 1)))) = ((S1.2.1 30) (Int32.toNatClampNeg ((((4 * ((S.1 25) - 1)) + ((S1.2.1 28) (Int32.toNatClampNeg (((S.1 25) - 1))))) - 1))))) → wq_M_step_235 post  (S1.1, (va_up (va_up S1.2.1 27 (upd (S1.2.1 27) (Int32.toNatClampNeg (((S.1 25) - 1))) ((((S1.2.1 27) (Int32.toNatClampNeg (((S.1 25) - 1)))) + 1)))) 29 (upd (S1.2.1 29) (Int32.toNatClampNeg ((((4 * ((S.1 25) - 1)) + ((S1.2.1 28) (Int32.toNatClampNeg (((S.1 25) - 1))))) - 1))) ((((S1.2.1 29) (Int32.toNatClampNeg ((((4 * ((S.1 25) - 1)) + ((S1.2.1 28) (Int32.toNatClampNeg (((S.1 25) - 1))))) - 1)))) + 1)))), S1.2.2) (((S.1 25) - 1)) (((S1.2.1 19) (Int32.toNatClampNeg (((60 * ((S.2.1 26) (Int32.toNatClampNeg (((S.1 25) - 1))))) + ((S1.2.1 27) (Int32.toNatClampNeg (((S.1 25) - 1))))))))) (1))))))))))))))))))) ∧ (¬ ((S1.1 14) ≤ 0) → post S1))) S ) ∧ (¬ (((S.2.1 27) (Int32.toNatClampNeg (((S.1 25) - 1)))) < ((S.2.1 17) (Int32.toNatClampNeg (((S.2.1 26) (Int32.toNatClampNeg (((S.1 25) - 1)))))))) → post ((upd S.1 25 (((S.1 25) - 1))), S.2)))))
set_option maxRecDepth 100000 in
set_option maxHeartbeats 4000000 in
theorem c_M_step (l : Launch) (g : Gm) (sz : Nat) (S : StM)  (post : StM → Prop) (hw : wp_M_step post S ) : Met l y_M_step (.code y_M_step b_M_step 7 none :: w_M) (rmM 6 134) (va_Pc [.ref (g.2.2 0)] (PM g sz S)) (va_Qv post (BM g sz) (AM g sz)) 0 0 (AM g sz) := by
  refine ofM_v (by decide) (Nat.le_of_ble_eq_true rfl) (fun p e s m args below meth c Q H locs ls hx hb hml hts hown hK hA kr hl hP hD hS => ?_)
  have hl : lv_has ls 7 [(0, .ref (g.2.2 0))] := hl
  unfold wp_M_step at hw
  have J287 : ∀ (S : StM)  (H : Heap) (locs : List Loc) (ls : Array Slot), wq_M_step_287 post  S  → lv_has ls 7 [] → va_P g.1 classes (wM g S) H → va_D (AM g s.heap.size) (wM g S) → va_S (AM g s.heap.size) s.heap H locs → W p l e (rmM 6 134) s m args below meth c H locs 0 0 Q (F0 m 287 ls []) := by
    intro S  H locs ls hw hl hP hD hS
    unfold wq_M_step_287 at hw
    exact kr S _ _ _ _ hw hP hD hS d_M_step_287
  have J286 : ∀ (S : StM) (t0 : Int32) (t1 : Int32) (H : Heap) (locs : List Loc) (ls : Array Slot), wq_M_step_286 post  S t0 t1 → lv_has ls 7 [] → va_P g.1 classes (wM g S) H → va_D (AM g s.heap.size) (wM g S) → va_S (AM g s.heap.size) s.heap H locs → W p l e (rmM 6 134) s m args below meth c H locs 0 0 Q (F0 m 286 ls [.int (t0), .int (t1), .ref (g.2.2 29)]) := by
    intro S t0 t1 H locs ls hw hl hP hD hS
    unfold wq_M_step_286 at hw
    obtain ⟨hi, hw⟩ := hw
    refine ia_M (S2 := (S.1, (va_up S.2.1 28 (upd (S.2.1 28) (Int32.toNatClampNeg (t1)) (t0))), S.2.2)) (f := (S.2.1 28)) hx hb hK hP hD hS 15 rfl hi d_M_step_286 (sA_M_28 g _ _) (fun H locs hP hD hS => ?_)
    exact J287 (S.1, (va_up S.2.1 28 (upd (S.2.1 28) (Int32.toNatClampNeg (t1)) (t0))), S.2.2)  _ _ _ hw (lv_sub hl [] rfl) hP hD hS
  have J258 : ∀ (S : StM) (x1 : Int32) (x6 : Int32) (t0 : Int32) (t1 : Int32) (H : Heap) (locs : List Loc) (ls : Array Slot), wq_M_step_258 post  S x1 x6 t0 t1 → lv_has ls 7 [(0, .ref (g.2.2 0)), (1, .int (x1)), (6, .int (x6))] → va_P g.1 classes (wM g S) H → va_D (AM g s.heap.size) (wM g S) → va_S (AM g s.heap.size) s.heap H locs → W p l e (rmM 6 134) s m args below meth c H locs 0 0 Q (F0 m 258 ls [.int (t0), .int (t1), .ref (g.2.2 28)]) := by
    intro S x1 x6 t0 t1 H locs ls hw hl hP hD hS
    unfold wq_M_step_258 at hw
    obtain ⟨hi, hw⟩ := hw
    refine ia_M (S2 := (S.1, (va_up S.2.1 27 (upd (S.2.1 27) (Int32.toNatClampNeg (t1)) (t0))), S.2.2)) (f := (S.2.1 27)) hx hb hK hP hD hS 14 rfl hi d_M_step_258 (sA_M_27 g _ _) (fun H locs hP hD hS => ?_)
    refine lv_aload_n hx hb d_M_step_259 rfl (lv_at hl 0 rfl) ?_
    refine gt_M (v := .ref (g.2.2 29)) hx hb hown hts hK hP 28 (by decide) rfl k_M_134 d_M_step_260 ?_
    refine lv_iload_n hx hb d_M_step_263 rfl (lv_at hl 1 rfl) ?_
    refine lv_iload hx hb d_M_step_264 (lv_at hl 2 rfl) ?_
    refine lv_if_eq hx hb d_M_step_266 (tgt := 278) (by decide) (fun hc => ?_) (fun hc => ?_)
    · have hw := hw.1 hc
      refine lv_aload_n hx hb d_M_step_278 rfl (lv_at hl 0 rfl) ?_
      refine gt_M (v := .ref (g.2.2 29)) hx hb hown hts hK hP 28 (by decide) rfl k_M_134 d_M_step_279 ?_
      refine lv_iload_n hx hb d_M_step_282 rfl (lv_at hl 1 rfl) ?_
      obtain ⟨hi, hw⟩ := hw
      refine va_iald (f := (S.2.1 28)) hx hb hK hP 15 0 rfl rfl hi d_M_step_283 ?_
      refine lv_iconst (v := 1) hx hb d_M_step_284 (by decide) ?_
      refine lv_isub hx hb d_M_step_285 ?_
      exact J286 (S.1, (va_up S.2.1 27 (upd (S.2.1 27) (Int32.toNatClampNeg (t1)) (t0))), S.2.2) ((((S.2.1 28) (Int32.toNatClampNeg (x1))) - 1)) (x1) _ _ _ hw (lv_sub hl [] rfl) hP hD hS
    · have hw := hw.2 hc
      refine lv_aload_n hx hb d_M_step_269 rfl (lv_at hl 0 rfl) ?_
      refine gt_M (v := .ref (g.2.2 29)) hx hb hown hts hK hP 28 (by decide) rfl k_M_134 d_M_step_270 ?_
      refine lv_iload_n hx hb d_M_step_273 rfl (lv_at hl 1 rfl) ?_
      obtain ⟨hi, hw⟩ := hw
      refine va_iald (f := (S.2.1 28)) hx hb hK hP 15 0 rfl rfl hi d_M_step_274 ?_
      refine lv_goto hx hb d_M_step_275 (tgt := 286) (by decide) ?_
      exact J286 (S.1, (va_up S.2.1 27 (upd (S.2.1 27) (Int32.toNatClampNeg (t1)) (t0))), S.2.2) (((S.2.1 28) (Int32.toNatClampNeg (x1)))) (x1) _ _ _ hw (lv_sub hl [] rfl) hP hD hS
  have J235 : ∀ (S : StM) (x1 : Int32) (x4 : Int32) (t0 : Int32) (H : Heap) (locs : List Loc) (ls : Array Slot), wq_M_step_235 post  S x1 x4 t0 → lv_has ls 7 [(0, .ref (g.2.2 0)), (1, .int (x1)), (4, .int (x4))] → va_P g.1 classes (wM g S) H → va_D (AM g s.heap.size) (wM g S) → va_S (AM g s.heap.size) s.heap H locs → W p l e (rmM 6 134) s m args below meth c H locs 0 0 Q (F0 m 235 ls [.int (t0)]) := by
    intro S x1 x4 t0 H locs ls hw hl hP hD hS
    unfold wq_M_step_235 at hw
    refine lv_istore (lv' := [(6, .int (t0)), (0, .ref (g.2.2 0)), (1, .int (x1)), (4, .int (x4))]) hx hb d_M_step_235 hl (by decide) rfl (fun ls hl => ?_)
    refine lv_aload_n hx hb d_M_step_237 rfl (lv_at hl 1 rfl) ?_
    refine gt_M (v := .ref (g.2.2 28)) hx hb hown hts hK hP 27 (by decide) rfl k_M_133 d_M_step_238 ?_
    refine lv_iload_n hx hb d_M_step_241 rfl (lv_at hl 2 rfl) ?_
    refine lv_iload hx hb d_M_step_242 (lv_at hl 0 rfl) ?_
    refine lv_if_eq hx hb d_M_step_244 (tgt := 252) (by decide) (fun hc => ?_) (fun hc => ?_)
    · have hw := hw.1 hc
      refine lv_aload_n hx hb d_M_step_252 rfl (lv_at hl 1 rfl) ?_
      refine gt_M (v := .ref (g.2.2 28)) hx hb hown hts hK hP 27 (by decide) rfl k_M_133 d_M_step_253 ?_
      refine lv_iload_n hx hb d_M_step_256 rfl (lv_at hl 2 rfl) ?_
      obtain ⟨hi, hw⟩ := hw
      refine va_iald (f := (S.2.1 27)) hx hb hK hP 14 0 rfl rfl hi d_M_step_257 ?_
      exact J258 S (x1) (t0) (((S.2.1 27) (Int32.toNatClampNeg (x1)))) (x1) _ _ _ hw (lv_sub hl [1, 2, 0] rfl) hP hD hS
    · have hw := hw.2 hc
      refine lv_iload hx hb d_M_step_247 (lv_at hl 3 rfl) ?_
      refine lv_goto hx hb d_M_step_249 (tgt := 258) (by decide) ?_
      exact J258 S (x1) (t0) (x4) (x1) _ _ _ hw (lv_sub hl [1, 2, 0] rfl) hP hD hS
  refine lv_aload_n hx hb d_M_step_0 rfl (lv_at hl 0 rfl) ?_
  refine gt_M (v := .int ((S.1 25))) hx hb hown hts hK hP 25 (by decide) rfl k_M_131 d_M_step_1 ?_
  refine lv_iconst (v := 1) hx hb d_M_step_4 (by decide) ?_
  refine lv_isub hx hb d_M_step_5 ?_
  refine lv_istore_n (lv' := [(1, .int (((S.1 25) - 1))), (0, .ref (g.2.2 0))]) hx hb d_M_step_6 rfl hl (by decide) rfl (fun ls hl => ?_)
  refine lv_aload_n hx hb d_M_step_7 rfl (lv_at hl 1 rfl) ?_
  refine gt_M (v := .ref (g.2.2 27)) hx hb hown hts hK hP 26 (by decide) rfl k_M_132 d_M_step_8 ?_
  refine lv_iload_n hx hb d_M_step_11 rfl (lv_at hl 0 rfl) ?_
  obtain ⟨hi, hw⟩ := hw
  refine va_iald (f := (S.2.1 26)) hx hb hK hP 13 0 rfl rfl hi d_M_step_12 ?_
  refine lv_istore_n (lv' := [(2, .int (((S.2.1 26) (Int32.toNatClampNeg (((S.1 25) - 1)))))), (1, .int (((S.1 25) - 1))), (0, .ref (g.2.2 0))]) hx hb d_M_step_13 rfl hl (by decide) rfl (fun ls hl => ?_)
  refine lv_aload_n hx hb d_M_step_14 rfl (lv_at hl 2 rfl) ?_
  refine gt_M (v := .ref (g.2.2 28)) hx hb hown hts hK hP 27 (by decide) rfl k_M_133 d_M_step_15 ?_
  refine lv_iload_n hx hb d_M_step_18 rfl (lv_at hl 1 rfl) ?_
  obtain ⟨hi, hw⟩ := hw
  refine va_iald (f := (S.2.1 27)) hx hb hK hP 14 0 rfl rfl hi d_M_step_19 ?_
  refine lv_aload_n hx hb d_M_step_20 rfl (lv_at hl 2 rfl) ?_
  refine gt_M (v := .ref (g.2.2 18)) hx hb hown hts hK hP 17 (by decide) rfl k_M_123 d_M_step_21 ?_
  refine lv_iload_n hx hb d_M_step_24 rfl (lv_at hl 0 rfl) ?_
  obtain ⟨hi, hw⟩ := hw
  refine va_iald (f := (S.2.1 17)) hx hb hK hP 8 0 rfl rfl hi d_M_step_25 ?_
  refine lv_icmp_lt hx hb d_M_step_26 (tgt := 35) (by decide) (fun hc => ?_) (fun hc => ?_)
  · have hw := hw.1 hc
    refine lv_aload_n hx hb d_M_step_35 rfl (lv_at hl 2 rfl) ?_
    refine cM_v (As := []) (rest := []) hx hb hml hown hts hK hP hD hS hA (Nat.zero_le _) (Nat.zero_le _) hl.1 (q_M_burn hts ⟨Nat.le_of_ble_eq_true rfl, Nat.le_of_ble_eq_true rfl⟩) (c_M_burn l g H.size _  _ hw) rfl rfl (Nat.le_of_ble_eq_true rfl) d_M_step_36 (fun S1 H locs hw hP hD hS => ?_)
    refine lv_aload_n hx hb d_M_step_39 rfl (lv_at hl 2 rfl) ?_
    refine gt_M (v := .int ((S1.1 14))) hx hb hown hts hK hP 14 (by decide) rfl k_M_120 d_M_step_40 ?_
    refine lv_if_le hx hb d_M_step_43 (tgt := 47) (by decide) (fun hc => ?_) (fun hc => ?_)
    · have hw := hw.1 hc
      refine lv_aload_n hx hb d_M_step_47 rfl (lv_at hl 2 rfl) ?_
      refine gt_M (v := .ref (g.2.2 19)) hx hb hown hts hK hP 18 (by decide) rfl k_M_124 d_M_step_48 ?_
      refine lv_bipush (v := 60) hx hb d_M_step_51 (by decide) ?_
      refine lv_iload_n hx hb d_M_step_53 rfl (lv_at hl 0 rfl) ?_
      refine lv_imul hx hb d_M_step_54 ?_
      refine lv_aload_n hx hb d_M_step_55 rfl (lv_at hl 2 rfl) ?_
      refine gt_M (v := .ref (g.2.2 28)) hx hb hown hts hK hP 27 (by decide) rfl k_M_133 d_M_step_56 ?_
      refine lv_iload_n hx hb d_M_step_59 rfl (lv_at hl 1 rfl) ?_
      obtain ⟨hi, hw⟩ := hw
      refine va_iald (f := (S1.2.1 27)) hx hb hK hP 14 0 rfl rfl hi d_M_step_60 ?_
      refine lv_iadd hx hb d_M_step_61 ?_
      obtain ⟨hi, hw⟩ := hw
      refine va_iald (f := (S1.2.1 18)) hx hb hK hP 9 0 rfl rfl hi d_M_step_62 ?_
      refine lv_istore_n (lv' := [(3, .int (((S1.2.1 18) (Int32.toNatClampNeg (((60 * ((S.2.1 26) (Int32.toNatClampNeg (((S.1 25) - 1))))) + ((S1.2.1 27) (Int32.toNatClampNeg (((S.1 25) - 1)))))))))), (2, .int (((S.2.1 26) (Int32.toNatClampNeg (((S.1 25) - 1)))))), (1, .int (((S.1 25) - 1))), (0, .ref (g.2.2 0))]) hx hb d_M_step_63 rfl hl (by decide) rfl (fun ls hl => ?_)
      refine lv_aload_n hx hb d_M_step_64 rfl (lv_at hl 3 rfl) ?_
      refine gt_M (v := .ref (g.2.2 20)) hx hb hown hts hK hP 19 (by decide) rfl k_M_125 d_M_step_65 ?_
      refine lv_bipush (v := 60) hx hb d_M_step_68 (by decide) ?_
      refine lv_iload_n hx hb d_M_step_70 rfl (lv_at hl 1 rfl) ?_
      refine lv_imul hx hb d_M_step_71 ?_
      refine lv_aload_n hx hb d_M_step_72 rfl (lv_at hl 3 rfl) ?_
      refine gt_M (v := .ref (g.2.2 28)) hx hb hown hts hK hP 27 (by decide) rfl k_M_133 d_M_step_73 ?_
      refine lv_iload_n hx hb d_M_step_76 rfl (lv_at hl 2 rfl) ?_
      obtain ⟨hi, hw⟩ := hw
      refine va_iald (f := (S1.2.1 27)) hx hb hK hP 14 0 rfl rfl hi d_M_step_77 ?_
      refine lv_iadd hx hb d_M_step_78 ?_
      obtain ⟨hi, hw⟩ := hw
      refine va_iald (f := (S1.2.1 19)) hx hb hK hP 10 0 rfl rfl hi d_M_step_79 ?_
      refine lv_istore (lv' := [(4, .int (((S1.2.1 19) (Int32.toNatClampNeg (((60 * ((S.2.1 26) (Int32.toNatClampNeg (((S.1 25) - 1))))) + ((S1.2.1 27) (Int32.toNatClampNeg (((S.1 25) - 1)))))))))), (3, .int (((S1.2.1 18) (Int32.toNatClampNeg (((60 * ((S.2.1 26) (Int32.toNatClampNeg (((S.1 25) - 1))))) + ((S1.2.1 27) (Int32.toNatClampNeg (((S.1 25) - 1)))))))))), (2, .int (((S.2.1 26) (Int32.toNatClampNeg (((S.1 25) - 1)))))), (1, .int (((S.1 25) - 1))), (0, .ref (g.2.2 0))]) hx hb d_M_step_80 hl (by decide) rfl (fun ls hl => ?_)
      refine lv_aload_n hx hb d_M_step_82 rfl (lv_at hl 4 rfl) ?_
      refine gt_M (v := .ref (g.2.2 28)) hx hb hown hts hK hP 27 (by decide) rfl k_M_133 d_M_step_83 ?_
      refine lv_iload_n hx hb d_M_step_86 rfl (lv_at hl 3 rfl) ?_
      refine lv_aload_n hx hb d_M_step_87 rfl (lv_at hl 4 rfl) ?_
      refine gt_M (v := .ref (g.2.2 28)) hx hb hown hts hK hP 27 (by decide) rfl k_M_133 d_M_step_88 ?_
      refine lv_iload_n hx hb d_M_step_91 rfl (lv_at hl 3 rfl) ?_
      obtain ⟨hi, hw⟩ := hw
      refine va_iald (f := (S1.2.1 27)) hx hb hK hP 14 0 rfl rfl hi d_M_step_92 ?_
      refine lv_iconst (v := 1) hx hb d_M_step_93 (by decide) ?_
      refine lv_iadd hx hb d_M_step_94 ?_
      obtain ⟨hi, hw⟩ := hw
      refine ia_M (S2 := (S1.1, (va_up S1.2.1 27 (upd (S1.2.1 27) (Int32.toNatClampNeg (((S.1 25) - 1))) ((((S1.2.1 27) (Int32.toNatClampNeg (((S.1 25) - 1)))) + 1)))), S1.2.2)) (f := (S1.2.1 27)) hx hb hK hP hD hS 14 rfl hi d_M_step_95 (sA_M_27 g _ _) (fun H locs hP hD hS => ?_)
      refine lv_iload_n hx hb d_M_step_96 rfl (lv_at hl 1 rfl) ?_
      refine lv_if_ne hx hb d_M_step_97 (tgt := 109) (by decide) (fun hc => ?_) (fun hc => ?_)
      · have hw := hw.2 hc
        refine lv_iload_n hx hb d_M_step_109 rfl (lv_at hl 1 rfl) ?_
        refine lv_iconst (v := 1) hx hb d_M_step_110 (by decide) ?_
        refine lv_icmp_ne hx hb d_M_step_111 (tgt := 123) (by decide) (fun hc => ?_) (fun hc => ?_)
        · have hw := hw.2 hc
          refine lv_iload_n hx hb d_M_step_123 rfl (lv_at hl 1 rfl) ?_
          refine lv_iconst (v := 3) hx hb d_M_step_124 (by decide) ?_
          refine lv_icmp_ne hx hb d_M_step_125 (tgt := 139) (by decide) (fun hc => ?_) (fun hc => ?_)
          · have hw := hw.2 hc
            refine lv_iload_n hx hb d_M_step_139 rfl (lv_at hl 1 rfl) ?_
            refine lv_iconst (v := 2) hx hb d_M_step_140 (by decide) ?_
            refine lv_icmp_ne hx hb d_M_step_141 (tgt := 170) (by decide) (fun hc => ?_) (fun hc => ?_)
            · have hw := hw.2 hc
              refine lv_iload_n hx hb d_M_step_170 rfl (lv_at hl 1 rfl) ?_
              refine lv_iconst (v := 4) hx hb d_M_step_171 (by decide) ?_
              refine lv_icmp_ne hx hb d_M_step_172 (tgt := 183) (by decide) (fun hc => ?_) (fun hc => ?_)
              · have hw := hw.2 hc
                refine lv_iconst (v := 4) hx hb d_M_step_183 (by decide) ?_
                refine lv_iload_n hx hb d_M_step_184 rfl (lv_at hl 3 rfl) ?_
                refine lv_imul hx hb d_M_step_185 ?_
                refine lv_aload_n hx hb d_M_step_186 rfl (lv_at hl 4 rfl) ?_
                refine gt_M (v := .ref (g.2.2 29)) hx hb hown hts hK hP 28 (by decide) rfl k_M_134 d_M_step_187 ?_
                refine lv_iload_n hx hb d_M_step_190 rfl (lv_at hl 3 rfl) ?_
                obtain ⟨hi, hw⟩ := hw
                refine va_iald (f := (S1.2.1 28)) hx hb hK hP 15 0 rfl rfl hi d_M_step_191 ?_
                refine lv_iadd hx hb d_M_step_192 ?_
                refine lv_iconst (v := 1) hx hb d_M_step_193 (by decide) ?_
                refine lv_isub hx hb d_M_step_194 ?_
                refine lv_istore (lv' := [(5, .int ((((4 * ((S.1 25) - 1)) + ((S1.2.1 28) (Int32.toNatClampNeg (((S.1 25) - 1))))) - 1))), (4, .int (((S1.2.1 19) (Int32.toNatClampNeg (((60 * ((S.2.1 26) (Int32.toNatClampNeg (((S.1 25) - 1))))) + ((S1.2.1 27) (Int32.toNatClampNeg (((S.1 25) - 1)))))))))), (3, .int (((S1.2.1 18) (Int32.toNatClampNeg (((60 * ((S.2.1 26) (Int32.toNatClampNeg (((S.1 25) - 1))))) + ((S1.2.1 27) (Int32.toNatClampNeg (((S.1 25) - 1)))))))))), (2, .int (((S.2.1 26) (Int32.toNatClampNeg (((S.1 25) - 1)))))), (1, .int (((S.1 25) - 1))), (0, .ref (g.2.2 0))]) hx hb d_M_step_195 hl (by decide) rfl (fun ls hl => ?_)
                refine lv_aload_n hx hb d_M_step_197 rfl (lv_at hl 5 rfl) ?_
                refine gt_M (v := .ref (g.2.2 30)) hx hb hown hts hK hP 29 (by decide) rfl k_M_135 d_M_step_198 ?_
                refine lv_iload hx hb d_M_step_201 (lv_at hl 0 rfl) ?_
                refine lv_aload_n hx hb d_M_step_203 rfl (lv_at hl 5 rfl) ?_
                refine gt_M (v := .ref (g.2.2 30)) hx hb hown hts hK hP 29 (by decide) rfl k_M_135 d_M_step_204 ?_
                refine lv_iload hx hb d_M_step_207 (lv_at hl 0 rfl) ?_
                obtain ⟨hi, hw⟩ := hw
                refine va_iald (f := (S1.2.1 29)) hx hb hK hP 16 0 rfl rfl hi d_M_step_209 ?_
                refine lv_iconst (v := 1) hx hb d_M_step_210 (by decide) ?_
                refine lv_iadd hx hb d_M_step_211 ?_
                obtain ⟨hi, hw⟩ := hw
                refine ia_M (S2 := (S1.1, (va_up (va_up S1.2.1 27 (upd (S1.2.1 27) (Int32.toNatClampNeg (((S.1 25) - 1))) ((((S1.2.1 27) (Int32.toNatClampNeg (((S.1 25) - 1)))) + 1)))) 29 (upd (S1.2.1 29) (Int32.toNatClampNeg ((((4 * ((S.1 25) - 1)) + ((S1.2.1 28) (Int32.toNatClampNeg (((S.1 25) - 1))))) - 1))) ((((S1.2.1 29) (Int32.toNatClampNeg ((((4 * ((S.1 25) - 1)) + ((S1.2.1 28) (Int32.toNatClampNeg (((S.1 25) - 1))))) - 1)))) + 1)))), S1.2.2)) (f := (S1.2.1 29)) hx hb hK hP hD hS 16 rfl hi d_M_step_212 (sA_M_29 g _ _) (fun H locs hP hD hS => ?_)
                refine lv_aload_n hx hb d_M_step_213 rfl (lv_at hl 5 rfl) ?_
                refine gt_M (v := .ref (g.2.2 30)) hx hb hown hts hK hP 29 (by decide) rfl k_M_135 d_M_step_214 ?_
                refine lv_iload hx hb d_M_step_217 (lv_at hl 0 rfl) ?_
                obtain ⟨hi, hw⟩ := hw
                refine va_iald (f := (upd (S1.2.1 29) (Int32.toNatClampNeg ((((4 * ((S.1 25) - 1)) + ((S1.2.1 28) (Int32.toNatClampNeg (((S.1 25) - 1))))) - 1))) ((((S1.2.1 29) (Int32.toNatClampNeg ((((4 * ((S.1 25) - 1)) + ((S1.2.1 28) (Int32.toNatClampNeg (((S.1 25) - 1))))) - 1)))) + 1)))) hx hb hK hP 16 0 rfl rfl hi d_M_step_219 ?_
                refine lv_aload_n hx hb d_M_step_220 rfl (lv_at hl 5 rfl) ?_
                refine gt_M (v := .ref (g.2.2 31)) hx hb hown hts hK hP 30 (by decide) rfl k_M_136 d_M_step_221 ?_
                refine lv_iload hx hb d_M_step_224 (lv_at hl 0 rfl) ?_
                obtain ⟨hi, hw⟩ := hw
                refine va_iald (f := (S1.2.1 30)) hx hb hK hP 17 0 rfl rfl hi d_M_step_226 ?_
                refine lv_icmp_eq hx hb d_M_step_227 (tgt := 234) (by decide) (fun hc => ?_) (fun hc => ?_)
                · have hw := hw.1 hc
                  refine lv_iconst (v := 0) hx hb d_M_step_234 (by decide) ?_
                  exact J235 (S1.1, (va_up (va_up S1.2.1 27 (upd (S1.2.1 27) (Int32.toNatClampNeg (((S.1 25) - 1))) ((((S1.2.1 27) (Int32.toNatClampNeg (((S.1 25) - 1)))) + 1)))) 29 (upd (S1.2.1 29) (Int32.toNatClampNeg ((((4 * ((S.1 25) - 1)) + ((S1.2.1 28) (Int32.toNatClampNeg (((S.1 25) - 1))))) - 1))) ((((S1.2.1 29) (Int32.toNatClampNeg ((((4 * ((S.1 25) - 1)) + ((S1.2.1 28) (Int32.toNatClampNeg (((S.1 25) - 1))))) - 1)))) + 1)))), S1.2.2) (((S.1 25) - 1)) (((S1.2.1 19) (Int32.toNatClampNeg (((60 * ((S.2.1 26) (Int32.toNatClampNeg (((S.1 25) - 1))))) + ((S1.2.1 27) (Int32.toNatClampNeg (((S.1 25) - 1))))))))) (0) _ _ _ hw (lv_sub hl [5, 4, 1] rfl) hP hD hS
                · have hw := hw.2 hc
                  refine lv_iconst (v := 1) hx hb d_M_step_230 (by decide) ?_
                  refine lv_goto hx hb d_M_step_231 (tgt := 235) (by decide) ?_
                  exact J235 (S1.1, (va_up (va_up S1.2.1 27 (upd (S1.2.1 27) (Int32.toNatClampNeg (((S.1 25) - 1))) ((((S1.2.1 27) (Int32.toNatClampNeg (((S.1 25) - 1)))) + 1)))) 29 (upd (S1.2.1 29) (Int32.toNatClampNeg ((((4 * ((S.1 25) - 1)) + ((S1.2.1 28) (Int32.toNatClampNeg (((S.1 25) - 1))))) - 1))) ((((S1.2.1 29) (Int32.toNatClampNeg ((((4 * ((S.1 25) - 1)) + ((S1.2.1 28) (Int32.toNatClampNeg (((S.1 25) - 1))))) - 1)))) + 1)))), S1.2.2) (((S.1 25) - 1)) (((S1.2.1 19) (Int32.toNatClampNeg (((60 * ((S.2.1 26) (Int32.toNatClampNeg (((S.1 25) - 1))))) + ((S1.2.1 27) (Int32.toNatClampNeg (((S.1 25) - 1))))))))) (1) _ _ _ hw (lv_sub hl [5, 4, 1] rfl) hP hD hS
              · have hw := hw.1 hc
                refine lv_aload_n hx hb d_M_step_175 rfl (lv_at hl 4 rfl) ?_
                refine lv_iload_n hx hb d_M_step_176 rfl (lv_at hl 3 rfl) ?_
                refine cM_v (As := [.int (((S.1 25) - 1))]) (rest := []) hx hb hml hown hts hK hP hD hS hA (Nat.zero_le _) (Nat.zero_le _) hl.1 (q_M_beginLoop hts ⟨Nat.le_of_ble_eq_true rfl, Nat.le_of_ble_eq_true rfl⟩) (c_M_beginLoop l g H.size _ (((S.1 25) - 1)) _ hw) rfl rfl (Nat.le_of_ble_eq_true rfl) d_M_step_177 (fun S2 H locs hw hP hD hS => ?_)
                refine lv_goto hx hb d_M_step_180 (tgt := 287) (by decide) ?_
                exact J287 S2  _ _ _ hw (lv_sub hl [] rfl) hP hD hS
            · have hw := hw.1 hc
              refine lv_aload_n hx hb d_M_step_144 rfl (lv_at hl 4 rfl) ?_
              refine lv_iconst (v := 1) hx hb d_M_step_145 (by decide) ?_
              refine cM_i (As := [.int (1)]) (rest := []) hx hb hml hown hts hK hP hD hS hA (Nat.zero_le _) (Nat.zero_le _) hl.1 (q_M_needs hts ⟨Nat.le_of_ble_eq_true rfl, Nat.le_of_ble_eq_true rfl⟩) (c_M_needs l g H.size _ (1) _ hw) rfl rfl (Nat.le_of_ble_eq_true rfl) d_M_step_146 (fun r4 S3 H locs hw hP hD hS => ?_)
              refine lv_if_eq hx hb d_M_step_149 (tgt := 287) (by decide) (fun hc => ?_) (fun hc => ?_)
              · have hw := hw.1 hc
                exact J287 S3  _ _ _ hw (lv_sub hl [] rfl) hP hD hS
              · have hw := hw.2 hc
                refine lv_aload_n hx hb d_M_step_152 rfl (lv_at hl 4 rfl) ?_
                refine cM_i (As := []) (rest := []) hx hb hml hown hts hK hP hD hS hA (Nat.zero_le _) (Nat.zero_le _) hl.1 (q_M_pop hts ⟨Nat.le_of_ble_eq_true rfl, Nat.le_of_ble_eq_true rfl⟩) (c_M_pop l g H.size _  _ hw) rfl rfl (Nat.le_of_ble_eq_true rfl) d_M_step_153 (fun r6 S5 H locs hw hP hD hS => ?_)
                refine lv_if_ne hx hb d_M_step_156 (tgt := 287) (by decide) (fun hc => ?_) (fun hc => ?_)
                · have hw := hw.2 hc
                  exact J287 S5  _ _ _ hw (lv_sub hl [] rfl) hP hD hS
                · have hw := hw.1 hc
                  refine lv_aload_n hx hb d_M_step_159 rfl (lv_at hl 4 rfl) ?_
                  refine gt_M (v := .ref (g.2.2 28)) hx hb hown hts hK hP 27 (by decide) rfl k_M_133 d_M_step_160 ?_
                  refine lv_iload_n hx hb d_M_step_163 rfl (lv_at hl 3 rfl) ?_
                  refine lv_iload hx hb d_M_step_164 (lv_at hl 0 rfl) ?_
                  obtain ⟨hi, hw⟩ := hw
                  refine ia_M (S2 := (S5.1, (va_up S5.2.1 27 (upd (S5.2.1 27) (Int32.toNatClampNeg (((S.1 25) - 1))) (((S1.2.1 19) (Int32.toNatClampNeg (((60 * ((S.2.1 26) (Int32.toNatClampNeg (((S.1 25) - 1))))) + ((S1.2.1 27) (Int32.toNatClampNeg (((S.1 25) - 1))))))))))), S5.2.2)) (f := (S5.2.1 27)) hx hb hK hP hD hS 14 rfl hi d_M_step_166 (sA_M_27 g _ _) (fun H locs hP hD hS => ?_)
                  refine lv_goto hx hb d_M_step_167 (tgt := 287) (by decide) ?_
                  exact J287 (S5.1, (va_up S5.2.1 27 (upd (S5.2.1 27) (Int32.toNatClampNeg (((S.1 25) - 1))) (((S1.2.1 19) (Int32.toNatClampNeg (((60 * ((S.2.1 26) (Int32.toNatClampNeg (((S.1 25) - 1))))) + ((S1.2.1 27) (Int32.toNatClampNeg (((S.1 25) - 1))))))))))), S5.2.2)  _ _ _ hw (lv_sub hl [] rfl) hP hD hS
          · have hw := hw.1 hc
            refine lv_aload_n hx hb d_M_step_128 rfl (lv_at hl 4 rfl) ?_
            refine gt_M (v := .ref (g.2.2 28)) hx hb hown hts hK hP 27 (by decide) rfl k_M_133 d_M_step_129 ?_
            refine lv_iload_n hx hb d_M_step_132 rfl (lv_at hl 3 rfl) ?_
            refine lv_iload hx hb d_M_step_133 (lv_at hl 0 rfl) ?_
            obtain ⟨hi, hw⟩ := hw
            refine ia_M (S2 := (S1.1, (va_up (va_up S1.2.1 27 (upd (S1.2.1 27) (Int32.toNatClampNeg (((S.1 25) - 1))) ((((S1.2.1 27) (Int32.toNatClampNeg (((S.1 25) - 1)))) + 1)))) 27 (upd (upd (S1.2.1 27) (Int32.toNatClampNeg (((S.1 25) - 1))) ((((S1.2.1 27) (Int32.toNatClampNeg (((S.1 25) - 1)))) + 1))) (Int32.toNatClampNeg (((S.1 25) - 1))) (((S1.2.1 19) (Int32.toNatClampNeg (((60 * ((S.2.1 26) (Int32.toNatClampNeg (((S.1 25) - 1))))) + ((S1.2.1 27) (Int32.toNatClampNeg (((S.1 25) - 1))))))))))), S1.2.2)) (f := (upd (S1.2.1 27) (Int32.toNatClampNeg (((S.1 25) - 1))) ((((S1.2.1 27) (Int32.toNatClampNeg (((S.1 25) - 1)))) + 1)))) hx hb hK hP hD hS 14 rfl hi d_M_step_135 (sA_M_27 g _ _) (fun H locs hP hD hS => ?_)
            refine lv_goto hx hb d_M_step_136 (tgt := 287) (by decide) ?_
            exact J287 (S1.1, (va_up (va_up S1.2.1 27 (upd (S1.2.1 27) (Int32.toNatClampNeg (((S.1 25) - 1))) ((((S1.2.1 27) (Int32.toNatClampNeg (((S.1 25) - 1)))) + 1)))) 27 (upd (upd (S1.2.1 27) (Int32.toNatClampNeg (((S.1 25) - 1))) ((((S1.2.1 27) (Int32.toNatClampNeg (((S.1 25) - 1)))) + 1))) (Int32.toNatClampNeg (((S.1 25) - 1))) (((S1.2.1 19) (Int32.toNatClampNeg (((60 * ((S.2.1 26) (Int32.toNatClampNeg (((S.1 25) - 1))))) + ((S1.2.1 27) (Int32.toNatClampNeg (((S.1 25) - 1))))))))))), S1.2.2)  _ _ _ hw (lv_sub hl [] rfl) hP hD hS
        · have hw := hw.1 hc
          refine lv_aload_n hx hb d_M_step_114 rfl (lv_at hl 4 rfl) ?_
          refine lv_iload hx hb d_M_step_115 (lv_at hl 0 rfl) ?_
          refine cM_v (As := [.int (((S1.2.1 19) (Int32.toNatClampNeg (((60 * ((S.2.1 26) (Int32.toNatClampNeg (((S.1 25) - 1))))) + ((S1.2.1 27) (Int32.toNatClampNeg (((S.1 25) - 1)))))))))]) (rest := []) hx hb hml hown hts hK hP hD hS hA (Nat.zero_le _) (Nat.zero_le _) hl.1 (q_M_push hts ⟨Nat.le_of_ble_eq_true rfl, Nat.le_of_ble_eq_true rfl⟩) (c_M_push l g H.size _ (((S1.2.1 19) (Int32.toNatClampNeg (((60 * ((S.2.1 26) (Int32.toNatClampNeg (((S.1 25) - 1))))) + ((S1.2.1 27) (Int32.toNatClampNeg (((S.1 25) - 1))))))))) _ hw) rfl rfl (Nat.le_of_ble_eq_true rfl) d_M_step_117 (fun S7 H locs hw hP hD hS => ?_)
          refine lv_goto hx hb d_M_step_120 (tgt := 287) (by decide) ?_
          exact J287 S7  _ _ _ hw (lv_sub hl [] rfl) hP hD hS
      · have hw := hw.1 hc
        refine lv_aload_n hx hb d_M_step_100 rfl (lv_at hl 4 rfl) ?_
        refine lv_iload hx hb d_M_step_101 (lv_at hl 0 rfl) ?_
        refine cM_v (As := [.int (((S1.2.1 19) (Int32.toNatClampNeg (((60 * ((S.2.1 26) (Int32.toNatClampNeg (((S.1 25) - 1))))) + ((S1.2.1 27) (Int32.toNatClampNeg (((S.1 25) - 1)))))))))]) (rest := []) hx hb hml hown hts hK hP hD hS hA (Nat.zero_le _) (Nat.zero_le _) hl.1 (q_M_perform hts ⟨Nat.le_of_ble_eq_true rfl, Nat.le_of_ble_eq_true rfl⟩) (c_M_perform l g H.size _ (((S1.2.1 19) (Int32.toNatClampNeg (((60 * ((S.2.1 26) (Int32.toNatClampNeg (((S.1 25) - 1))))) + ((S1.2.1 27) (Int32.toNatClampNeg (((S.1 25) - 1))))))))) _ hw) rfl rfl (Nat.le_of_ble_eq_true rfl) d_M_step_103 (fun S8 H locs hw hP hD hS => ?_)
        refine lv_goto hx hb d_M_step_106 (tgt := 287) (by decide) ?_
        exact J287 S8  _ _ _ hw (lv_sub hl [] rfl) hP hD hS
    · have hw := hw.2 hc
      exact kr S1 _ _ _ _ hw hP hD hS d_M_step_46
  · have hw := hw.2 hc
    refine lv_aload_n hx hb d_M_step_29 rfl (lv_at hl 2 rfl) ?_
    refine lv_iload_n hx hb d_M_step_30 rfl (lv_at hl 1 rfl) ?_
    refine pt_M (S2 := ((upd S.1 25 (((S.1 25) - 1))), S.2)) (v := .int (((S.1 25) - 1))) hx hb hown hts hK hP hD hS 25 (by decide) rfl rfl rfl (sI_M_25 g _ _) k_M_131 d_M_step_31 (fun H locs hP hD hS => ?_)
    exact kr ((upd S.1 25 (((S.1 25) - 1))), S.2) _ _ _ _ hw hP hD hS d_M_step_34
theorem d_M_read_0 : decode b_M_read 0 = .ok (.aload_n 0, 1) := by decide +kernel
theorem d_M_read_1 : decode b_M_read 1 = .ok (.invokevirtual 328, 3) := by decide +kernel
theorem d_M_read_4 : decode b_M_read 4 = .ok (.aload_n 0, 1) := by decide +kernel
theorem d_M_read_5 : decode b_M_read 5 = .ok (.getfield 190, 3) := by decide +kernel
theorem d_M_read_8 : decode b_M_read 8 = .ok (.ifCond .le 4, 3) := by decide +kernel
theorem d_M_read_11 : decode b_M_read 11 = .ok (.return_, 1) := by decide +kernel
theorem d_M_read_12 : decode b_M_read 12 = .ok (.aload_n 0, 1) := by decide +kernel
theorem d_M_read_13 : decode b_M_read 13 = .ok (.invokevirtual 267, 3) := by decide +kernel
theorem d_M_read_16 : decode b_M_read 16 = .ok (.istore_n 1, 1) := by decide +kernel
theorem d_M_read_17 : decode b_M_read 17 = .ok (.aload_n 0, 1) := by decide +kernel
theorem d_M_read_18 : decode b_M_read 18 = .ok (.invokevirtual 216, 3) := by decide +kernel
theorem d_M_read_21 : decode b_M_read 21 = .ok (.ifCond .eq 33, 3) := by decide +kernel
theorem d_M_read_24 : decode b_M_read 24 = .ok (.aload_n 0, 1) := by decide +kernel
theorem d_M_read_25 : decode b_M_read 25 = .ok (.getfield 260, 3) := by decide +kernel
theorem d_M_read_28 : decode b_M_read 28 = .ok (.ifCond .eq 15, 3) := by decide +kernel
theorem d_M_read_31 : decode b_M_read 31 = .ok (.aload_n 0, 1) := by decide +kernel
theorem d_M_read_32 : decode b_M_read 32 = .ok (.iconst 1, 1) := by decide +kernel
theorem d_M_read_33 : decode b_M_read 33 = .ok (.aload_n 0, 1) := by decide +kernel
theorem d_M_read_34 : decode b_M_read 34 = .ok (.invokevirtual 337, 3) := by decide +kernel
theorem d_M_read_37 : decode b_M_read 37 = .ok (.invokevirtual 279, 3) := by decide +kernel
theorem d_M_read_40 : decode b_M_read 40 = .ok (.goto 108, 3) := by decide +kernel
theorem d_M_read_43 : decode b_M_read 43 = .ok (.aload_n 0, 1) := by decide +kernel
theorem d_M_read_44 : decode b_M_read 44 = .ok (.aload_n 0, 1) := by decide +kernel
theorem d_M_read_45 : decode b_M_read 45 = .ok (.invokevirtual 337, 3) := by decide +kernel
theorem d_M_read_48 : decode b_M_read 48 = .ok (.invokevirtual 238, 3) := by decide +kernel
theorem d_M_read_51 : decode b_M_read 51 = .ok (.goto 97, 3) := by decide +kernel
theorem d_M_read_54 : decode b_M_read 54 = .ok (.iload_n 1, 1) := by decide +kernel
theorem d_M_read_55 : decode b_M_read 55 = .ok (.ifCond .ge 11, 3) := by decide +kernel
theorem d_M_read_58 : decode b_M_read 58 = .ok (.aload_n 0, 1) := by decide +kernel
theorem d_M_read_59 : decode b_M_read 59 = .ok (.iconst 1, 1) := by decide +kernel
theorem d_M_read_60 : decode b_M_read 60 = .ok (.invokevirtual 196, 3) := by decide +kernel
theorem d_M_read_63 : decode b_M_read 63 = .ok (.goto 85, 3) := by decide +kernel
theorem d_M_read_66 : decode b_M_read 66 = .ok (.aload_n 0, 1) := by decide +kernel
theorem d_M_read_67 : decode b_M_read 67 = .ok (.getfield 260, 3) := by decide +kernel
theorem d_M_read_70 : decode b_M_read 70 = .ok (.ifCond .eq 52, 3) := by decide +kernel
theorem d_M_read_73 : decode b_M_read 73 = .ok (.iload_n 1, 1) := by decide +kernel
theorem d_M_read_74 : decode b_M_read 74 = .ok (.bipush 32, 2) := by decide +kernel
theorem d_M_read_76 : decode b_M_read 76 = .ok (.bipush 36, 2) := by decide +kernel
theorem d_M_read_78 : decode b_M_read 78 = .ok (.invokestatic 212, 3) := by decide +kernel
theorem d_M_read_81 : decode b_M_read 81 = .ok (.ifCond .ne 41, 3) := by decide +kernel
theorem d_M_read_84 : decode b_M_read 84 = .ok (.iload_n 1, 1) := by decide +kernel
theorem d_M_read_85 : decode b_M_read 85 = .ok (.bipush 40, 2) := by decide +kernel
theorem d_M_read_87 : decode b_M_read 87 = .ok (.bipush 51, 2) := by decide +kernel
theorem d_M_read_89 : decode b_M_read 89 = .ok (.invokestatic 212, 3) := by decide +kernel
theorem d_M_read_92 : decode b_M_read 92 = .ok (.ifCond .ne 30, 3) := by decide +kernel
theorem d_M_read_95 : decode b_M_read 95 = .ok (.iload_n 1, 1) := by decide +kernel
theorem d_M_read_96 : decode b_M_read 96 = .ok (.bipush 100, 2) := by decide +kernel
theorem d_M_read_98 : decode b_M_read 98 = .ok (.if_icmp .lt 15, 3) := by decide +kernel
theorem d_M_read_101 : decode b_M_read 101 = .ok (.aload_n 0, 1) := by decide +kernel
theorem d_M_read_102 : decode b_M_read 102 = .ok (.getfield 29, 3) := by decide +kernel
theorem d_M_read_105 : decode b_M_read 105 = .ok (.iload_n 1, 1) := by decide +kernel
theorem d_M_read_106 : decode b_M_read 106 = .ok (.bipush 100, 2) := by decide +kernel
theorem d_M_read_108 : decode b_M_read 108 = .ok (.isub, 1) := by decide +kernel
theorem d_M_read_109 : decode b_M_read 109 = .ok (.baload, 1) := by decide +kernel
theorem d_M_read_110 : decode b_M_read 110 = .ok (.ifCond .ne 12, 3) := by decide +kernel
theorem d_M_read_113 : decode b_M_read 113 = .ok (.aload_n 0, 1) := by decide +kernel
theorem d_M_read_114 : decode b_M_read 114 = .ok (.iconst 0, 1) := by decide +kernel
theorem d_M_read_115 : decode b_M_read 115 = .ok (.iload_n 1, 1) := by decide +kernel
theorem d_M_read_116 : decode b_M_read 116 = .ok (.invokevirtual 279, 3) := by decide +kernel
theorem d_M_read_119 : decode b_M_read 119 = .ok (.goto 29, 3) := by decide +kernel
theorem d_M_read_122 : decode b_M_read 122 = .ok (.aload_n 0, 1) := by decide +kernel
theorem d_M_read_123 : decode b_M_read 123 = .ok (.iload_n 1, 1) := by decide +kernel
theorem d_M_read_124 : decode b_M_read 124 = .ok (.invokevirtual 331, 3) := by decide +kernel
theorem d_M_read_127 : decode b_M_read 127 = .ok (.aload_n 0, 1) := by decide +kernel
theorem d_M_read_128 : decode b_M_read 128 = .ok (.getfield 190, 3) := by decide +kernel
theorem d_M_read_131 : decode b_M_read 131 = .ok (.ifCond .ne 17, 3) := by decide +kernel
theorem d_M_read_134 : decode b_M_read 134 = .ok (.aload_n 0, 1) := by decide +kernel
theorem d_M_read_135 : decode b_M_read 135 = .ok (.getfield 257, 3) := by decide +kernel
theorem d_M_read_138 : decode b_M_read 138 = .ok (.ifCond .le 10, 3) := by decide +kernel
theorem d_M_read_141 : decode b_M_read 141 = .ok (.aload_n 0, 1) := by decide +kernel
theorem d_M_read_142 : decode b_M_read 142 = .ok (.invokevirtual 340, 3) := by decide +kernel
theorem d_M_read_145 : decode b_M_read 145 = .ok (.goto (-18), 3) := by decide +kernel
theorem d_M_read_148 : decode b_M_read 148 = .ok (.return_, 1) := by decide +kernel
def wq_M_read_148 (post : StM → Prop)  (S : StM)  : Prop :=
  post S
def wq_M_read_127 (post : StM → Prop)  : Nat → StM → Prop
  | 0, _ => False
  | n127 + 1, S =>
    (((S.1 14) = 0) → (((S.1 25) ≤ 0) → wq_M_read_148 post  S ) ∧ (¬ ((S.1 25) ≤ 0) → wp_M_step (fun S1 : StM => ((wq_M_read_127 post  n127) S1 )) S )) ∧ (¬ ((S.1 14) = 0) → wq_M_read_148 post  S )
def wq_M_read_122 (post : StM → Prop)  (S : StM) (x1 : Int32) : Prop :=
  wp_M_perform (fun S2 : StM => (∃ nn : Nat, wq_M_read_127 post  nn S2 )) S (x1)
def wq_M_read_113 (post : StM → Prop)  (S : StM) (x1 : Int32) : Prop :=
  wp_M_compile (fun S3 : StM => (wq_M_read_148 post  S3 )) S (0) (x1)
def wp_M_read (post : StM → Prop) (S : StM)  : Prop :=
  wp_M_burn (fun S4 : StM => ((((S4.1 14) ≤ 0) → wp_M_find (fun (r6 : Int32) (S5 : StM) => (wp_M_isNumber (fun (r8 : Int32) (S7 : StM) => (((r8 = 0) → ((0 ≤ r6) → (((S7.1 21) = 0) → wq_M_read_122 post  S7 (r6)) ∧ (¬ ((S7.1 21) = 0) → wp_M_in (fun (r10 : Int32) (S9 : StM) => (((r10 = 0) → wp_M_in (fun (r12 : Int32) (S11 : StM) => (((r12 = 0) → ((r6 < 100) → wq_M_read_113 post  S11 (r6)) ∧ (¬ (r6 < 100) → (vp_in (r6 - 100) 25) ∧ (((((S11.2.1 16) (Int32.toNatClampNeg ((r6 - 100)))) = 0) → wq_M_read_113 post  S11 (r6)) ∧ (¬ (((S11.2.1 16) (Int32.toNatClampNeg ((r6 - 100)))) = 0) → wq_M_read_122 post  S11 (r6))))) ∧ (¬ (r12 = 0) → wq_M_read_122 post  S11 (r6)))) S9 (r6) (40) (51)) ∧ (¬ (r10 = 0) → wq_M_read_122 post  S9 (r6)))) S7 (r6) (32) (36))) ∧ (¬ (0 ≤ r6) → wp_M_fail (fun S13 : StM => (wq_M_read_148 post  S13 )) S7 (1))) ∧ (¬ (r8 = 0) → (((S7.1 21) = 0) → wp_M_number (fun (r15 : Int32) (S14 : StM) => (wp_M_push (fun S16 : StM => (wq_M_read_148 post  S16 )) S14 (r15))) S7 ) ∧ (¬ ((S7.1 21) = 0) → wp_M_number (fun (r18 : Int32) (S17 : StM) => (wp_M_compile (fun S19 : StM => (wq_M_read_148 post  S19 )) S17 (1) (r18))) S7 )))) S5 )) S4 ) ∧ (¬ ((S4.1 14) ≤ 0) → post S4))) S 
set_option maxRecDepth 100000 in
set_option maxHeartbeats 4000000 in
theorem c_M_read (l : Launch) (g : Gm) (sz : Nat) (S : StM)  (post : StM → Prop) (hw : wp_M_read post S ) : Met l y_M_read (.code y_M_read b_M_read 2 none :: w_M) (rmM 7 160) (va_Pc [.ref (g.2.2 0)] (PM g sz S)) (va_Qv post (BM g sz) (AM g sz)) 0 0 (AM g sz) := by
  refine ofM_v (by decide) (Nat.le_of_ble_eq_true rfl) (fun p e s m args below meth c Q H locs ls hx hb hml hts hown hK hA kr hl hP hD hS => ?_)
  have hl : lv_has ls 2 [(0, .ref (g.2.2 0))] := hl
  unfold wp_M_read at hw
  have J148 : ∀ (S : StM)  (H : Heap) (locs : List Loc) (ls : Array Slot), wq_M_read_148 post  S  → lv_has ls 2 [] → va_P g.1 classes (wM g S) H → va_D (AM g s.heap.size) (wM g S) → va_S (AM g s.heap.size) s.heap H locs → W p l e (rmM 7 160) s m args below meth c H locs 0 0 Q (F0 m 148 ls []) := by
    intro S  H locs ls hw hl hP hD hS
    unfold wq_M_read_148 at hw
    exact kr S _ _ _ _ hw hP hD hS d_M_read_148
  have J127 : ∀ (n127 : Nat), ∀ (S : StM)  (H : Heap) (locs : List Loc) (ls : Array Slot), wq_M_read_127 post  n127 S  → lv_has ls 2 [(0, .ref (g.2.2 0))] → va_P g.1 classes (wM g S) H → va_D (AM g s.heap.size) (wM g S) → va_S (AM g s.heap.size) s.heap H locs → W p l e (rmM 7 160) s m args below meth c H locs 0 0 Q (F0 m 127 ls []) := by
    intro n127
    induction n127 with
    | zero => intro S  H locs ls hw; exact hw.elim
    | succ n127 ih127 =>
      intro S  H locs ls hw hl hP hD hS
      unfold wq_M_read_127 at hw
      refine lv_aload_n hx hb d_M_read_127 rfl (lv_at hl 0 rfl) ?_
      refine gt_M (v := .int ((S.1 14))) hx hb hown hts hK hP 14 (by decide) rfl k_M_120 d_M_read_128 ?_
      refine lv_if_ne hx hb d_M_read_131 (tgt := 148) (by decide) (fun hc => ?_) (fun hc => ?_)
      · have hw := hw.2 hc
        exact J148 S  _ _ _ hw (lv_sub hl [] rfl) hP hD hS
      · have hw := hw.1 hc
        refine lv_aload_n hx hb d_M_read_134 rfl (lv_at hl 0 rfl) ?_
        refine gt_M (v := .int ((S.1 25))) hx hb hown hts hK hP 25 (by decide) rfl k_M_131 d_M_read_135 ?_
        refine lv_if_le hx hb d_M_read_138 (tgt := 148) (by decide) (fun hc => ?_) (fun hc => ?_)
        · have hw := hw.1 hc
          exact J148 S  _ _ _ hw (lv_sub hl [] rfl) hP hD hS
        · have hw := hw.2 hc
          refine lv_aload_n hx hb d_M_read_141 rfl (lv_at hl 0 rfl) ?_
          refine cM_v (As := []) (rest := []) hx hb hml hown hts hK hP hD hS hA (Nat.zero_le _) (Nat.zero_le _) hl.1 (q_M_step hts ⟨Nat.le_of_ble_eq_true rfl, Nat.le_of_ble_eq_true rfl⟩) (c_M_step l g H.size _  _ hw) rfl rfl (Nat.le_of_ble_eq_true rfl) d_M_read_142 (fun S1 H locs hw hP hD hS => ?_)
          refine lv_goto hx hb d_M_read_145 (tgt := 127) (by decide) ?_
          exact ih127 S1  _ _ _ hw (lv_sub hl [0] rfl) hP hD hS
  have J122 : ∀ (S : StM) (x1 : Int32) (H : Heap) (locs : List Loc) (ls : Array Slot), wq_M_read_122 post  S x1 → lv_has ls 2 [(0, .ref (g.2.2 0)), (1, .int (x1))] → va_P g.1 classes (wM g S) H → va_D (AM g s.heap.size) (wM g S) → va_S (AM g s.heap.size) s.heap H locs → W p l e (rmM 7 160) s m args below meth c H locs 0 0 Q (F0 m 122 ls []) := by
    intro S x1 H locs ls hw hl hP hD hS
    unfold wq_M_read_122 at hw
    refine lv_aload_n hx hb d_M_read_122 rfl (lv_at hl 0 rfl) ?_
    refine lv_iload_n hx hb d_M_read_123 rfl (lv_at hl 1 rfl) ?_
    refine cM_v (As := [.int (x1)]) (rest := []) hx hb hml hown hts hK hP hD hS hA (Nat.zero_le _) (Nat.zero_le _) hl.1 (q_M_perform hts ⟨Nat.le_of_ble_eq_true rfl, Nat.le_of_ble_eq_true rfl⟩) (c_M_perform l g H.size _ (x1) _ hw) rfl rfl (Nat.le_of_ble_eq_true rfl) d_M_read_124 (fun S2 H locs hw hP hD hS => ?_)
    obtain ⟨nn, hw⟩ := hw
    exact J127 nn S2  _ _ _ hw (lv_sub hl [0] rfl) hP hD hS
  have J113 : ∀ (S : StM) (x1 : Int32) (H : Heap) (locs : List Loc) (ls : Array Slot), wq_M_read_113 post  S x1 → lv_has ls 2 [(0, .ref (g.2.2 0)), (1, .int (x1))] → va_P g.1 classes (wM g S) H → va_D (AM g s.heap.size) (wM g S) → va_S (AM g s.heap.size) s.heap H locs → W p l e (rmM 7 160) s m args below meth c H locs 0 0 Q (F0 m 113 ls []) := by
    intro S x1 H locs ls hw hl hP hD hS
    unfold wq_M_read_113 at hw
    refine lv_aload_n hx hb d_M_read_113 rfl (lv_at hl 0 rfl) ?_
    refine lv_iconst (v := 0) hx hb d_M_read_114 (by decide) ?_
    refine lv_iload_n hx hb d_M_read_115 rfl (lv_at hl 1 rfl) ?_
    refine cM_v (As := [.int (0), .int (x1)]) (rest := []) hx hb hml hown hts hK hP hD hS hA (Nat.zero_le _) (Nat.zero_le _) hl.1 (q_M_compile hts ⟨Nat.le_of_ble_eq_true rfl, Nat.le_of_ble_eq_true rfl⟩) (c_M_compile l g H.size _ (0) (x1) _ hw) rfl rfl (Nat.le_of_ble_eq_true rfl) d_M_read_116 (fun S3 H locs hw hP hD hS => ?_)
    refine lv_goto hx hb d_M_read_119 (tgt := 148) (by decide) ?_
    exact J148 S3  _ _ _ hw (lv_sub hl [] rfl) hP hD hS
  refine lv_aload_n hx hb d_M_read_0 rfl (lv_at hl 0 rfl) ?_
  refine cM_v (As := []) (rest := []) hx hb hml hown hts hK hP hD hS hA (Nat.zero_le _) (Nat.zero_le _) hl.1 (q_M_burn hts ⟨Nat.le_of_ble_eq_true rfl, Nat.le_of_ble_eq_true rfl⟩) (c_M_burn l g H.size _  _ hw) rfl rfl (Nat.le_of_ble_eq_true rfl) d_M_read_1 (fun S4 H locs hw hP hD hS => ?_)
  refine lv_aload_n hx hb d_M_read_4 rfl (lv_at hl 0 rfl) ?_
  refine gt_M (v := .int ((S4.1 14))) hx hb hown hts hK hP 14 (by decide) rfl k_M_120 d_M_read_5 ?_
  refine lv_if_le hx hb d_M_read_8 (tgt := 12) (by decide) (fun hc => ?_) (fun hc => ?_)
  · have hw := hw.1 hc
    refine lv_aload_n hx hb d_M_read_12 rfl (lv_at hl 0 rfl) ?_
    refine cM_i (As := []) (rest := []) hx hb hml hown hts hK hP hD hS hA (Nat.zero_le _) (Nat.zero_le _) hl.1 (q_M_find hts ⟨Nat.le_of_ble_eq_true rfl, Nat.le_of_ble_eq_true rfl⟩) (c_M_find l g H.size _  _ hw) rfl rfl (Nat.le_of_ble_eq_true rfl) d_M_read_13 (fun r6 S5 H locs hw hP hD hS => ?_)
    refine lv_istore_n (lv' := [(1, .int (r6)), (0, .ref (g.2.2 0))]) hx hb d_M_read_16 rfl hl (by decide) rfl (fun ls hl => ?_)
    refine lv_aload_n hx hb d_M_read_17 rfl (lv_at hl 1 rfl) ?_
    refine cM_i (As := []) (rest := []) hx hb hml hown hts hK hP hD hS hA (Nat.zero_le _) (Nat.zero_le _) hl.1 (q_M_isNumber hts ⟨Nat.le_of_ble_eq_true rfl, Nat.le_of_ble_eq_true rfl⟩) (c_M_isNumber l g H.size _  _ hw) rfl rfl (Nat.le_of_ble_eq_true rfl) d_M_read_18 (fun r8 S7 H locs hw hP hD hS => ?_)
    refine lv_if_eq hx hb d_M_read_21 (tgt := 54) (by decide) (fun hc => ?_) (fun hc => ?_)
    · have hw := hw.1 hc
      refine lv_iload_n hx hb d_M_read_54 rfl (lv_at hl 0 rfl) ?_
      refine lv_if_ge hx hb d_M_read_55 (tgt := 66) (by decide) (fun hc => ?_) (fun hc => ?_)
      · have hw := hw.1 hc
        refine lv_aload_n hx hb d_M_read_66 rfl (lv_at hl 1 rfl) ?_
        refine gt_M (v := .int ((S7.1 21))) hx hb hown hts hK hP 21 (by decide) rfl k_M_127 d_M_read_67 ?_
        refine lv_if_eq hx hb d_M_read_70 (tgt := 122) (by decide) (fun hc => ?_) (fun hc => ?_)
        · have hw := hw.1 hc
          exact J122 S7 (r6) _ _ _ hw (lv_sub hl [1, 0] rfl) hP hD hS
        · have hw := hw.2 hc
          refine lv_iload_n hx hb d_M_read_73 rfl (lv_at hl 0 rfl) ?_
          refine lv_bipush (v := 32) hx hb d_M_read_74 (by decide) ?_
          refine lv_bipush (v := 36) hx hb d_M_read_76 (by decide) ?_
          refine cM_iS (As := [.int (r6), .int (32), .int (36)]) (rest := []) hx hb hml hown hts hK hP hD hS hA (Nat.zero_le _) (Nat.zero_le _) hl.1 (q_M_in hts ⟨Nat.le_of_ble_eq_true rfl, Nat.le_of_ble_eq_true rfl⟩) (c_M_in l g H.size _ (r6) (32) (36) _ hw) rfl rfl (Nat.le_of_ble_eq_true rfl) d_M_read_78 (fun r10 S9 H locs hw hP hD hS => ?_)
          refine lv_if_ne hx hb d_M_read_81 (tgt := 122) (by decide) (fun hc => ?_) (fun hc => ?_)
          · have hw := hw.2 hc
            exact J122 S9 (r6) _ _ _ hw (lv_sub hl [1, 0] rfl) hP hD hS
          · have hw := hw.1 hc
            refine lv_iload_n hx hb d_M_read_84 rfl (lv_at hl 0 rfl) ?_
            refine lv_bipush (v := 40) hx hb d_M_read_85 (by decide) ?_
            refine lv_bipush (v := 51) hx hb d_M_read_87 (by decide) ?_
            refine cM_iS (As := [.int (r6), .int (40), .int (51)]) (rest := []) hx hb hml hown hts hK hP hD hS hA (Nat.zero_le _) (Nat.zero_le _) hl.1 (q_M_in hts ⟨Nat.le_of_ble_eq_true rfl, Nat.le_of_ble_eq_true rfl⟩) (c_M_in l g H.size _ (r6) (40) (51) _ hw) rfl rfl (Nat.le_of_ble_eq_true rfl) d_M_read_89 (fun r12 S11 H locs hw hP hD hS => ?_)
            refine lv_if_ne hx hb d_M_read_92 (tgt := 122) (by decide) (fun hc => ?_) (fun hc => ?_)
            · have hw := hw.2 hc
              exact J122 S11 (r6) _ _ _ hw (lv_sub hl [1, 0] rfl) hP hD hS
            · have hw := hw.1 hc
              refine lv_iload_n hx hb d_M_read_95 rfl (lv_at hl 0 rfl) ?_
              refine lv_bipush (v := 100) hx hb d_M_read_96 (by decide) ?_
              refine lv_icmp_lt hx hb d_M_read_98 (tgt := 113) (by decide) (fun hc => ?_) (fun hc => ?_)
              · have hw := hw.1 hc
                exact J113 S11 (r6) _ _ _ hw (lv_sub hl [1, 0] rfl) hP hD hS
              · have hw := hw.2 hc
                refine lv_aload_n hx hb d_M_read_101 rfl (lv_at hl 1 rfl) ?_
                refine gt_M (v := .ref (g.2.2 17)) hx hb hown hts hK hP 16 (by decide) rfl k_M_122 d_M_read_102 ?_
                refine lv_iload_n hx hb d_M_read_105 rfl (lv_at hl 0 rfl) ?_
                refine lv_bipush (v := 100) hx hb d_M_read_106 (by decide) ?_
                refine lv_isub hx hb d_M_read_108 ?_
                obtain ⟨hi, hw⟩ := hw
                refine va_zald (f := (S11.2.1 16)) hx hb hK hP 7 1 rfl rfl hi d_M_read_109 ?_
                refine lv_if_ne hx hb d_M_read_110 (tgt := 122) (by decide) (fun hc => ?_) (fun hc => ?_)
                · have hw := hw.2 hc
                  exact J122 S11 (r6) _ _ _ hw (lv_sub hl [1, 0] rfl) hP hD hS
                · have hw := hw.1 hc
                  exact J113 S11 (r6) _ _ _ hw (lv_sub hl [1, 0] rfl) hP hD hS
      · have hw := hw.2 hc
        refine lv_aload_n hx hb d_M_read_58 rfl (lv_at hl 1 rfl) ?_
        refine lv_iconst (v := 1) hx hb d_M_read_59 (by decide) ?_
        refine cM_v (As := [.int (1)]) (rest := []) hx hb hml hown hts hK hP hD hS hA (Nat.zero_le _) (Nat.zero_le _) hl.1 (q_M_fail hts ⟨Nat.le_of_ble_eq_true rfl, Nat.le_of_ble_eq_true rfl⟩) (c_M_fail l g H.size _ (1) _ hw) rfl rfl (Nat.le_of_ble_eq_true rfl) d_M_read_60 (fun S13 H locs hw hP hD hS => ?_)
        refine lv_goto hx hb d_M_read_63 (tgt := 148) (by decide) ?_
        exact J148 S13  _ _ _ hw (lv_sub hl [] rfl) hP hD hS
    · have hw := hw.2 hc
      refine lv_aload_n hx hb d_M_read_24 rfl (lv_at hl 1 rfl) ?_
      refine gt_M (v := .int ((S7.1 21))) hx hb hown hts hK hP 21 (by decide) rfl k_M_127 d_M_read_25 ?_
      refine lv_if_eq hx hb d_M_read_28 (tgt := 43) (by decide) (fun hc => ?_) (fun hc => ?_)
      · have hw := hw.1 hc
        refine lv_aload_n hx hb d_M_read_43 rfl (lv_at hl 1 rfl) ?_
        refine lv_aload_n hx hb d_M_read_44 rfl (lv_at hl 1 rfl) ?_
        refine cM_i (As := []) (rest := [.ref (g.2.2 0)]) hx hb hml hown hts hK hP hD hS hA (Nat.zero_le _) (Nat.zero_le _) hl.1 (q_M_number hts ⟨Nat.le_of_ble_eq_true rfl, Nat.le_of_ble_eq_true rfl⟩) (c_M_number l g H.size _  _ hw) rfl rfl (Nat.le_of_ble_eq_true rfl) d_M_read_45 (fun r15 S14 H locs hw hP hD hS => ?_)
        refine cM_v (As := [.int (r15)]) (rest := []) hx hb hml hown hts hK hP hD hS hA (Nat.zero_le _) (Nat.zero_le _) hl.1 (q_M_push hts ⟨Nat.le_of_ble_eq_true rfl, Nat.le_of_ble_eq_true rfl⟩) (c_M_push l g H.size _ (r15) _ hw) rfl rfl (Nat.le_of_ble_eq_true rfl) d_M_read_48 (fun S16 H locs hw hP hD hS => ?_)
        refine lv_goto hx hb d_M_read_51 (tgt := 148) (by decide) ?_
        exact J148 S16  _ _ _ hw (lv_sub hl [] rfl) hP hD hS
      · have hw := hw.2 hc
        refine lv_aload_n hx hb d_M_read_31 rfl (lv_at hl 1 rfl) ?_
        refine lv_iconst (v := 1) hx hb d_M_read_32 (by decide) ?_
        refine lv_aload_n hx hb d_M_read_33 rfl (lv_at hl 1 rfl) ?_
        refine cM_i (As := []) (rest := [.int (1), .ref (g.2.2 0)]) hx hb hml hown hts hK hP hD hS hA (Nat.zero_le _) (Nat.zero_le _) hl.1 (q_M_number hts ⟨Nat.le_of_ble_eq_true rfl, Nat.le_of_ble_eq_true rfl⟩) (c_M_number l g H.size _  _ hw) rfl rfl (Nat.le_of_ble_eq_true rfl) d_M_read_34 (fun r18 S17 H locs hw hP hD hS => ?_)
        refine cM_v (As := [.int (1), .int (r18)]) (rest := []) hx hb hml hown hts hK hP hD hS hA (Nat.zero_le _) (Nat.zero_le _) hl.1 (q_M_compile hts ⟨Nat.le_of_ble_eq_true rfl, Nat.le_of_ble_eq_true rfl⟩) (c_M_compile l g H.size _ (1) (r18) _ hw) rfl rfl (Nat.le_of_ble_eq_true rfl) d_M_read_37 (fun S19 H locs hw hP hD hS => ?_)
        refine lv_goto hx hb d_M_read_40 (tgt := 148) (by decide) ?_
        exact J148 S19  _ _ _ hw (lv_sub hl [] rfl) hP hD hS
  · have hw := hw.2 hc
    exact kr S4 _ _ _ _ hw hP hD hS d_M_read_11
