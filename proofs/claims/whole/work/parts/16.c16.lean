theorem qC_65 {R : Room} {s : State} {args : Array Value} (hts : ∀ w ∈ w_C, w.before args s = true) (hR : (rmM 0 0).frames + 1 ≤ R.frames ∧ 8 + (1 + 11) + (rmM 0 0).locals ≤ R.locals) : CallW R s args "WordSmith$Reader" R_Ma 38 y_Ma_refuel b_Ma_refuel 1 none (.code y_Ma_refuel b_Ma_refuel 1 none :: w_C) (rmM 0 0) 0 0 0 := ⟨callB_of 0 hts (good_C k_C_293) rfl rfl rfl (hts _ k_C_6) (hts _ k_C_290) ⟨by decide +kernel, by decide +kernel, by decide +kernel⟩ hR, hts _ k_C_291, hts _ k_C_292⟩
theorem d_Rd_take_0 : decode b_Rd_take 0 = .ok (.aload_n 0, 1) := by decide +kernel
theorem d_Rd_take_1 : decode b_Rd_take 1 = .ok (.aload_n 1, 1) := by decide +kernel
theorem d_Rd_take_2 : decode b_Rd_take 2 = .ok (.putfield 27, 3) := by decide +kernel
theorem d_Rd_take_5 : decode b_Rd_take 5 = .ok (.aload_n 0, 1) := by decide +kernel
theorem d_Rd_take_6 : decode b_Rd_take 6 = .ok (.iconst 0, 1) := by decide +kernel
theorem d_Rd_take_7 : decode b_Rd_take 7 = .ok (.putfield 34, 3) := by decide +kernel
theorem d_Rd_take_10 : decode b_Rd_take 10 = .ok (.aload_n 0, 1) := by decide +kernel
theorem d_Rd_take_11 : decode b_Rd_take 11 = .ok (.getfield 12, 3) := by decide +kernel
theorem d_Rd_take_14 : decode b_Rd_take 14 = .ok (.invokevirtual 38, 3) := by decide +kernel
theorem d_Rd_take_17 : decode b_Rd_take 17 = .ok (.return_, 1) := by decide +kernel
def wp_Rd_take (g : Gm) (post : StC → Prop) (S : StC) (a0 : Nat) : Prop :=
  wp_Ma_refuel g (fun S1 : StC => (post S1)) ((upd S.1 3 (0)), S.2.1, (va_up S.2.2.1 1 (a0)), S.2.2.2) 
set_option maxRecDepth 100000 in
set_option maxHeartbeats 4000000 in
theorem c_Rd_take (l : Launch) (g : Gm) (sz : Nat) (S : StC) (a0 : Nat) (post : StC → Prop) (hw : wp_Rd_take g post S a0) : Met l y_Rd_take (.code y_Rd_take b_Rd_take 2 none :: w_C) (rmM 1 20) (va_Pc [.ref (g.2.2 2), .ref (a0)] (PC g sz S)) (va_Qv post (BC g (AC g sz S)) (AC g sz S)) 0 0 (AC g sz S) := by
  refine ofC_v (by decide) (Nat.le_of_ble_eq_true rfl) (fun p e s m args below meth c Q A H locs ls hx hb hml hts hown hK hA hC hN kr hl hP hD hS => ?_)
  have hl : lv_has ls 2 [(0, .ref (g.2.2 2)), (1, .ref (a0))] := hl
  unfold wp_Rd_take at hw
  refine lv_aload_n hx hb d_Rd_take_0 rfl (lv_at hl 0 rfl) ?_
  refine lv_aload_n hx hb d_Rd_take_1 rfl (lv_at hl 1 rfl) ?_
  refine pt_C (S2 := (S.1, S.2.1, (va_up S.2.2.1 1 (a0)), S.2.2.2)) (v := .ref (a0)) (C := R_Rd) (F := F_Rd) (N := 6) (ci := 4) hx hb hts hin_Rd t_Rd t_Rd_ok n_Rd hown hK hP hD hS 2 rfl rfl 2 (by decide) rfl rfl rfl (Nat.le_of_ble_eq_true rfl) (sP_C_1 g _ _) k_C_129 d_Rd_take_2 (fun H locs hP hD hS => ?_)
  refine lv_aload_n hx hb d_Rd_take_5 rfl (lv_at hl 0 rfl) ?_
  refine lv_iconst (v := 0) hx hb d_Rd_take_6 (by decide) ?_
  refine pt_C (S2 := ((upd S.1 3 (0)), S.2.1, (va_up S.2.2.1 1 (a0)), S.2.2.2)) (v := .int (0)) (C := R_Rd) (F := F_Rd) (N := 6) (ci := 4) hx hb hts hin_Rd t_Rd t_Rd_ok n_Rd hown hK hP hD hS 2 rfl rfl 3 (by decide) rfl rfl rfl (Nat.le_of_ble_eq_true rfl) (sI_C_3 g _ _) k_C_130 d_Rd_take_7 (fun H locs hP hD hS => ?_)
  refine lv_aload_n hx hb d_Rd_take_10 rfl (lv_at hl 0 rfl) ?_
  refine va_get (D := g.1) (ci := 4) (v := .ref (g.2.2 3)) (C := R_Rd) (T := F_Rd) (N := 6) hx hb hts hin_Rd hown hK hP 2 rfl rfl 0 (by decide) (hts _ k_C_127) (fun _ h9 => h9) rfl d_Rd_take_11 ?_
  refine cC_vV (As := []) (rest := []) hx hb hml hown hts hK hC hN hP hD hS hA (Nat.zero_le _) (Nat.zero_le _) hl.1 (va_recv (q0 := 3) (ci := 5) (q := (R_Ma, F_Ma, 9)) hK hP rfl rfl) (qC_65 hts ⟨Nat.le_of_ble_eq_true rfl, Nat.le_of_ble_eq_true rfl⟩) (c_Ma_refuel l g H.size _  _ hw) rfl rfl (Nat.le_of_ble_eq_true rfl) d_Rd_take_14 (fun S1 H locs hw hP hD hS => ?_)
  exact kr S1 _ _ _ _ hw hP hD hS d_Rd_take_17
theorem qC_66 {R : Room} {s : State} {args : Array Value} (hts : ∀ w ∈ w_C, w.before args s = true) (hR : (rmM 1 20).frames + 1 ≤ R.frames ∧ 8 + (1 + 11) + (rmM 1 20).locals ≤ R.locals) : CallW R s args "WordSmith$Reader" R_Ma 69 y_Ma_clear b_Ma_clear 1 none (.code y_Ma_clear b_Ma_clear 1 none :: w_C) (rmM 1 20) 0 0 0 := ⟨callB_of 0 hts (good_C k_C_725) rfl rfl rfl (hts _ k_C_6) (hts _ k_C_722) ⟨by decide +kernel, by decide +kernel, by decide +kernel⟩ hR, hts _ k_C_723, hts _ k_C_724⟩
theorem qC_67 {R : Room} {s : State} {args : Array Value} (hts : ∀ w ∈ w_C, w.before args s = true) (hR : (rmM 0 0).frames + 1 ≤ R.frames ∧ 8 + (2 + 11) + (rmM 0 0).locals ≤ R.locals) : CallW R s args "WordSmith$Reader" R_Co 72 y_Co_end b_Co_end 2 (some (.object "WordSmith$MadeWord")) (.code y_Co_end b_Co_end 2 (some (.object "WordSmith$MadeWord")) :: w_C) (rmM 0 0) 0 0 0 := ⟨callB_of 0 hts (good_C k_C_557) rfl rfl rfl (hts _ k_C_11) (hts _ k_C_554) ⟨by decide +kernel, by decide +kernel, by decide +kernel⟩ hR, hts _ k_C_555, hts _ k_C_556⟩
theorem d_Rd_clear_0 : decode b_Rd_clear 0 = .ok (.aload_n 0, 1) := by decide +kernel
theorem d_Rd_clear_1 : decode b_Rd_clear 1 = .ok (.getfield 12, 3) := by decide +kernel
theorem d_Rd_clear_4 : decode b_Rd_clear 4 = .ok (.invokevirtual 69, 3) := by decide +kernel
theorem d_Rd_clear_7 : decode b_Rd_clear 7 = .ok (.aload_n 0, 1) := by decide +kernel
theorem d_Rd_clear_8 : decode b_Rd_clear 8 = .ok (.getfield 21, 3) := by decide +kernel
theorem d_Rd_clear_11 : decode b_Rd_clear 11 = .ok (.invokevirtual 72, 3) := by decide +kernel
theorem d_Rd_clear_14 : decode b_Rd_clear 14 = .ok (.pop, 1) := by decide +kernel
theorem d_Rd_clear_15 : decode b_Rd_clear 15 = .ok (.return_, 1) := by decide +kernel
def wp_Rd_clear (g : Gm) (post : StC → Prop) (S : StC)  : Prop :=
  wp_Ma_clear g (fun S1 : StC => (wp_Co_end g (fun (r3 : Option Nat) (S2 : StC) => (post S2)) S1 )) S 
set_option maxRecDepth 100000 in
set_option maxHeartbeats 4000000 in
theorem c_Rd_clear (l : Launch) (g : Gm) (sz : Nat) (S : StC)  (post : StC → Prop) (hw : wp_Rd_clear g post S ) : Met l y_Rd_clear (.code y_Rd_clear b_Rd_clear 1 none :: w_C) (rmM 2 40) (va_Pc [.ref (g.2.2 2)] (PC g sz S)) (va_Qv post (BC g (AC g sz S)) (AC g sz S)) 0 0 (AC g sz S) := by
  refine ofC_v (by decide) (Nat.le_of_ble_eq_true rfl) (fun p e s m args below meth c Q A H locs ls hx hb hml hts hown hK hA hC hN kr hl hP hD hS => ?_)
  have hl : lv_has ls 1 [(0, .ref (g.2.2 2))] := hl
  unfold wp_Rd_clear at hw
  refine lv_aload_n hx hb d_Rd_clear_0 rfl (lv_at hl 0 rfl) ?_
  refine va_get (D := g.1) (ci := 4) (v := .ref (g.2.2 3)) (C := R_Rd) (T := F_Rd) (N := 6) hx hb hts hin_Rd hown hK hP 2 rfl rfl 0 (by decide) (hts _ k_C_127) (fun _ h9 => h9) rfl d_Rd_clear_1 ?_
  refine cC_vV (As := []) (rest := []) hx hb hml hown hts hK hC hN hP hD hS hA (Nat.zero_le _) (Nat.zero_le _) hl.1 (va_recv (q0 := 3) (ci := 5) (q := (R_Ma, F_Ma, 9)) hK hP rfl rfl) (qC_66 hts ⟨Nat.le_of_ble_eq_true rfl, Nat.le_of_ble_eq_true rfl⟩) (c_Ma_clear l g H.size _  _ hw) rfl rfl (Nat.le_of_ble_eq_true rfl) d_Rd_clear_4 (fun S1 H locs hw hP hD hS => ?_)
  refine lv_aload_n hx hb d_Rd_clear_7 rfl (lv_at hl 0 rfl) ?_
  refine va_get (D := g.1) (ci := 4) (v := .ref (g.2.2 17)) (C := R_Rd) (T := F_Rd) (N := 6) hx hb hts hin_Rd hown hK hP 2 rfl rfl 1 (by decide) (hts _ k_C_128) (fun _ h9 => h9) rfl d_Rd_clear_8 ?_
  refine cC_qV (As := []) (rest := []) hx hb hml hown hts hK hC hN hP hD hS hA (Nat.zero_le _) (Nat.zero_le _) hl.1 (va_recv (q0 := 17) (ci := 10) (q := (R_Co, F_Co, 4)) hK hP rfl rfl) (qC_67 hts ⟨Nat.le_of_ble_eq_true rfl, Nat.le_of_ble_eq_true rfl⟩) (c_Co_end l g H.size _  _ hw) rfl rfl (Nat.le_of_ble_eq_true rfl) d_Rd_clear_11 (fun r3 S2 H locs hw hP hD hS => ?_)
  refine lv_pop hx hb d_Rd_clear_14 (rf_cat _) ?_
  exact kr S2 _ _ _ _ hw hP hD hS d_Rd_clear_15
theorem qC_68 {R : Room} {s : State} {args : Array Value} (hts : ∀ w ∈ w_C, w.before args s = true) (hR : (rmM 0 0).frames + 1 ≤ R.frames ∧ 8 + (1 + 11) + (rmM 0 0).locals ≤ R.locals) : CallW R s args "WordSmith$Reader" R_Co 122 y_Co_isCompiling b_Co_isCompiling 1 (some .boolean) (.code y_Co_isCompiling b_Co_isCompiling 1 (some .boolean) :: w_C) (rmM 0 0) 0 0 0 := ⟨callB_of 0 hts (good_C k_C_398) rfl rfl rfl (hts _ k_C_11) (hts _ k_C_395) ⟨by decide +kernel, by decide +kernel, by decide +kernel⟩ hR, hts _ k_C_396, hts _ k_C_397⟩
theorem qC_69 {R : Room} {s : State} {args : Array Value} (hts : ∀ w ∈ w_C, w.before args s = true) (hR : (rmM 1 21).frames + 1 ≤ R.frames ∧ 8 + (2 + 11) + (rmM 1 21).locals ≤ R.locals) : CallW R s args "WordSmith$Reader" R_Ma 134 y_Ma_putNumber b_Ma_putNumber 2 (some .int) (.code y_Ma_putNumber b_Ma_putNumber 2 (some .int) :: w_C) (rmM 1 21) 0 0 1 := ⟨callB_of 1 hts (good_C k_C_414) rfl rfl rfl (hts _ k_C_6) (hts _ k_C_411) ⟨by decide +kernel, by decide +kernel, by decide +kernel⟩ hR, hts _ k_C_412, hts _ k_C_413⟩
theorem qC_70 {R : Room} {s : State} {args : Array Value} (hts : ∀ w ∈ w_C, w.before args s = true) (hR : (rmM 1 22).frames + 1 ≤ R.frames ∧ 8 + (3 + 11) + (rmM 1 22).locals ≤ R.locals) : CallW R s args "WordSmith$Reader" R_Co 127 y_Co_addItem b_Co_addItem 3 (some .int) (.code y_Co_addItem b_Co_addItem 3 (some .int) :: w_C) (rmM 1 22) 0 0 2 := ⟨callB_of 2 hts (good_C k_C_402) rfl rfl rfl (hts _ k_C_11) (hts _ k_C_399) ⟨by decide +kernel, by decide +kernel, by decide +kernel⟩ hR, hts _ k_C_400, hts _ k_C_401⟩
theorem d_Rd_readNumber_0 : decode b_Rd_readNumber 0 = .ok (.aload_n 0, 1) := by decide +kernel
theorem d_Rd_readNumber_1 : decode b_Rd_readNumber 1 = .ok (.getfield 21, 3) := by decide +kernel
theorem d_Rd_readNumber_4 : decode b_Rd_readNumber 4 = .ok (.invokevirtual 122, 3) := by decide +kernel
theorem d_Rd_readNumber_7 : decode b_Rd_readNumber 7 = .ok (.ifCond .eq 13, 3) := by decide +kernel
theorem d_Rd_readNumber_10 : decode b_Rd_readNumber 10 = .ok (.aload_n 0, 1) := by decide +kernel
theorem d_Rd_readNumber_11 : decode b_Rd_readNumber 11 = .ok (.getfield 21, 3) := by decide +kernel
theorem d_Rd_readNumber_14 : decode b_Rd_readNumber 14 = .ok (.iconst 0, 1) := by decide +kernel
theorem d_Rd_readNumber_15 : decode b_Rd_readNumber 15 = .ok (.iload_n 1, 1) := by decide +kernel
theorem d_Rd_readNumber_16 : decode b_Rd_readNumber 16 = .ok (.invokevirtual 127, 3) := by decide +kernel
theorem d_Rd_readNumber_19 : decode b_Rd_readNumber 19 = .ok (.ireturn, 1) := by decide +kernel
theorem d_Rd_readNumber_20 : decode b_Rd_readNumber 20 = .ok (.aload_n 0, 1) := by decide +kernel
theorem d_Rd_readNumber_21 : decode b_Rd_readNumber 21 = .ok (.getfield 12, 3) := by decide +kernel
theorem d_Rd_readNumber_24 : decode b_Rd_readNumber 24 = .ok (.iload_n 1, 1) := by decide +kernel
theorem d_Rd_readNumber_25 : decode b_Rd_readNumber 25 = .ok (.invokevirtual 134, 3) := by decide +kernel
theorem d_Rd_readNumber_28 : decode b_Rd_readNumber 28 = .ok (.ireturn, 1) := by decide +kernel
def wp_Rd_readNumber (g : Gm) (post : Int32 → StC → Prop) (S : StC) (a0 : Int32) : Prop :=
  wp_Co_isCompiling g (fun (r2 : Int32) (S1 : StC) => (((r2 = 0) → wp_Ma_putNumber g (fun (r4 : Int32) (S3 : StC) => (post (r4) S3)) S1 (a0)) ∧ (¬ (r2 = 0) → wp_Co_addItem g (fun (r6 : Int32) (S5 : StC) => (post (r6) S5)) S1 (0) (a0)))) S 
set_option maxRecDepth 100000 in
set_option maxHeartbeats 4000000 in
theorem c_Rd_readNumber (l : Launch) (g : Gm) (sz : Nat) (S : StC) (a0 : Int32) (post : Int32 → StC → Prop) (hw : wp_Rd_readNumber g post S a0) : Met l y_Rd_readNumber (.code y_Rd_readNumber b_Rd_readNumber 2 (some .int) :: w_C) (rmM 2 44) (va_Pc [.ref (g.2.2 2), .int (a0)] (PC g sz S)) (va_Qi post (BC g (AC g sz S)) (AC g sz S)) 0 0 (AC g sz S) := by
  refine ofC_i (by decide) (Nat.le_of_ble_eq_true rfl) (fun p e s m args below meth c Q A H locs ls hx hb hml hts hown hK hA hC hN kr hl hP hD hS => ?_)
  have hl : lv_has ls 2 [(0, .ref (g.2.2 2)), (1, .int (a0))] := hl
  unfold wp_Rd_readNumber at hw
  refine lv_aload_n hx hb d_Rd_readNumber_0 rfl (lv_at hl 0 rfl) ?_
  refine va_get (D := g.1) (ci := 4) (v := .ref (g.2.2 17)) (C := R_Rd) (T := F_Rd) (N := 6) hx hb hts hin_Rd hown hK hP 2 rfl rfl 1 (by decide) (hts _ k_C_128) (fun _ h9 => h9) rfl d_Rd_readNumber_1 ?_
  refine cC_iV (As := []) (rest := []) hx hb hml hown hts hK hC hN hP hD hS hA (Nat.zero_le _) (Nat.zero_le _) hl.1 (va_recv (q0 := 17) (ci := 10) (q := (R_Co, F_Co, 4)) hK hP rfl rfl) (qC_68 hts ⟨Nat.le_of_ble_eq_true rfl, Nat.le_of_ble_eq_true rfl⟩) (c_Co_isCompiling l g H.size _  _ hw) rfl rfl (Nat.le_of_ble_eq_true rfl) d_Rd_readNumber_4 (fun r2 S1 H locs hw hP hD hS => ?_)
  refine lv_if_eq hx hb d_Rd_readNumber_7 (tgt := 20) (by decide) (fun hc => ?_) (fun hc => ?_)
  · have hw := hw.1 hc
    refine lv_aload_n hx hb d_Rd_readNumber_20 rfl (lv_at hl 0 rfl) ?_
    refine va_get (D := g.1) (ci := 4) (v := .ref (g.2.2 3)) (C := R_Rd) (T := F_Rd) (N := 6) hx hb hts hin_Rd hown hK hP 2 rfl rfl 0 (by decide) (hts _ k_C_127) (fun _ h9 => h9) rfl d_Rd_readNumber_21 ?_
    refine lv_iload_n hx hb d_Rd_readNumber_24 rfl (lv_at hl 1 rfl) ?_
    refine cC_iV (As := [.int (a0)]) (rest := []) hx hb hml hown hts hK hC hN hP hD hS hA (Nat.zero_le _) (Nat.zero_le _) hl.1 (va_recv (q0 := 3) (ci := 5) (q := (R_Ma, F_Ma, 9)) hK hP rfl rfl) (qC_69 hts ⟨Nat.le_of_ble_eq_true rfl, Nat.le_of_ble_eq_true rfl⟩) (c_Ma_putNumber l g H.size _ (a0) _ hw) rfl rfl (Nat.le_of_ble_eq_true rfl) d_Rd_readNumber_25 (fun r4 S3 H locs hw hP hD hS => ?_)
    exact kr (r4) S3 _ _ _ _ hw hP hD hS d_Rd_readNumber_28
  · have hw := hw.2 hc
    refine lv_aload_n hx hb d_Rd_readNumber_10 rfl (lv_at hl 0 rfl) ?_
    refine va_get (D := g.1) (ci := 4) (v := .ref (g.2.2 17)) (C := R_Rd) (T := F_Rd) (N := 6) hx hb hts hin_Rd hown hK hP 2 rfl rfl 1 (by decide) (hts _ k_C_128) (fun _ h9 => h9) rfl d_Rd_readNumber_11 ?_
    refine lv_iconst (v := 0) hx hb d_Rd_readNumber_14 (by decide) ?_
    refine lv_iload_n hx hb d_Rd_readNumber_15 rfl (lv_at hl 1 rfl) ?_
    refine cC_iV (As := [.int (0), .int (a0)]) (rest := []) hx hb hml hown hts hK hC hN hP hD hS hA (Nat.zero_le _) (Nat.zero_le _) hl.1 (va_recv (q0 := 17) (ci := 10) (q := (R_Co, F_Co, 4)) hK hP rfl rfl) (qC_70 hts ⟨Nat.le_of_ble_eq_true rfl, Nat.le_of_ble_eq_true rfl⟩) (c_Co_addItem l g H.size _ (0) (a0) _ hw) rfl rfl (Nat.le_of_ble_eq_true rfl) d_Rd_readNumber_16 (fun r6 S5 H locs hw hP hD hS => ?_)
    exact kr (r6) S5 _ _ _ _ hw hP hD hS d_Rd_readNumber_19
theorem qC_71 {R : Room} {s : State} {args : Array Value} (hts : ∀ w ∈ w_C, w.before args s = true) (hR : (rmM 2 42).frames + 1 ≤ R.frames ∧ 8 + (2 + 11) + (rmM 2 42).locals ≤ R.locals) : CallW R s args "WordSmith$Reader" R_Co 137 y_Co_lack b_Co_lack 2 (some .int) (.code y_Co_lack b_Co_lack 2 (some .int) :: w_C) (rmM 2 42) 0 0 1 := ⟨callB_of 1 hts (good_C k_C_534) rfl rfl rfl (hts _ k_C_11) (hts _ k_C_531) ⟨by decide +kernel, by decide +kernel, by decide +kernel⟩ hR, hts _ k_C_532, hts _ k_C_533⟩
theorem qC_72 {R : Room} {s : State} {args : Array Value} (hts : ∀ w ∈ w_C, w.before args s = true) (hR : (rmM 2 43).frames + 1 ≤ R.frames ∧ 8 + (3 + 11) + (rmM 2 43).locals ≤ R.locals) : CallW R s args "WordSmith$Reader" R_Co 154 y_Co_compile b_Co_compile 3 none (.code y_Co_compile b_Co_compile 3 none :: w_C) (rmM 2 43) 0 0 1 := ⟨callB_of 1 hts (good_C k_C_562) rfl rfl rfl (hts _ k_C_11) (hts _ k_C_559) ⟨by decide +kernel, by decide +kernel, by decide +kernel⟩ hR, hts _ k_C_560, hts _ k_C_561⟩
theorem qC_73 {R : Room} {s : State} {args : Array Value} (hts : ∀ w ∈ w_C, w.before args s = true) (hR : (rmM 0 0).frames + 1 ≤ R.frames ∧ 8 + (1 + 11) + (rmM 0 0).locals ≤ R.locals) : CallW R s args "WordSmith$Reader" R_Di 151 y_Di_nextNumber b_Di_nextNumber 1 (some .int) (.code y_Di_nextNumber b_Di_nextNumber 1 (some .int) :: w_C) (rmM 0 0) 0 0 0 := ⟨callB_of 0 hts (good_C k_C_462) rfl rfl rfl (hts _ k_C_9) (hts _ k_C_459) ⟨by decide +kernel, by decide +kernel, by decide +kernel⟩ hR, hts _ k_C_460, hts _ k_C_461⟩
theorem qC_74 {R : Room} {s : State} {args : Array Value} (hts : ∀ w ∈ w_C, w.before args s = true) (hR : (rmM 0 0).frames + 1 ≤ R.frames ∧ 8 + (2 + 11) + (rmM 0 0).locals ≤ R.locals) : CallW R s args "WordSmith$Reader" R_Di 144 y_Di_add b_Di_add 2 none (.code y_Di_add b_Di_add 2 none :: w_C) (rmM 0 0) 0 0 1 := ⟨callB_of 1 hts (good_C k_C_507) rfl rfl rfl (hts _ k_C_9) (hts _ k_C_504) ⟨by decide +kernel, by decide +kernel, by decide +kernel⟩ hR, hts _ k_C_505, hts _ k_C_506⟩
theorem d_Rd_compile_0 : decode b_Rd_compile 0 = .ok (.aload_n 0, 1) := by decide +kernel
theorem d_Rd_compile_1 : decode b_Rd_compile 1 = .ok (.getfield 21, 3) := by decide +kernel
theorem d_Rd_compile_4 : decode b_Rd_compile 4 = .ok (.aload_n 1, 1) := by decide +kernel
theorem d_Rd_compile_5 : decode b_Rd_compile 5 = .ok (.invokevirtual 137, 3) := by decide +kernel
theorem d_Rd_compile_8 : decode b_Rd_compile 8 = .ok (.istore_n 2, 1) := by decide +kernel
theorem d_Rd_compile_9 : decode b_Rd_compile 9 = .ok (.iload_n 2, 1) := by decide +kernel
theorem d_Rd_compile_10 : decode b_Rd_compile 10 = .ok (.ifCond .eq 5, 3) := by decide +kernel
theorem d_Rd_compile_13 : decode b_Rd_compile 13 = .ok (.iload_n 2, 1) := by decide +kernel
theorem d_Rd_compile_14 : decode b_Rd_compile 14 = .ok (.ireturn, 1) := by decide +kernel
theorem d_Rd_compile_15 : decode b_Rd_compile 15 = .ok (.aload_n 1, 1) := by decide +kernel
theorem d_Rd_compile_16 : decode b_Rd_compile 16 = .ok (.getstatic 140, 3) := by decide +kernel
theorem d_Rd_compile_19 : decode b_Rd_compile 19 = .ok (.if_acmp .ne 22, 3) := by decide +kernel
theorem d_Rd_compile_22 : decode b_Rd_compile 22 = .ok (.aload_n 0, 1) := by decide +kernel
theorem d_Rd_compile_23 : decode b_Rd_compile 23 = .ok (.getfield 12, 3) := by decide +kernel
theorem d_Rd_compile_26 : decode b_Rd_compile 26 = .ok (.getfield 94, 3) := by decide +kernel
theorem d_Rd_compile_29 : decode b_Rd_compile 29 = .ok (.aload_n 0, 1) := by decide +kernel
theorem d_Rd_compile_30 : decode b_Rd_compile 30 = .ok (.getfield 21, 3) := by decide +kernel
theorem d_Rd_compile_33 : decode b_Rd_compile 33 = .ok (.invokevirtual 72, 3) := by decide +kernel
theorem d_Rd_compile_36 : decode b_Rd_compile 36 = .ok (.invokevirtual 144, 3) := by decide +kernel
theorem d_Rd_compile_39 : decode b_Rd_compile 39 = .ok (.iconst 0, 1) := by decide +kernel
theorem d_Rd_compile_40 : decode b_Rd_compile 40 = .ok (.ireturn, 1) := by decide +kernel
theorem d_Rd_compile_41 : decode b_Rd_compile 41 = .ok (.aload_n 1, 1) := by decide +kernel
theorem d_Rd_compile_42 : decode b_Rd_compile 42 = .ok (.getstatic 148, 3) := by decide +kernel
theorem d_Rd_compile_45 : decode b_Rd_compile 45 = .ok (.if_acmp .ne 22, 3) := by decide +kernel
theorem d_Rd_compile_48 : decode b_Rd_compile 48 = .ok (.aload_n 0, 1) := by decide +kernel
theorem d_Rd_compile_49 : decode b_Rd_compile 49 = .ok (.getfield 21, 3) := by decide +kernel
theorem d_Rd_compile_52 : decode b_Rd_compile 52 = .ok (.iconst 1, 1) := by decide +kernel
theorem d_Rd_compile_53 : decode b_Rd_compile 53 = .ok (.aload_n 0, 1) := by decide +kernel
theorem d_Rd_compile_54 : decode b_Rd_compile 54 = .ok (.getfield 12, 3) := by decide +kernel
theorem d_Rd_compile_57 : decode b_Rd_compile 57 = .ok (.getfield 94, 3) := by decide +kernel
theorem d_Rd_compile_60 : decode b_Rd_compile 60 = .ok (.invokevirtual 151, 3) := by decide +kernel
theorem d_Rd_compile_63 : decode b_Rd_compile 63 = .ok (.invokevirtual 127, 3) := by decide +kernel
theorem d_Rd_compile_66 : decode b_Rd_compile 66 = .ok (.ireturn, 1) := by decide +kernel
theorem d_Rd_compile_67 : decode b_Rd_compile 67 = .ok (.aload_n 0, 1) := by decide +kernel
theorem d_Rd_compile_68 : decode b_Rd_compile 68 = .ok (.getfield 21, 3) := by decide +kernel
theorem d_Rd_compile_71 : decode b_Rd_compile 71 = .ok (.aload_n 1, 1) := by decide +kernel
theorem d_Rd_compile_72 : decode b_Rd_compile 72 = .ok (.invokevirtual 154, 3) := by decide +kernel
theorem d_Rd_compile_75 : decode b_Rd_compile 75 = .ok (.iconst 0, 1) := by decide +kernel
theorem d_Rd_compile_76 : decode b_Rd_compile 76 = .ok (.ireturn, 1) := by decide +kernel
def wp_Rd_compile (g : Gm) (post : Int32 → StC → Prop) (S : StC) (a0 : Nat) : Prop :=
  wp_Co_lack g (fun (r2 : Int32) (S1 : StC) => (((r2 = 0) → (((some (a0)) = (some ((g.2.2 140)))) → wp_Co_end g (fun (r9 : Option Nat) (S8 : StC) => (wp_Di_add g (fun S10 : StC => (post (0) S10)) S8 (r9))) S1 ) ∧ (¬ ((some (a0)) = (some ((g.2.2 140)))) → (((some (a0)) = (some ((g.2.2 151)))) → wp_Di_nextNumber g (fun (r5 : Int32) (S4 : StC) => (wp_Co_addItem g (fun (r7 : Int32) (S6 : StC) => (post (r7) S6)) S4 (1) (r5))) S1 ) ∧ (¬ ((some (a0)) = (some ((g.2.2 151)))) → wp_Co_compile g (fun S3 : StC => (post (0) S3)) S1 (a0)))) ∧ (¬ (r2 = 0) → post (r2) S1))) S (a0)
set_option maxRecDepth 100000 in
set_option maxHeartbeats 4000000 in
theorem c_Rd_compile (l : Launch) (g : Gm) (sz : Nat) (S : StC) (a0 : Nat) (post : Int32 → StC → Prop) (hw : wp_Rd_compile g post S a0) : Met l y_Rd_compile (.code y_Rd_compile b_Rd_compile 3 (some .int) :: w_C) (rmM 3 65) (va_Pc [.ref (g.2.2 2), .ref (a0)] (PC g sz S)) (va_Qi post (BC g (AC g sz S)) (AC g sz S)) 0 0 (AC g sz S) := by
  refine ofC_i (by decide) (Nat.le_of_ble_eq_true rfl) (fun p e s m args below meth c Q A H locs ls hx hb hml hts hown hK hA hC hN kr hl hP hD hS => ?_)
  have hl : lv_has ls 3 [(0, .ref (g.2.2 2)), (1, .ref (a0))] := hl
  unfold wp_Rd_compile at hw
  refine lv_aload_n hx hb d_Rd_compile_0 rfl (lv_at hl 0 rfl) ?_
  refine va_get (D := g.1) (ci := 4) (v := .ref (g.2.2 17)) (C := R_Rd) (T := F_Rd) (N := 6) hx hb hts hin_Rd hown hK hP 2 rfl rfl 1 (by decide) (hts _ k_C_128) (fun _ h9 => h9) rfl d_Rd_compile_1 ?_
  refine lv_aload_n hx hb d_Rd_compile_4 rfl (lv_at hl 1 rfl) ?_
  refine cC_iV (As := [.ref (a0)]) (rest := []) hx hb hml hown hts hK hC hN hP hD hS hA (Nat.zero_le _) (Nat.zero_le _) hl.1 (va_recv (q0 := 17) (ci := 10) (q := (R_Co, F_Co, 4)) hK hP rfl rfl) (qC_71 hts ⟨Nat.le_of_ble_eq_true rfl, Nat.le_of_ble_eq_true rfl⟩) (c_Co_lack l g H.size _ (a0) _ hw) rfl rfl (Nat.le_of_ble_eq_true rfl) d_Rd_compile_5 (fun r2 S1 H locs hw hP hD hS => ?_)
  refine lv_istore_n (lv' := [(2, .int (r2)), (0, .ref (g.2.2 2)), (1, .ref (a0))]) hx hb d_Rd_compile_8 rfl hl (by decide) rfl (fun ls hl => ?_)
  refine lv_iload_n hx hb d_Rd_compile_9 rfl (lv_at hl 0 rfl) ?_
  refine lv_if_eq hx hb d_Rd_compile_10 (tgt := 15) (by decide) (fun hc => ?_) (fun hc => ?_)
  · have hw := hw.1 hc
    refine lv_aload_n hx hb d_Rd_compile_15 rfl (lv_at hl 2 rfl) ?_
    refine va_gets (C := "WordSmith$BuiltIn") (n := "SEMICOLON") (d := "LWordSmith$BuiltIn;") (v := .ref ((g.2.2 140))) hx hb (hC.1.1.1 40 (by decide)).1 hS hown (hts _ k_C_553) (fun _ h9 => h9) d_Rd_compile_16 ?_
    refine lv_acmp_ne (rx := (some (a0))) (ry := (some ((g.2.2 140)))) hx hb d_Rd_compile_19 (tgt := 41) (by decide) (fun hc => ?_) (fun hc => ?_)
    · have hw := hw.2 hc
      refine lv_aload_n hx hb d_Rd_compile_41 rfl (lv_at hl 2 rfl) ?_
      refine va_gets (C := "WordSmith$BuiltIn") (n := "RECURSE") (d := "LWordSmith$BuiltIn;") (v := .ref ((g.2.2 151))) hx hb (hC.1.1.1 51 (by decide)).1 hS hown (hts _ k_C_558) (fun _ h9 => h9) d_Rd_compile_42 ?_
      refine lv_acmp_ne (rx := (some (a0))) (ry := (some ((g.2.2 151)))) hx hb d_Rd_compile_45 (tgt := 67) (by decide) (fun hc => ?_) (fun hc => ?_)
      · have hw := hw.2 hc
        refine lv_aload_n hx hb d_Rd_compile_67 rfl (lv_at hl 1 rfl) ?_
        refine va_get (D := g.1) (ci := 4) (v := .ref (g.2.2 17)) (C := R_Rd) (T := F_Rd) (N := 6) hx hb hts hin_Rd hown hK hP 2 rfl rfl 1 (by decide) (hts _ k_C_128) (fun _ h9 => h9) rfl d_Rd_compile_68 ?_
        refine lv_aload_n hx hb d_Rd_compile_71 rfl (lv_at hl 2 rfl) ?_
        refine cC_vV (As := [.ref (a0)]) (rest := []) hx hb hml hown hts hK hC hN hP hD hS hA (Nat.zero_le _) (Nat.zero_le _) hl.1 (va_recv (q0 := 17) (ci := 10) (q := (R_Co, F_Co, 4)) hK hP rfl rfl) (qC_72 hts ⟨Nat.le_of_ble_eq_true rfl, Nat.le_of_ble_eq_true rfl⟩) (c_Co_compile l g H.size _ (a0) _ hw) rfl rfl (Nat.le_of_ble_eq_true rfl) d_Rd_compile_72 (fun S3 H locs hw hP hD hS => ?_)
        refine lv_iconst (v := 0) hx hb d_Rd_compile_75 (by decide) ?_
        exact kr (0) S3 _ _ _ _ hw hP hD hS d_Rd_compile_76
      · have hw := hw.1 hc
        refine lv_aload_n hx hb d_Rd_compile_48 rfl (lv_at hl 1 rfl) ?_
        refine va_get (D := g.1) (ci := 4) (v := .ref (g.2.2 17)) (C := R_Rd) (T := F_Rd) (N := 6) hx hb hts hin_Rd hown hK hP 2 rfl rfl 1 (by decide) (hts _ k_C_128) (fun _ h9 => h9) rfl d_Rd_compile_49 ?_
        refine lv_iconst (v := 1) hx hb d_Rd_compile_52 (by decide) ?_
        refine lv_aload_n hx hb d_Rd_compile_53 rfl (lv_at hl 1 rfl) ?_
        refine va_get (D := g.1) (ci := 4) (v := .ref (g.2.2 3)) (C := R_Rd) (T := F_Rd) (N := 6) hx hb hts hin_Rd hown hK hP 2 rfl rfl 0 (by decide) (hts _ k_C_127) (fun _ h9 => h9) rfl d_Rd_compile_54 ?_
        refine va_getN (D := g.1) (ci := 5) (v := .ref (g.2.2 13)) (C := R_Ma) (T := F_Ma) (N := 9) hx hb hts hin_Ma hown hK hP 3 rfl rfl 3 (by decide) (va_Nw.use rfl (hN.1 _ kn_C_21)) (fun _ h9 => h9) rfl d_Rd_compile_57 ?_
        refine cC_iV (As := []) (rest := [.int (1), .ref (g.2.2 17)]) hx hb hml hown hts hK hC hN hP hD hS hA (Nat.zero_le _) (Nat.zero_le _) hl.1 (va_recv (q0 := 13) (ci := 8) (q := (R_Di, F_Di, 2)) hK hP rfl rfl) (qC_73 hts ⟨Nat.le_of_ble_eq_true rfl, Nat.le_of_ble_eq_true rfl⟩) (c_Di_nextNumber l g H.size _  _ hw) rfl rfl (Nat.le_of_ble_eq_true rfl) d_Rd_compile_60 (fun r5 S4 H locs hw hP hD hS => ?_)
        refine cC_iV (As := [.int (1), .int (r5)]) (rest := []) hx hb hml hown hts hK hC hN hP hD hS hA (Nat.zero_le _) (Nat.zero_le _) hl.1 (va_recv (q0 := 17) (ci := 10) (q := (R_Co, F_Co, 4)) hK hP rfl rfl) (qC_70 hts ⟨Nat.le_of_ble_eq_true rfl, Nat.le_of_ble_eq_true rfl⟩) (c_Co_addItem l g H.size _ (1) (r5) _ hw) rfl rfl (Nat.le_of_ble_eq_true rfl) d_Rd_compile_63 (fun r7 S6 H locs hw hP hD hS => ?_)
        exact kr (r7) S6 _ _ _ _ hw hP hD hS d_Rd_compile_66
    · have hw := hw.1 hc
      refine lv_aload_n hx hb d_Rd_compile_22 rfl (lv_at hl 1 rfl) ?_
      refine va_get (D := g.1) (ci := 4) (v := .ref (g.2.2 3)) (C := R_Rd) (T := F_Rd) (N := 6) hx hb hts hin_Rd hown hK hP 2 rfl rfl 0 (by decide) (hts _ k_C_127) (fun _ h9 => h9) rfl d_Rd_compile_23 ?_
      refine va_getN (D := g.1) (ci := 5) (v := .ref (g.2.2 13)) (C := R_Ma) (T := F_Ma) (N := 9) hx hb hts hin_Ma hown hK hP 3 rfl rfl 3 (by decide) (va_Nw.use rfl (hN.1 _ kn_C_21)) (fun _ h9 => h9) rfl d_Rd_compile_26 ?_
      refine lv_aload_n hx hb d_Rd_compile_29 rfl (lv_at hl 1 rfl) ?_
      refine va_get (D := g.1) (ci := 4) (v := .ref (g.2.2 17)) (C := R_Rd) (T := F_Rd) (N := 6) hx hb hts hin_Rd hown hK hP 2 rfl rfl 1 (by decide) (hts _ k_C_128) (fun _ h9 => h9) rfl d_Rd_compile_30 ?_
      refine cC_qV (As := []) (rest := [.ref (g.2.2 13)]) hx hb hml hown hts hK hC hN hP hD hS hA (Nat.zero_le _) (Nat.zero_le _) hl.1 (va_recv (q0 := 17) (ci := 10) (q := (R_Co, F_Co, 4)) hK hP rfl rfl) (qC_67 hts ⟨Nat.le_of_ble_eq_true rfl, Nat.le_of_ble_eq_true rfl⟩) (c_Co_end l g H.size _  _ hw) rfl rfl (Nat.le_of_ble_eq_true rfl) d_Rd_compile_33 (fun r9 S8 H locs hw hP hD hS => ?_)
      refine cC_vV (As := [va_rf (r9)]) (rest := []) hx hb hml hown hts hK hC hN hP hD hS hA (Nat.zero_le _) (Nat.zero_le _) hl.1 (va_recv (q0 := 13) (ci := 8) (q := (R_Di, F_Di, 2)) hK hP rfl rfl) (qC_74 hts ⟨Nat.le_of_ble_eq_true rfl, Nat.le_of_ble_eq_true rfl⟩) (c_Di_add l g H.size _ (r9) _ hw) rfl rfl (Nat.le_of_ble_eq_true rfl) d_Rd_compile_36 (fun S10 H locs hw hP hD hS => ?_)
      refine lv_iconst (v := 0) hx hb d_Rd_compile_39 (by decide) ?_
      exact kr (0) S10 _ _ _ _ hw hP hD hS d_Rd_compile_40
  · have hw := hw.2 hc
    refine lv_iload_n hx hb d_Rd_compile_13 rfl (lv_at hl 0 rfl) ?_
    exact kr (r2) S1 _ _ _ _ hw hP hD hS d_Rd_compile_14
theorem qC_75 {R : Room} {s : State} {args : Array Value} (hts : ∀ w ∈ w_C, w.before args s = true) (hR : (rmM 0 0).frames + 1 ≤ R.frames ∧ 8 + (3 + 11) + (rmM 0 0).locals ≤ R.locals) : CallW R s args "WordSmith$Reader" R_Di 173 y_Di_word b_Di_word 3 (some (.object "WordSmith$MadeWord")) (.code y_Di_word b_Di_word 3 (some (.object "WordSmith$MadeWord")) :: w_C) (rmM 0 0) 0 0 1 := ⟨callB_of 1 hts (good_C k_C_466) rfl rfl rfl (hts _ k_C_9) (hts _ k_C_463) ⟨by decide +kernel, by decide +kernel, by decide +kernel⟩ hR, hts _ k_C_464, hts _ k_C_465⟩
theorem d_Rd_makeImmediate_0 : decode b_Rd_makeImmediate 0 = .ok (.aload_n 0, 1) := by decide +kernel
theorem d_Rd_makeImmediate_1 : decode b_Rd_makeImmediate 1 = .ok (.getfield 12, 3) := by decide +kernel
theorem d_Rd_makeImmediate_4 : decode b_Rd_makeImmediate 4 = .ok (.getfield 94, 3) := by decide +kernel
theorem d_Rd_makeImmediate_7 : decode b_Rd_makeImmediate 7 = .ok (.aload_n 0, 1) := by decide +kernel
theorem d_Rd_makeImmediate_8 : decode b_Rd_makeImmediate 8 = .ok (.getfield 12, 3) := by decide +kernel
theorem d_Rd_makeImmediate_11 : decode b_Rd_makeImmediate 11 = .ok (.getfield 94, 3) := by decide +kernel
theorem d_Rd_makeImmediate_14 : decode b_Rd_makeImmediate 14 = .ok (.invokevirtual 151, 3) := by decide +kernel
theorem d_Rd_makeImmediate_17 : decode b_Rd_makeImmediate 17 = .ok (.iconst 1, 1) := by decide +kernel
theorem d_Rd_makeImmediate_18 : decode b_Rd_makeImmediate 18 = .ok (.isub, 1) := by decide +kernel
theorem d_Rd_makeImmediate_19 : decode b_Rd_makeImmediate 19 = .ok (.invokevirtual 173, 3) := by decide +kernel
theorem d_Rd_makeImmediate_22 : decode b_Rd_makeImmediate 22 = .ok (.astore_n 1, 1) := by decide +kernel
theorem d_Rd_makeImmediate_23 : decode b_Rd_makeImmediate 23 = .ok (.aload_n 1, 1) := by decide +kernel
theorem d_Rd_makeImmediate_24 : decode b_Rd_makeImmediate 24 = .ok (.ifnonnull 6, 3) := by decide +kernel
theorem d_Rd_makeImmediate_27 : decode b_Rd_makeImmediate 27 = .ok (.bipush 6, 2) := by decide +kernel
theorem d_Rd_makeImmediate_29 : decode b_Rd_makeImmediate 29 = .ok (.ireturn, 1) := by decide +kernel
theorem d_Rd_makeImmediate_30 : decode b_Rd_makeImmediate 30 = .ok (.aload_n 1, 1) := by decide +kernel
theorem d_Rd_makeImmediate_31 : decode b_Rd_makeImmediate 31 = .ok (.iconst 1, 1) := by decide +kernel
theorem d_Rd_makeImmediate_32 : decode b_Rd_makeImmediate 32 = .ok (.putfield 177, 3) := by decide +kernel
theorem d_Rd_makeImmediate_35 : decode b_Rd_makeImmediate 35 = .ok (.iconst 0, 1) := by decide +kernel
theorem d_Rd_makeImmediate_36 : decode b_Rd_makeImmediate 36 = .ok (.ireturn, 1) := by decide +kernel
def wp_Rd_makeImmediate (g : Gm) (post : Int32 → StC → Prop) (S : StC)  : Prop :=
  wp_Di_nextNumber g (fun (r2 : Int32) (S1 : StC) => (wp_Di_word g (fun (r4 : Option Nat) (S3 : StC) => (((r4) = none → post (6) S3) ∧ (∀ y5 : Nat, (r4) = some y5 → ∃ (vs7 : List Value), (y5 ∈ S3.2.2.2.2.2.1) ∧ (S3.2.2.2.2.2.2 y5 = .inr (11, vs7)) ∧ (4 < vs7.length) ∧ (post (0) (S3.1, S3.2.1, S3.2.2.1, S3.2.2.2.1, S3.2.2.2.2.1, S3.2.2.2.2.2.1, (va_up S3.2.2.2.2.2.2 y5 (.inr (11, vs7.set 4 (.int (1)))))))))) S1 ((r2 - 1)))) S 
set_option maxRecDepth 100000 in
set_option maxHeartbeats 4000000 in
theorem c_Rd_makeImmediate (l : Launch) (g : Gm) (sz : Nat) (S : StC)  (post : Int32 → StC → Prop) (hw : wp_Rd_makeImmediate g post S ) : Met l y_Rd_makeImmediate (.code y_Rd_makeImmediate b_Rd_makeImmediate 2 (some .int) :: w_C) (rmM 1 22) (va_Pc [.ref (g.2.2 2)] (PC g sz S)) (va_Qi post (BC g (AC g sz S)) (AC g sz S)) 0 0 (AC g sz S) := by
  refine ofC_i (by decide) (Nat.le_of_ble_eq_true rfl) (fun p e s m args below meth c Q A H locs ls hx hb hml hts hown hK hA hC hN kr hl hP hD hS => ?_)
  have hl : lv_has ls 2 [(0, .ref (g.2.2 2))] := hl
  unfold wp_Rd_makeImmediate at hw
  refine lv_aload_n hx hb d_Rd_makeImmediate_0 rfl (lv_at hl 0 rfl) ?_
  refine va_get (D := g.1) (ci := 4) (v := .ref (g.2.2 3)) (C := R_Rd) (T := F_Rd) (N := 6) hx hb hts hin_Rd hown hK hP 2 rfl rfl 0 (by decide) (hts _ k_C_127) (fun _ h9 => h9) rfl d_Rd_makeImmediate_1 ?_
  refine va_getN (D := g.1) (ci := 5) (v := .ref (g.2.2 13)) (C := R_Ma) (T := F_Ma) (N := 9) hx hb hts hin_Ma hown hK hP 3 rfl rfl 3 (by decide) (va_Nw.use rfl (hN.1 _ kn_C_21)) (fun _ h9 => h9) rfl d_Rd_makeImmediate_4 ?_
  refine lv_aload_n hx hb d_Rd_makeImmediate_7 rfl (lv_at hl 0 rfl) ?_
  refine va_get (D := g.1) (ci := 4) (v := .ref (g.2.2 3)) (C := R_Rd) (T := F_Rd) (N := 6) hx hb hts hin_Rd hown hK hP 2 rfl rfl 0 (by decide) (hts _ k_C_127) (fun _ h9 => h9) rfl d_Rd_makeImmediate_8 ?_
  refine va_getN (D := g.1) (ci := 5) (v := .ref (g.2.2 13)) (C := R_Ma) (T := F_Ma) (N := 9) hx hb hts hin_Ma hown hK hP 3 rfl rfl 3 (by decide) (va_Nw.use rfl (hN.1 _ kn_C_21)) (fun _ h9 => h9) rfl d_Rd_makeImmediate_11 ?_
  refine cC_iV (As := []) (rest := [.ref (g.2.2 13)]) hx hb hml hown hts hK hC hN hP hD hS hA (Nat.zero_le _) (Nat.zero_le _) hl.1 (va_recv (q0 := 13) (ci := 8) (q := (R_Di, F_Di, 2)) hK hP rfl rfl) (qC_73 hts ⟨Nat.le_of_ble_eq_true rfl, Nat.le_of_ble_eq_true rfl⟩) (c_Di_nextNumber l g H.size _  _ hw) rfl rfl (Nat.le_of_ble_eq_true rfl) d_Rd_makeImmediate_14 (fun r2 S1 H locs hw hP hD hS => ?_)
  refine lv_iconst (v := 1) hx hb d_Rd_makeImmediate_17 (by decide) ?_
  refine lv_isub hx hb d_Rd_makeImmediate_18 ?_
  refine cC_qV (As := [.int ((r2 - 1))]) (rest := []) hx hb hml hown hts hK hC hN hP hD hS hA (Nat.zero_le _) (Nat.zero_le _) hl.1 (va_recv (q0 := 13) (ci := 8) (q := (R_Di, F_Di, 2)) hK hP rfl rfl) (qC_75 hts ⟨Nat.le_of_ble_eq_true rfl, Nat.le_of_ble_eq_true rfl⟩) (c_Di_word l g H.size _ ((r2 - 1)) _ hw) rfl rfl (Nat.le_of_ble_eq_true rfl) d_Rd_makeImmediate_19 (fun r4 S3 H locs hw hP hD hS => ?_)
  refine lv_astore_nq (lv' := [(1, va_rf (r4)), (0, .ref (g.2.2 2))]) hx hb d_Rd_makeImmediate_22 rfl hl (by decide) rfl (fun ls hl => ?_)
  refine lv_aload_nq hx hb d_Rd_makeImmediate_23 rfl (lv_at hl 0 rfl) ?_
  refine lv_ifnonnullq hx hb d_Rd_makeImmediate_24 (tgt := 30) (by decide) (fun y5 hq6 => ?_) (fun hq6 => ?_)
  · have hw := hw.2 y5 hq6
    have hl : lv_has ls 2 [(1, .ref (y5)), (0, .ref (g.2.2 2))] := by rw [hq6] at hl; exact hl
    refine lv_aload_n hx hb d_Rd_makeImmediate_30 rfl (lv_at hl 0 rfl) ?_
    refine lv_iconst (v := 1) hx hb d_Rd_makeImmediate_31 (by decide) ?_
    obtain ⟨vs7, ha8, hf9, hk10, hw⟩ := hw
    refine ppN_C (S := S3) (vs := vs7) (v := .int (1)) (C := R_Mw) (F := F_Mw) (N := 5) hx hb hts hin_Mw t_Mw t_Mw_ok n_Mw hown hK hP hD hS ha8 hf9 rfl 4 (by decide) rfl rfl rfl hk10 (va_Nw.use rfl (hN.1 _ kn_C_36)) d_Rd_makeImmediate_32 (fun H locs hP hD hS => ?_)
    have hP : va_P g.1 classes (wC g (S3.1, S3.2.1, S3.2.2.1, S3.2.2.2.1, S3.2.2.2.2.1, S3.2.2.2.2.2.1, (va_up S3.2.2.2.2.2.2 y5 (.inr (11, vs7.set 4 (.int (1))))))) H := hP
    have hD : va_D A (wC g (S3.1, S3.2.1, S3.2.2.1, S3.2.2.2.1, S3.2.2.2.2.1, S3.2.2.2.2.2.1, (va_up S3.2.2.2.2.2.2 y5 (.inr (11, vs7.set 4 (.int (1))))))) := hD
    refine lv_iconst (v := 0) hx hb d_Rd_makeImmediate_35 (by decide) ?_
    exact kr (0) (S3.1, S3.2.1, S3.2.2.1, S3.2.2.2.1, S3.2.2.2.2.1, S3.2.2.2.2.2.1, (va_up S3.2.2.2.2.2.2 y5 (.inr (11, vs7.set 4 (.int (1)))))) _ _ _ _ hw hP hD hS d_Rd_makeImmediate_36
  · have hw := hw.1 hq6
    have hl : lv_has ls 2 [(1, .null), (0, .ref (g.2.2 2))] := by rw [hq6] at hl; exact hl
    refine lv_bipush (v := 6) hx hb d_Rd_makeImmediate_27 (by decide) ?_
    exact kr (6) S3 _ _ _ _ hw hP hD hS d_Rd_makeImmediate_29
theorem d_W_byteOf_0 : decode b_W_byteOf 0 = .ok (.iload_n 0, 1) := by decide +kernel
theorem d_W_byteOf_1 : decode b_W_byteOf 1 = .ok (.bipush 8, 2) := by decide +kernel
theorem d_W_byteOf_3 : decode b_W_byteOf 3 = .ok (.iload_n 1, 1) := by decide +kernel
theorem d_W_byteOf_4 : decode b_W_byteOf 4 = .ok (.imul, 1) := by decide +kernel
theorem d_W_byteOf_5 : decode b_W_byteOf 5 = .ok (.iushr, 1) := by decide +kernel
theorem d_W_byteOf_6 : decode b_W_byteOf 6 = .ok (.sipush 255, 3) := by decide +kernel
theorem d_W_byteOf_9 : decode b_W_byteOf 9 = .ok (.iand, 1) := by decide +kernel
theorem d_W_byteOf_10 : decode b_W_byteOf 10 = .ok (.ireturn, 1) := by decide +kernel
def wp_W_byteOf (g : Gm) (post : Int32 → StC → Prop) (S : StC) (a0 : Int32) (a1 : Int32) : Prop :=
  post (((((Int32.toUInt32 a0) >>> ((Int32.toUInt32 (8 * a1)) &&& Int32.toUInt32 31)).toInt32) &&& 255)) S
set_option maxRecDepth 100000 in
set_option maxHeartbeats 4000000 in
theorem c_W_byteOf (l : Launch) (g : Gm) (sz : Nat) (S : StC) (a0 : Int32) (a1 : Int32) (post : Int32 → StC → Prop) (hw : wp_W_byteOf g post S a0 a1) : Met l y_W_byteOf (.code y_W_byteOf b_W_byteOf 2 (some .int) :: w_C) (rmM 0 0) (va_Pc [.int (a0), .int (a1)] (PC g sz S)) (va_Qi post (BC g (AC g sz S)) (AC g sz S)) 0 0 (AC g sz S) := by
  refine ofC_i (by decide) (Nat.le_of_ble_eq_true rfl) (fun p e s m args below meth c Q A H locs ls hx hb hml hts hown hK hA hC hN kr hl hP hD hS => ?_)
  have hl : lv_has ls 2 [(0, .int (a0)), (1, .int (a1))] := hl
  unfold wp_W_byteOf at hw
  refine lv_iload_n hx hb d_W_byteOf_0 rfl (lv_at hl 0 rfl) ?_
  refine lv_bipush (v := 8) hx hb d_W_byteOf_1 (by decide) ?_
  refine lv_iload_n hx hb d_W_byteOf_3 rfl (lv_at hl 1 rfl) ?_
  refine lv_imul hx hb d_W_byteOf_4 ?_
  refine lv_iushr (v := ((Int32.toUInt32 a0) >>> ((Int32.toUInt32 (8 * a1)) &&& Int32.toUInt32 31)).toInt32) hx hb d_W_byteOf_5 rfl ?_
  refine lv_sipush (v := 255) hx hb d_W_byteOf_6 (by decide) ?_
  refine lv_iand hx hb d_W_byteOf_9 ?_
  exact kr (((((Int32.toUInt32 a0) >>> ((Int32.toUInt32 (8 * a1)) &&& Int32.toUInt32 31)).toInt32) &&& 255)) S _ _ _ _ hw hP hD hS d_W_byteOf_10
theorem qC_76 {R : Room} {s : State} {args : Array Value} (hts : ∀ w ∈ w_C, w.before args s = true) (hR : (rmM 0 0).frames + 1 ≤ R.frames ∧ 8 + (1 + 11) + (rmM 0 0).locals ≤ R.locals) : CallW R s args "WordSmith" R_Co 107 y_Co_isCompiling b_Co_isCompiling 1 (some .boolean) (.code y_Co_isCompiling b_Co_isCompiling 1 (some .boolean) :: w_C) (rmM 0 0) 0 0 0 := ⟨callB_of 0 hts (good_C k_C_398) rfl rfl rfl (hts _ k_C_11) (hts _ k_C_733) ⟨by decide +kernel, by decide +kernel, by decide +kernel⟩ hR, hts _ k_C_396, hts _ k_C_397⟩
theorem d_W_count_0 : decode b_W_count 0 = .ok (.aload_n 0, 1) := by decide +kernel
theorem d_W_count_1 : decode b_W_count 1 = .ok (.getfield 19, 3) := by decide +kernel
theorem d_W_count_4 : decode b_W_count 4 = .ok (.getfield 54, 3) := by decide +kernel
theorem d_W_count_7 : decode b_W_count 7 = .ok (.astore_n 2, 1) := by decide +kernel
theorem d_W_count_8 : decode b_W_count 8 = .ok (.iload_n 1, 1) := by decide +kernel
theorem d_W_count_9 : decode b_W_count 9 = .ok (.tableswitch 104 0 6 #[43, 51, 59, 64, 72, 80, 99], 43) := by decide +kernel
theorem d_W_count_52 : decode b_W_count 52 = .ok (.aload_n 2, 1) := by decide +kernel
theorem d_W_count_53 : decode b_W_count 53 = .ok (.getfield 70, 3) := by decide +kernel
theorem d_W_count_56 : decode b_W_count 56 = .ok (.getfield 74, 3) := by decide +kernel
theorem d_W_count_59 : decode b_W_count 59 = .ok (.ireturn, 1) := by decide +kernel
theorem d_W_count_60 : decode b_W_count 60 = .ok (.aload_n 2, 1) := by decide +kernel
theorem d_W_count_61 : decode b_W_count 61 = .ok (.getfield 79, 3) := by decide +kernel
theorem d_W_count_64 : decode b_W_count 64 = .ok (.getfield 74, 3) := by decide +kernel
theorem d_W_count_67 : decode b_W_count 67 = .ok (.ireturn, 1) := by decide +kernel
theorem d_W_count_68 : decode b_W_count 68 = .ok (.aload_n 2, 1) := by decide +kernel
theorem d_W_count_69 : decode b_W_count 69 = .ok (.getfield 82, 3) := by decide +kernel
theorem d_W_count_72 : decode b_W_count 72 = .ok (.ireturn, 1) := by decide +kernel
theorem d_W_count_73 : decode b_W_count 73 = .ok (.aload_n 2, 1) := by decide +kernel
theorem d_W_count_74 : decode b_W_count 74 = .ok (.getfield 85, 3) := by decide +kernel
theorem d_W_count_77 : decode b_W_count 77 = .ok (.getfield 89, 3) := by decide +kernel
theorem d_W_count_80 : decode b_W_count 80 = .ok (.ireturn, 1) := by decide +kernel
theorem d_W_count_81 : decode b_W_count 81 = .ok (.aload_n 2, 1) := by decide +kernel
theorem d_W_count_82 : decode b_W_count 82 = .ok (.getfield 94, 3) := by decide +kernel
theorem d_W_count_85 : decode b_W_count 85 = .ok (.getfield 98, 3) := by decide +kernel
theorem d_W_count_88 : decode b_W_count 88 = .ok (.ireturn, 1) := by decide +kernel
theorem d_W_count_89 : decode b_W_count 89 = .ok (.aload_n 0, 1) := by decide +kernel
theorem d_W_count_90 : decode b_W_count 90 = .ok (.getfield 19, 3) := by decide +kernel
theorem d_W_count_93 : decode b_W_count 93 = .ok (.getfield 103, 3) := by decide +kernel
theorem d_W_count_96 : decode b_W_count 96 = .ok (.invokevirtual 107, 3) := by decide +kernel
theorem d_W_count_99 : decode b_W_count 99 = .ok (.ifCond .eq 7, 3) := by decide +kernel
theorem d_W_count_102 : decode b_W_count 102 = .ok (.iconst 1, 1) := by decide +kernel
theorem d_W_count_103 : decode b_W_count 103 = .ok (.goto 4, 3) := by decide +kernel
theorem d_W_count_106 : decode b_W_count 106 = .ok (.iconst 0, 1) := by decide +kernel
theorem d_W_count_107 : decode b_W_count 107 = .ok (.ireturn, 1) := by decide +kernel
theorem d_W_count_108 : decode b_W_count 108 = .ok (.aload_n 2, 1) := by decide +kernel
theorem d_W_count_109 : decode b_W_count 109 = .ok (.getfield 112, 3) := by decide +kernel
theorem d_W_count_112 : decode b_W_count 112 = .ok (.ireturn, 1) := by decide +kernel
theorem d_W_count_113 : decode b_W_count 113 = .ok (.iconst (-1), 1) := by decide +kernel
theorem d_W_count_114 : decode b_W_count 114 = .ok (.ireturn, 1) := by decide +kernel
def wq_W_count_107 (g : Gm) (post : Int32 → StC → Prop)  (S : StC) (t0 : Int32) : Prop :=
  post (t0) S
def wp_W_count (g : Gm) (post : Int32 → StC → Prop) (S : StC) (a0 : Int32) : Prop :=
  ((a0 = 0) → post ((S.1 8)) S) ∧ (¬ (a0 = 0) → ((a0 = 1) → post ((S.1 9)) S) ∧ (¬ (a0 = 1) → ((a0 = 2) → post ((S.1 6)) S) ∧ (¬ (a0 = 2) → ((a0 = 3) → post ((S.1 12)) S) ∧ (¬ (a0 = 3) → ((a0 = 4) → post ((S.1 10)) S) ∧ (¬ (a0 = 4) → ((a0 = 5) → wp_Co_isCompiling g (fun (r8 : Int32) (S7 : StC) => (((r8 = 0) → wq_W_count_107 g post  S7 (0)) ∧ (¬ (r8 = 0) → wq_W_count_107 g post  S7 (1)))) S ) ∧ (¬ (a0 = 5) → ((a0 = 6) → post ((S.1 7)) S) ∧ (¬ (a0 = 6) → post ((-1)) S)))))))
set_option maxRecDepth 100000 in
set_option maxHeartbeats 4000000 in
theorem c_W_count (l : Launch) (g : Gm) (sz : Nat) (S : StC) (a0 : Int32) (post : Int32 → StC → Prop) (hw : wp_W_count g post S a0) : Met l y_W_count (.code y_W_count b_W_count 3 (some .int) :: w_C) (rmM 1 20) (va_Pc [.ref (g.2.2 0), .int (a0)] (PC g sz S)) (va_Qi post (BC g (AC g sz S)) (AC g sz S)) 0 0 (AC g sz S) := by
  refine ofC_i (by decide) (Nat.le_of_ble_eq_true rfl) (fun p e s m args below meth c Q A H locs ls hx hb hml hts hown hK hA hC hN kr hl hP hD hS => ?_)
  have hl : lv_has ls 3 [(0, .ref (g.2.2 0)), (1, .int (a0))] := hl
  unfold wp_W_count at hw
  have J107 : ∀ (S : StC) (t0 : Int32) (H : Heap) (locs : List Loc) (ls : Array Slot), wq_W_count_107 g post  S t0 → lv_has ls 3 [] → va_P g.1 classes (wC g S) H → va_D A (wC g S) → va_S A s.heap H locs → W p l e (rmM 1 20) s m args below meth c H locs 0 0 Q (F0 m 107 ls [.int (t0)]) := by
    intro S t0 H locs ls hw hl hP hD hS
    unfold wq_W_count_107 at hw
    exact kr (t0) S _ _ _ _ hw hP hD hS d_W_count_107
  refine lv_aload_n hx hb d_W_count_0 rfl (lv_at hl 0 rfl) ?_
  refine va_get (D := g.1) (ci := 1) (v := .ref (g.2.2 2)) (C := R_W) (T := F_W) (N := 2) hx hb hts hin_W hown hK hP 0 rfl rfl 1 (by decide) (hts _ k_C_135) (fun _ h9 => h9) rfl d_W_count_1 ?_
  refine va_getN (D := g.1) (ci := 4) (v := .ref (g.2.2 3)) (C := R_Rd) (T := F_Rd) (N := 6) hx hb hts hin_Rd hown hK hP 2 rfl rfl 0 (by decide) (va_Nw.use rfl (hN.1 _ kn_C_26)) (fun _ h9 => h9) rfl d_W_count_4 ?_
  refine lv_astore_n (lv' := [(2, .ref (g.2.2 3)), (0, .ref (g.2.2 0)), (1, .int (a0))]) hx hb d_W_count_7 rfl hl (by decide) rfl (fun ls hl => ?_)
  refine lv_iload_n hx hb d_W_count_8 rfl (lv_at hl 2 rfl) ?_
  by_cases hk1 : a0 = 0
  · have hw := hw.1 hk1
    refine sw_in hx hb d_W_count_9 hk1 (tgt := 52) (off := 43) (by decide) (by decide) rfl (by decide) ?_
    refine lv_aload_n hx hb d_W_count_52 rfl (lv_at hl 0 rfl) ?_
    refine va_getN (D := g.1) (ci := 5) (v := .ref (g.2.2 4)) (C := R_Ma) (T := F_Ma) (N := 9) hx hb hts hin_Ma hown hK hP 3 rfl rfl 0 (by decide) (va_Nw.use rfl (hN.1 _ kn_C_15)) (fun _ h9 => h9) rfl d_W_count_53 ?_
    refine va_getN (D := g.1) (ci := 6) (v := .int ((S.1 8))) (C := R_N) (T := F_N) (N := 2) hx hb hts hin_N hown hK hP 4 rfl rfl 1 (by decide) (va_Nw.use rfl (hN.1 _ kn_C_2)) (fun _ h9 => h9) rfl d_W_count_56 ?_
    exact kr ((S.1 8)) S _ _ _ _ hw hP hD hS d_W_count_59
  · have hw := hw.2 hk1
    by_cases hk2 : a0 = 1
    · have hw := hw.1 hk2
      refine sw_in hx hb d_W_count_9 hk2 (tgt := 60) (off := 51) (by decide) (by decide) rfl (by decide) ?_
      refine lv_aload_n hx hb d_W_count_60 rfl (lv_at hl 0 rfl) ?_
      refine va_getN (D := g.1) (ci := 5) (v := .ref (g.2.2 6)) (C := R_Ma) (T := F_Ma) (N := 9) hx hb hts hin_Ma hown hK hP 3 rfl rfl 1 (by decide) (va_Nw.use rfl (hN.1 _ kn_C_17)) (fun _ h9 => h9) rfl d_W_count_61 ?_
      refine va_getN (D := g.1) (ci := 6) (v := .int ((S.1 9))) (C := R_N) (T := F_N) (N := 2) hx hb hts hin_N hown hK hP 6 rfl rfl 1 (by decide) (va_Nw.use rfl (hN.1 _ kn_C_2)) (fun _ h9 => h9) rfl d_W_count_64 ?_
      exact kr ((S.1 9)) S _ _ _ _ hw hP hD hS d_W_count_67
    · have hw := hw.2 hk2
      by_cases hk3 : a0 = 2
      · have hw := hw.1 hk3
        refine sw_in hx hb d_W_count_9 hk3 (tgt := 68) (off := 59) (by decide) (by decide) rfl (by decide) ?_
        refine lv_aload_n hx hb d_W_count_68 rfl (lv_at hl 0 rfl) ?_
        refine va_getN (D := g.1) (ci := 5) (v := .int ((S.1 6))) (C := R_Ma) (T := F_Ma) (N := 9) hx hb hts hin_Ma hown hK hP 3 rfl rfl 7 (by decide) (va_Nw.use rfl (hN.1 _ kn_C_23)) (fun _ h9 => h9) rfl d_W_count_69 ?_
        exact kr ((S.1 6)) S _ _ _ _ hw hP hD hS d_W_count_72
      · have hw := hw.2 hk3
        by_cases hk4 : a0 = 3
        · have hw := hw.1 hk4
          refine sw_in hx hb d_W_count_9 hk4 (tgt := 73) (off := 64) (by decide) (by decide) rfl (by decide) ?_
          refine lv_aload_n hx hb d_W_count_73 rfl (lv_at hl 0 rfl) ?_
          refine va_getN (D := g.1) (ci := 5) (v := .ref (g.2.2 13)) (C := R_Ma) (T := F_Ma) (N := 9) hx hb hts hin_Ma hown hK hP 3 rfl rfl 3 (by decide) (va_Nw.use rfl (hN.1 _ kn_C_20)) (fun _ h9 => h9) rfl d_W_count_74 ?_
          refine va_getN (D := g.1) (ci := 8) (v := .int ((S.1 12))) (C := R_Di) (T := F_Di) (N := 2) hx hb hts hin_Di hown hK hP 13 rfl rfl 1 (by decide) (va_Nw.use rfl (hN.1 _ kn_C_10)) (fun _ h9 => h9) rfl d_W_count_77 ?_
          exact kr ((S.1 12)) S _ _ _ _ hw hP hD hS d_W_count_80
        · have hw := hw.2 hk4
          by_cases hk5 : a0 = 4
          · have hw := hw.1 hk5
            refine sw_in hx hb d_W_count_9 hk5 (tgt := 81) (off := 72) (by decide) (by decide) rfl (by decide) ?_
            refine lv_aload_n hx hb d_W_count_81 rfl (lv_at hl 0 rfl) ?_
            refine va_getN (D := g.1) (ci := 5) (v := .ref (g.2.2 8)) (C := R_Ma) (T := F_Ma) (N := 9) hx hb hts hin_Ma hown hK hP 3 rfl rfl 2 (by decide) (va_Nw.use rfl (hN.1 _ kn_C_18)) (fun _ h9 => h9) rfl d_W_count_82 ?_
            refine va_getN (D := g.1) (ci := 7) (v := .int ((S.1 10))) (C := R_Me) (T := F_Me) (N := 6) hx hb hts hin_Me hown hK hP 8 rfl rfl 1 (by decide) (va_Nw.use rfl (hN.1 _ kn_C_6)) (fun _ h9 => h9) rfl d_W_count_85 ?_
            exact kr ((S.1 10)) S _ _ _ _ hw hP hD hS d_W_count_88
          · have hw := hw.2 hk5
            by_cases hk6 : a0 = 5
            · have hw := hw.1 hk6
              refine sw_in hx hb d_W_count_9 hk6 (tgt := 89) (off := 80) (by decide) (by decide) rfl (by decide) ?_
              refine lv_aload_n hx hb d_W_count_89 rfl (lv_at hl 1 rfl) ?_
              refine va_get (D := g.1) (ci := 1) (v := .ref (g.2.2 2)) (C := R_W) (T := F_W) (N := 2) hx hb hts hin_W hown hK hP 0 rfl rfl 1 (by decide) (hts _ k_C_135) (fun _ h9 => h9) rfl d_W_count_90 ?_
              refine va_getN (D := g.1) (ci := 4) (v := .ref (g.2.2 17)) (C := R_Rd) (T := F_Rd) (N := 6) hx hb hts hin_Rd hown hK hP 2 rfl rfl 1 (by decide) (va_Nw.use rfl (hN.1 _ kn_C_27)) (fun _ h9 => h9) rfl d_W_count_93 ?_
              refine cC_iV (As := []) (rest := []) hx hb hml hown hts hK hC hN hP hD hS hA (Nat.zero_le _) (Nat.zero_le _) hl.1 (va_recv (q0 := 17) (ci := 10) (q := (R_Co, F_Co, 4)) hK hP rfl rfl) (qC_76 hts ⟨Nat.le_of_ble_eq_true rfl, Nat.le_of_ble_eq_true rfl⟩) (c_Co_isCompiling l g H.size _  _ hw) rfl rfl (Nat.le_of_ble_eq_true rfl) d_W_count_96 (fun r8 S7 H locs hw hP hD hS => ?_)
              refine lv_if_eq hx hb d_W_count_99 (tgt := 106) (by decide) (fun hc => ?_) (fun hc => ?_)
              · have hw := hw.1 hc
                refine lv_iconst (v := 0) hx hb d_W_count_106 (by decide) ?_
                exact J107 S7 (0) _ _ _ hw (lv_sub hl [] rfl) hP hD hS
              · have hw := hw.2 hc
                refine lv_iconst (v := 1) hx hb d_W_count_102 (by decide) ?_
                refine lv_goto hx hb d_W_count_103 (tgt := 107) (by decide) ?_
                exact J107 S7 (1) _ _ _ hw (lv_sub hl [] rfl) hP hD hS
            · have hw := hw.2 hk6
              by_cases hk9 : a0 = 6
              · have hw := hw.1 hk9
                refine sw_in hx hb d_W_count_9 hk9 (tgt := 108) (off := 99) (by decide) (by decide) rfl (by decide) ?_
                refine lv_aload_n hx hb d_W_count_108 rfl (lv_at hl 0 rfl) ?_
                refine va_getN (D := g.1) (ci := 5) (v := .int ((S.1 7))) (C := R_Ma) (T := F_Ma) (N := 9) hx hb hts hin_Ma hown hK hP 3 rfl rfl 8 (by decide) (va_Nw.use rfl (hN.1 _ kn_C_24)) (fun _ h9 => h9) rfl d_W_count_109 ?_
                exact kr ((S.1 7)) S _ _ _ _ hw hP hD hS d_W_count_112
              · have hw := hw.2 hk9
                have n0 := lv_neT hk1 (by decide : (0 : Int32).toInt = 0)
                have n1 := lv_neT hk2 (by decide : (1 : Int32).toInt = 1)
                have n2 := lv_neT hk3 (by decide : (2 : Int32).toInt = 2)
                have n3 := lv_neT hk4 (by decide : (3 : Int32).toInt = 3)
                have n4 := lv_neT hk5 (by decide : (4 : Int32).toInt = 4)
                have n5 := lv_neT hk6 (by decide : (5 : Int32).toInt = 5)
                have n6 := lv_neT hk9 (by decide : (6 : Int32).toInt = 6)
                refine lv_tableOut hx hb d_W_count_9 (tgt := 113) (by omega) (by decide) ?_
                refine lv_iconst (v := -1) hx hb d_W_count_113 (by decide) ?_
                exact kr ((-1)) S _ _ _ _ hw hP hD hS d_W_count_114
theorem qC_77 {R : Room} {s : State} {args : Array Value} (hts : ∀ w ∈ w_C, w.before args s = true) (hR : (rmM 0 0).frames + 1 ≤ R.frames ∧ 8 + (2 + 11) + (rmM 0 0).locals ≤ R.locals) : CallW R s args "WordSmith" R_N 115 y_N_fromTop b_N_fromTop 2 (some .int) (.code y_N_fromTop b_N_fromTop 2 (some .int) :: w_C) (rmM 0 0) 0 0 1 := ⟨callB_of 1 hts (good_C k_C_608) rfl rfl rfl (hts _ k_C_7) (hts _ k_C_737) ⟨by decide +kernel, by decide +kernel, by decide +kernel⟩ hR, hts _ k_C_606, hts _ k_C_607⟩
theorem d_W_stack_0 : decode b_W_stack 0 = .ok (.aload_n 0, 1) := by decide +kernel
theorem d_W_stack_1 : decode b_W_stack 1 = .ok (.getfield 19, 3) := by decide +kernel
theorem d_W_stack_4 : decode b_W_stack 4 = .ok (.getfield 54, 3) := by decide +kernel
theorem d_W_stack_7 : decode b_W_stack 7 = .ok (.getfield 70, 3) := by decide +kernel
theorem d_W_stack_10 : decode b_W_stack 10 = .ok (.iload_n 1, 1) := by decide +kernel
theorem d_W_stack_11 : decode b_W_stack 11 = .ok (.invokevirtual 115, 3) := by decide +kernel
theorem d_W_stack_14 : decode b_W_stack 14 = .ok (.ireturn, 1) := by decide +kernel
def wp_W_stack (g : Gm) (post : Int32 → StC → Prop) (S : StC) (a0 : Int32) : Prop :=
  wp_Nd_fromTop g (fun (r2 : Int32) (S1 : StC) => (post (r2) S1)) S (a0)
set_option maxRecDepth 100000 in
set_option maxHeartbeats 4000000 in
theorem c_W_stack (l : Launch) (g : Gm) (sz : Nat) (S : StC) (a0 : Int32) (post : Int32 → StC → Prop) (hw : wp_W_stack g post S a0) : Met l y_W_stack (.code y_W_stack b_W_stack 2 (some .int) :: w_C) (rmM 1 21) (va_Pc [.ref (g.2.2 0), .int (a0)] (PC g sz S)) (va_Qi post (BC g (AC g sz S)) (AC g sz S)) 0 0 (AC g sz S) := by
  refine ofC_i (by decide) (Nat.le_of_ble_eq_true rfl) (fun p e s m args below meth c Q A H locs ls hx hb hml hts hown hK hA hC hN kr hl hP hD hS => ?_)
  have hl : lv_has ls 2 [(0, .ref (g.2.2 0)), (1, .int (a0))] := hl
  unfold wp_W_stack at hw
  refine lv_aload_n hx hb d_W_stack_0 rfl (lv_at hl 0 rfl) ?_
  refine va_get (D := g.1) (ci := 1) (v := .ref (g.2.2 2)) (C := R_W) (T := F_W) (N := 2) hx hb hts hin_W hown hK hP 0 rfl rfl 1 (by decide) (hts _ k_C_135) (fun _ h9 => h9) rfl d_W_stack_1 ?_
  refine va_getN (D := g.1) (ci := 4) (v := .ref (g.2.2 3)) (C := R_Rd) (T := F_Rd) (N := 6) hx hb hts hin_Rd hown hK hP 2 rfl rfl 0 (by decide) (va_Nw.use rfl (hN.1 _ kn_C_26)) (fun _ h9 => h9) rfl d_W_stack_4 ?_
  refine va_getN (D := g.1) (ci := 5) (v := .ref (g.2.2 4)) (C := R_Ma) (T := F_Ma) (N := 9) hx hb hts hin_Ma hown hK hP 3 rfl rfl 0 (by decide) (va_Nw.use rfl (hN.1 _ kn_C_15)) (fun _ h9 => h9) rfl d_W_stack_7 ?_
  refine lv_iload_n hx hb d_W_stack_10 rfl (lv_at hl 1 rfl) ?_
  refine cC_iV (As := [.int (a0)]) (rest := []) hx hb hml hown hts hK hC hN hP hD hS hA (Nat.zero_le _) (Nat.zero_le _) hl.1 (va_recv (q0 := 4) (ci := 6) (q := (R_N, F_N, 2)) hK hP rfl rfl) (qC_77 hts ⟨Nat.le_of_ble_eq_true rfl, Nat.le_of_ble_eq_true rfl⟩) (c_Nd_fromTop l g H.size _ (a0) _ hw) rfl rfl (Nat.le_of_ble_eq_true rfl) d_W_stack_11 (fun r2 S1 H locs hw hP hD hS => ?_)
  exact kr (r2) S1 _ _ _ _ hw hP hD hS d_W_stack_14
theorem d_W_out_0 : decode b_W_out 0 = .ok (.aload_n 0, 1) := by decide +kernel
theorem d_W_out_1 : decode b_W_out 1 = .ok (.getfield 19, 3) := by decide +kernel
theorem d_W_out_4 : decode b_W_out 4 = .ok (.getfield 54, 3) := by decide +kernel
theorem d_W_out_7 : decode b_W_out 7 = .ok (.astore_n 2, 1) := by decide +kernel
theorem d_W_out_8 : decode b_W_out 8 = .ok (.iload_n 1, 1) := by decide +kernel
theorem d_W_out_9 : decode b_W_out 9 = .ok (.ifCond .lt 21, 3) := by decide +kernel
theorem d_W_out_12 : decode b_W_out 12 = .ok (.iload_n 1, 1) := by decide +kernel
theorem d_W_out_13 : decode b_W_out 13 = .ok (.bipush 40, 2) := by decide +kernel
theorem d_W_out_15 : decode b_W_out 15 = .ok (.if_icmp .ge 15, 3) := by decide +kernel
theorem d_W_out_18 : decode b_W_out 18 = .ok (.iload_n 1, 1) := by decide +kernel
theorem d_W_out_19 : decode b_W_out 19 = .ok (.aload_n 2, 1) := by decide +kernel
theorem d_W_out_20 : decode b_W_out 20 = .ok (.getfield 82, 3) := by decide +kernel
theorem d_W_out_23 : decode b_W_out 23 = .ok (.if_icmp .ge 7, 3) := by decide +kernel
theorem d_W_out_26 : decode b_W_out 26 = .ok (.iconst 1, 1) := by decide +kernel
theorem d_W_out_27 : decode b_W_out 27 = .ok (.goto 4, 3) := by decide +kernel
theorem d_W_out_30 : decode b_W_out 30 = .ok (.iconst 0, 1) := by decide +kernel
theorem d_W_out_31 : decode b_W_out 31 = .ok (.istore_n 3, 1) := by decide +kernel
theorem d_W_out_32 : decode b_W_out 32 = .ok (.iload_n 3, 1) := by decide +kernel
theorem d_W_out_33 : decode b_W_out 33 = .ok (.ifCond .eq 12, 3) := by decide +kernel
theorem d_W_out_36 : decode b_W_out 36 = .ok (.aload_n 2, 1) := by decide +kernel
theorem d_W_out_37 : decode b_W_out 37 = .ok (.getfield 119, 3) := by decide +kernel
theorem d_W_out_40 : decode b_W_out 40 = .ok (.iload_n 1, 1) := by decide +kernel
theorem d_W_out_41 : decode b_W_out 41 = .ok (.iaload, 1) := by decide +kernel
theorem d_W_out_42 : decode b_W_out 42 = .ok (.goto 4, 3) := by decide +kernel
theorem d_W_out_45 : decode b_W_out 45 = .ok (.iconst 0, 1) := by decide +kernel
theorem d_W_out_46 : decode b_W_out 46 = .ok (.ireturn, 1) := by decide +kernel
def wq_W_out_46 (g : Gm) (post : Int32 → StC → Prop)  (S : StC) (t0 : Int32) : Prop :=
  post (t0) S
def wq_W_out_31 (g : Gm) (post : Int32 → StC → Prop)  (S : StC) (x1 : Int32) (t0 : Int32) : Prop :=
  ((t0 = 0) → wq_W_out_46 g post  S (0)) ∧ (¬ (t0 = 0) → (vp_in x1 40) ∧ (wq_W_out_46 g post  S (((S.2.1 5) (Int32.toNatClampNeg (x1))))))
def wq_W_out_30 (g : Gm) (post : Int32 → StC → Prop)  (S : StC) (x1 : Int32) : Prop :=
  wq_W_out_31 g post  S (x1) (0)
def wp_W_out (g : Gm) (post : Int32 → StC → Prop) (S : StC) (a0 : Int32) : Prop :=
  ((a0 < 0) → wq_W_out_30 g post  S (a0)) ∧ (¬ (a0 < 0) → ((40 ≤ a0) → wq_W_out_30 g post  S (a0)) ∧ (¬ (40 ≤ a0) → (((S.1 6) ≤ a0) → wq_W_out_30 g post  S (a0)) ∧ (¬ ((S.1 6) ≤ a0) → wq_W_out_31 g post  S (a0) (1))))
set_option maxRecDepth 100000 in
set_option maxHeartbeats 4000000 in
theorem c_W_out (l : Launch) (g : Gm) (sz : Nat) (S : StC) (a0 : Int32) (post : Int32 → StC → Prop) (hw : wp_W_out g post S a0) : Met l y_W_out (.code y_W_out b_W_out 4 (some .int) :: w_C) (rmM 0 0) (va_Pc [.ref (g.2.2 0), .int (a0)] (PC g sz S)) (va_Qi post (BC g (AC g sz S)) (AC g sz S)) 0 0 (AC g sz S) := by
  refine ofC_i (by decide) (Nat.le_of_ble_eq_true rfl) (fun p e s m args below meth c Q A H locs ls hx hb hml hts hown hK hA hC hN kr hl hP hD hS => ?_)
  have hl : lv_has ls 4 [(0, .ref (g.2.2 0)), (1, .int (a0))] := hl
  unfold wp_W_out at hw
  have J46 : ∀ (S : StC) (t0 : Int32) (H : Heap) (locs : List Loc) (ls : Array Slot), wq_W_out_46 g post  S t0 → lv_has ls 4 [] → va_P g.1 classes (wC g S) H → va_D A (wC g S) → va_S A s.heap H locs → W p l e (rmM 0 0) s m args below meth c H locs 0 0 Q (F0 m 46 ls [.int (t0)]) := by
    intro S t0 H locs ls hw hl hP hD hS
    unfold wq_W_out_46 at hw
    exact kr (t0) S _ _ _ _ hw hP hD hS d_W_out_46
  have J31 : ∀ (S : StC) (x1 : Int32) (t0 : Int32) (H : Heap) (locs : List Loc) (ls : Array Slot), wq_W_out_31 g post  S x1 t0 → lv_has ls 4 [(1, .int (x1)), (2, .ref (g.2.2 3))] → va_P g.1 classes (wC g S) H → va_D A (wC g S) → va_S A s.heap H locs → W p l e (rmM 0 0) s m args below meth c H locs 0 0 Q (F0 m 31 ls [.int (t0)]) := by
    intro S x1 t0 H locs ls hw hl hP hD hS
    unfold wq_W_out_31 at hw
    refine lv_istore_n (lv' := [(3, .int (t0)), (1, .int (x1)), (2, .ref (g.2.2 3))]) hx hb d_W_out_31 rfl hl (by decide) rfl (fun ls hl => ?_)
    refine lv_iload_n hx hb d_W_out_32 rfl (lv_at hl 0 rfl) ?_
    refine lv_if_eq hx hb d_W_out_33 (tgt := 45) (by decide) (fun hc => ?_) (fun hc => ?_)
    · have hw := hw.1 hc
      refine lv_iconst (v := 0) hx hb d_W_out_45 (by decide) ?_
      exact J46 S (0) _ _ _ hw (lv_sub hl [] rfl) hP hD hS
    · have hw := hw.2 hc
      refine lv_aload_n hx hb d_W_out_36 rfl (lv_at hl 2 rfl) ?_
      refine va_getN (D := g.1) (ci := 5) (v := .ref (g.2.2 16)) (C := R_Ma) (T := F_Ma) (N := 9) hx hb hts hin_Ma hown hK hP 3 rfl rfl 6 (by decide) (va_Nw.use rfl (hN.1 _ kn_C_22)) (fun _ h9 => h9) rfl d_W_out_37 ?_
      refine lv_iload_n hx hb d_W_out_40 rfl (lv_at hl 1 rfl) ?_
      obtain ⟨hi, hw⟩ := hw
      refine va_iald (f := (S.2.1 5)) hx hb hK hP 16 0 rfl rfl hi d_W_out_41 ?_
      refine lv_goto hx hb d_W_out_42 (tgt := 46) (by decide) ?_
      exact J46 S (((S.2.1 5) (Int32.toNatClampNeg (x1)))) _ _ _ hw (lv_sub hl [] rfl) hP hD hS
  have J30 : ∀ (S : StC) (x1 : Int32) (H : Heap) (locs : List Loc) (ls : Array Slot), wq_W_out_30 g post  S x1 → lv_has ls 4 [(1, .int (x1)), (2, .ref (g.2.2 3))] → va_P g.1 classes (wC g S) H → va_D A (wC g S) → va_S A s.heap H locs → W p l e (rmM 0 0) s m args below meth c H locs 0 0 Q (F0 m 30 ls []) := by
    intro S x1 H locs ls hw hl hP hD hS
    unfold wq_W_out_30 at hw
    refine lv_iconst (v := 0) hx hb d_W_out_30 (by decide) ?_
    exact J31 S (x1) (0) _ _ _ hw (lv_sub hl [0, 1] rfl) hP hD hS
  refine lv_aload_n hx hb d_W_out_0 rfl (lv_at hl 0 rfl) ?_
  refine va_get (D := g.1) (ci := 1) (v := .ref (g.2.2 2)) (C := R_W) (T := F_W) (N := 2) hx hb hts hin_W hown hK hP 0 rfl rfl 1 (by decide) (hts _ k_C_135) (fun _ h9 => h9) rfl d_W_out_1 ?_
  refine va_getN (D := g.1) (ci := 4) (v := .ref (g.2.2 3)) (C := R_Rd) (T := F_Rd) (N := 6) hx hb hts hin_Rd hown hK hP 2 rfl rfl 0 (by decide) (va_Nw.use rfl (hN.1 _ kn_C_26)) (fun _ h9 => h9) rfl d_W_out_4 ?_
  refine lv_astore_n (lv' := [(2, .ref (g.2.2 3)), (0, .ref (g.2.2 0)), (1, .int (a0))]) hx hb d_W_out_7 rfl hl (by decide) rfl (fun ls hl => ?_)
  refine lv_iload_n hx hb d_W_out_8 rfl (lv_at hl 2 rfl) ?_
  refine lv_if_lt hx hb d_W_out_9 (tgt := 30) (by decide) (fun hc => ?_) (fun hc => ?_)
  · have hw := hw.1 hc
    exact J30 S (a0) _ _ _ hw (lv_sub hl [2, 0] rfl) hP hD hS
  · have hw := hw.2 hc
    refine lv_iload_n hx hb d_W_out_12 rfl (lv_at hl 2 rfl) ?_
    refine lv_bipush (v := 40) hx hb d_W_out_13 (by decide) ?_
    refine lv_icmp_ge hx hb d_W_out_15 (tgt := 30) (by decide) (fun hc => ?_) (fun hc => ?_)
    · have hw := hw.1 hc
      exact J30 S (a0) _ _ _ hw (lv_sub hl [2, 0] rfl) hP hD hS
    · have hw := hw.2 hc
      refine lv_iload_n hx hb d_W_out_18 rfl (lv_at hl 2 rfl) ?_
      refine lv_aload_n hx hb d_W_out_19 rfl (lv_at hl 0 rfl) ?_
      refine va_getN (D := g.1) (ci := 5) (v := .int ((S.1 6))) (C := R_Ma) (T := F_Ma) (N := 9) hx hb hts hin_Ma hown hK hP 3 rfl rfl 7 (by decide) (va_Nw.use rfl (hN.1 _ kn_C_23)) (fun _ h9 => h9) rfl d_W_out_20 ?_
      refine lv_icmp_ge hx hb d_W_out_23 (tgt := 30) (by decide) (fun hc => ?_) (fun hc => ?_)
      · have hw := hw.1 hc
        exact J30 S (a0) _ _ _ hw (lv_sub hl [2, 0] rfl) hP hD hS
      · have hw := hw.2 hc
        refine lv_iconst (v := 1) hx hb d_W_out_26 (by decide) ?_
        refine lv_goto hx hb d_W_out_27 (tgt := 31) (by decide) ?_
        exact J31 S (a0) (1) _ _ _ hw (lv_sub hl [2, 0] rfl) hP hD hS
theorem qC_78 {R : Room} {s : State} {args : Array Value} (hts : ∀ w ∈ w_C, w.before args s = true) (hR : (rmM 1 21).frames + 1 ≤ R.frames ∧ 8 + (2 + 11) + (rmM 1 21).locals ≤ R.locals) : CallW R s args "WordSmith" R_Me 123 y_Me_fetch b_Me_fetch 2 (some .int) (.code y_Me_fetch b_Me_fetch 2 (some .int) :: w_C) (rmM 1 21) 0 0 1 := ⟨callB_of 1 hts (good_C k_C_664) rfl rfl rfl (hts _ k_C_8) (hts _ k_C_744) ⟨by decide +kernel, by decide +kernel, by decide +kernel⟩ hR, hts _ k_C_662, hts _ k_C_663⟩
theorem d_W_cell_0 : decode b_W_cell 0 = .ok (.aload_n 0, 1) := by decide +kernel
theorem d_W_cell_1 : decode b_W_cell 1 = .ok (.getfield 19, 3) := by decide +kernel
theorem d_W_cell_4 : decode b_W_cell 4 = .ok (.getfield 54, 3) := by decide +kernel
theorem d_W_cell_7 : decode b_W_cell 7 = .ok (.getfield 94, 3) := by decide +kernel
theorem d_W_cell_10 : decode b_W_cell 10 = .ok (.iload_n 1, 1) := by decide +kernel
theorem d_W_cell_11 : decode b_W_cell 11 = .ok (.invokevirtual 123, 3) := by decide +kernel
theorem d_W_cell_14 : decode b_W_cell 14 = .ok (.ireturn, 1) := by decide +kernel
def wp_W_cell (g : Gm) (post : Int32 → StC → Prop) (S : StC) (a0 : Int32) : Prop :=
  wp_Me_fetch g (fun (r2 : Int32) (S1 : StC) => (post (r2) S1)) S (a0)
set_option maxRecDepth 100000 in
set_option maxHeartbeats 4000000 in
theorem c_W_cell (l : Launch) (g : Gm) (sz : Nat) (S : StC) (a0 : Int32) (post : Int32 → StC → Prop) (hw : wp_W_cell g post S a0) : Met l y_W_cell (.code y_W_cell b_W_cell 2 (some .int) :: w_C) (rmM 2 42) (va_Pc [.ref (g.2.2 0), .int (a0)] (PC g sz S)) (va_Qi post (BC g (AC g sz S)) (AC g sz S)) 0 0 (AC g sz S) := by
  refine ofC_i (by decide) (Nat.le_of_ble_eq_true rfl) (fun p e s m args below meth c Q A H locs ls hx hb hml hts hown hK hA hC hN kr hl hP hD hS => ?_)
  have hl : lv_has ls 2 [(0, .ref (g.2.2 0)), (1, .int (a0))] := hl
  unfold wp_W_cell at hw
  refine lv_aload_n hx hb d_W_cell_0 rfl (lv_at hl 0 rfl) ?_
  refine va_get (D := g.1) (ci := 1) (v := .ref (g.2.2 2)) (C := R_W) (T := F_W) (N := 2) hx hb hts hin_W hown hK hP 0 rfl rfl 1 (by decide) (hts _ k_C_135) (fun _ h9 => h9) rfl d_W_cell_1 ?_
  refine va_getN (D := g.1) (ci := 4) (v := .ref (g.2.2 3)) (C := R_Rd) (T := F_Rd) (N := 6) hx hb hts hin_Rd hown hK hP 2 rfl rfl 0 (by decide) (va_Nw.use rfl (hN.1 _ kn_C_26)) (fun _ h9 => h9) rfl d_W_cell_4 ?_
  refine va_getN (D := g.1) (ci := 5) (v := .ref (g.2.2 8)) (C := R_Ma) (T := F_Ma) (N := 9) hx hb hts hin_Ma hown hK hP 3 rfl rfl 2 (by decide) (va_Nw.use rfl (hN.1 _ kn_C_18)) (fun _ h9 => h9) rfl d_W_cell_7 ?_
  refine lv_iload_n hx hb d_W_cell_10 rfl (lv_at hl 1 rfl) ?_
  refine cC_iV (As := [.int (a0)]) (rest := []) hx hb hml hown hts hK hC hN hP hD hS hA (Nat.zero_le _) (Nat.zero_le _) hl.1 (va_recv (q0 := 8) (ci := 7) (q := (R_Me, F_Me, 6)) hK hP rfl rfl) (qC_78 hts ⟨Nat.le_of_ble_eq_true rfl, Nat.le_of_ble_eq_true rfl⟩) (c_Me_fetch l g H.size _ (a0) _ hw) rfl rfl (Nat.le_of_ble_eq_true rfl) d_W_cell_11 (fun r2 S1 H locs hw hP hD hS => ?_)
  exact kr (r2) S1 _ _ _ _ hw hP hD hS d_W_cell_14
theorem qC_79 {R : Room} {s : State} {args : Array Value} (hts : ∀ w ∈ w_C, w.before args s = true) (hR : (rmM 1 21).frames + 1 ≤ R.frames ∧ 8 + (3 + 11) + (rmM 1 21).locals ≤ R.locals) : CallW R s args "WordSmith" R_Me 126 y_Me_onDisk b_Me_onDisk 3 (some .int) (.code y_Me_onDisk b_Me_onDisk 3 (some .int) :: w_C) (rmM 1 21) 0 0 2 := ⟨callB_of 2 hts (good_C k_C_751) rfl rfl rfl (hts _ k_C_8) (hts _ k_C_748) ⟨by decide +kernel, by decide +kernel, by decide +kernel⟩ hR, hts _ k_C_749, hts _ k_C_750⟩
theorem d_W_disk_0 : decode b_W_disk 0 = .ok (.aload_n 0, 1) := by decide +kernel
theorem d_W_disk_1 : decode b_W_disk 1 = .ok (.getfield 19, 3) := by decide +kernel
theorem d_W_disk_4 : decode b_W_disk 4 = .ok (.getfield 54, 3) := by decide +kernel
theorem d_W_disk_7 : decode b_W_disk 7 = .ok (.getfield 94, 3) := by decide +kernel
theorem d_W_disk_10 : decode b_W_disk 10 = .ok (.iload_n 1, 1) := by decide +kernel
theorem d_W_disk_11 : decode b_W_disk 11 = .ok (.iload_n 2, 1) := by decide +kernel
theorem d_W_disk_12 : decode b_W_disk 12 = .ok (.invokevirtual 126, 3) := by decide +kernel
theorem d_W_disk_15 : decode b_W_disk 15 = .ok (.ireturn, 1) := by decide +kernel
def wp_W_disk (g : Gm) (post : Int32 → StC → Prop) (S : StC) (a0 : Int32) (a1 : Int32) : Prop :=
  wp_Me_onDisk g (fun (r2 : Int32) (S1 : StC) => (post (r2) S1)) S (a0) (a1)
set_option maxRecDepth 100000 in
set_option maxHeartbeats 4000000 in
theorem c_W_disk (l : Launch) (g : Gm) (sz : Nat) (S : StC) (a0 : Int32) (a1 : Int32) (post : Int32 → StC → Prop) (hw : wp_W_disk g post S a0 a1) : Met l y_W_disk (.code y_W_disk b_W_disk 3 (some .int) :: w_C) (rmM 2 43) (va_Pc [.ref (g.2.2 0), .int (a0), .int (a1)] (PC g sz S)) (va_Qi post (BC g (AC g sz S)) (AC g sz S)) 0 0 (AC g sz S) := by
  refine ofC_i (by decide) (Nat.le_of_ble_eq_true rfl) (fun p e s m args below meth c Q A H locs ls hx hb hml hts hown hK hA hC hN kr hl hP hD hS => ?_)
  have hl : lv_has ls 3 [(0, .ref (g.2.2 0)), (1, .int (a0)), (2, .int (a1))] := hl
  unfold wp_W_disk at hw
  refine lv_aload_n hx hb d_W_disk_0 rfl (lv_at hl 0 rfl) ?_
  refine va_get (D := g.1) (ci := 1) (v := .ref (g.2.2 2)) (C := R_W) (T := F_W) (N := 2) hx hb hts hin_W hown hK hP 0 rfl rfl 1 (by decide) (hts _ k_C_135) (fun _ h9 => h9) rfl d_W_disk_1 ?_
  refine va_getN (D := g.1) (ci := 4) (v := .ref (g.2.2 3)) (C := R_Rd) (T := F_Rd) (N := 6) hx hb hts hin_Rd hown hK hP 2 rfl rfl 0 (by decide) (va_Nw.use rfl (hN.1 _ kn_C_26)) (fun _ h9 => h9) rfl d_W_disk_4 ?_
  refine va_getN (D := g.1) (ci := 5) (v := .ref (g.2.2 8)) (C := R_Ma) (T := F_Ma) (N := 9) hx hb hts hin_Ma hown hK hP 3 rfl rfl 2 (by decide) (va_Nw.use rfl (hN.1 _ kn_C_18)) (fun _ h9 => h9) rfl d_W_disk_7 ?_
  refine lv_iload_n hx hb d_W_disk_10 rfl (lv_at hl 1 rfl) ?_
  refine lv_iload_n hx hb d_W_disk_11 rfl (lv_at hl 2 rfl) ?_
  refine cC_iV (As := [.int (a0), .int (a1)]) (rest := []) hx hb hml hown hts hK hC hN hP hD hS hA (Nat.zero_le _) (Nat.zero_le _) hl.1 (va_recv (q0 := 8) (ci := 7) (q := (R_Me, F_Me, 6)) hK hP rfl rfl) (qC_79 hts ⟨Nat.le_of_ble_eq_true rfl, Nat.le_of_ble_eq_true rfl⟩) (c_Me_onDisk l g H.size _ (a0) (a1) _ hw) rfl rfl (Nat.le_of_ble_eq_true rfl) d_W_disk_12 (fun r2 S1 H locs hw hP hD hS => ?_)
  exact kr (r2) S1 _ _ _ _ hw hP hD hS d_W_disk_15
theorem qC_80 {R : Room} {s : State} {args : Array Value} (hts : ∀ w ∈ w_C, w.before args s = true) (hR : (rmM 0 0).frames + 1 ≤ R.frames ∧ 8 + (3 + 11) + (rmM 0 0).locals ≤ R.locals) : CallW R s args "WordSmith" R_Di 129 y_Di_word b_Di_word 3 (some (.object "WordSmith$MadeWord")) (.code y_Di_word b_Di_word 3 (some (.object "WordSmith$MadeWord")) :: w_C) (rmM 0 0) 0 0 1 := ⟨callB_of 1 hts (good_C k_C_466) rfl rfl rfl (hts _ k_C_9) (hts _ k_C_756) ⟨by decide +kernel, by decide +kernel, by decide +kernel⟩ hR, hts _ k_C_464, hts _ k_C_465⟩
theorem d_W_items_0 : decode b_W_items 0 = .ok (.aload_n 0, 1) := by decide +kernel
theorem d_W_items_1 : decode b_W_items 1 = .ok (.getfield 19, 3) := by decide +kernel
theorem d_W_items_4 : decode b_W_items 4 = .ok (.getfield 54, 3) := by decide +kernel
theorem d_W_items_7 : decode b_W_items 7 = .ok (.getfield 85, 3) := by decide +kernel
theorem d_W_items_10 : decode b_W_items 10 = .ok (.iload_n 1, 1) := by decide +kernel
theorem d_W_items_11 : decode b_W_items 11 = .ok (.invokevirtual 129, 3) := by decide +kernel
theorem d_W_items_14 : decode b_W_items 14 = .ok (.astore_n 2, 1) := by decide +kernel
theorem d_W_items_15 : decode b_W_items 15 = .ok (.aload_n 2, 1) := by decide +kernel
theorem d_W_items_16 : decode b_W_items 16 = .ok (.ifnonnull 7, 3) := by decide +kernel
theorem d_W_items_19 : decode b_W_items 19 = .ok (.iconst (-1), 1) := by decide +kernel
theorem d_W_items_20 : decode b_W_items 20 = .ok (.goto 7, 3) := by decide +kernel
theorem d_W_items_23 : decode b_W_items 23 = .ok (.aload_n 2, 1) := by decide +kernel
theorem d_W_items_24 : decode b_W_items 24 = .ok (.getfield 133, 3) := by decide +kernel
theorem d_W_items_27 : decode b_W_items 27 = .ok (.ireturn, 1) := by decide +kernel
def wq_W_items_27 (g : Gm) (post : Int32 → StC → Prop)  (S : StC) (t0 : Int32) : Prop :=
  post (t0) S
def wp_W_items (g : Gm) (post : Int32 → StC → Prop) (S : StC) (a0 : Int32) : Prop :=
  wp_Di_word g (fun (r2 : Option Nat) (S1 : StC) => (((r2) = none → wq_W_items_27 g post  S1 ((-1))) ∧ (∀ y3 : Nat, (r2) = some y3 → ∃ (vs5 : List Value) (z9 : Int32), (y3 ∈ S1.2.2.2.2.2.1) ∧ (S1.2.2.2.2.2.2 y3 = .inr (11, vs5)) ∧ (vs5[3]? = some (.int (z9))) ∧ (wq_W_items_27 g post  S1 (z9))))) S (a0)
set_option maxRecDepth 100000 in
set_option maxHeartbeats 4000000 in
theorem c_W_items (l : Launch) (g : Gm) (sz : Nat) (S : StC) (a0 : Int32) (post : Int32 → StC → Prop) (hw : wp_W_items g post S a0) : Met l y_W_items (.code y_W_items b_W_items 3 (some .int) :: w_C) (rmM 1 22) (va_Pc [.ref (g.2.2 0), .int (a0)] (PC g sz S)) (va_Qi post (BC g (AC g sz S)) (AC g sz S)) 0 0 (AC g sz S) := by
  refine ofC_i (by decide) (Nat.le_of_ble_eq_true rfl) (fun p e s m args below meth c Q A H locs ls hx hb hml hts hown hK hA hC hN kr hl hP hD hS => ?_)
  have hl : lv_has ls 3 [(0, .ref (g.2.2 0)), (1, .int (a0))] := hl
  unfold wp_W_items at hw
  have J27 : ∀ (S : StC) (t0 : Int32) (H : Heap) (locs : List Loc) (ls : Array Slot), wq_W_items_27 g post  S t0 → lv_has ls 3 [] → va_P g.1 classes (wC g S) H → va_D A (wC g S) → va_S A s.heap H locs → W p l e (rmM 1 22) s m args below meth c H locs 0 0 Q (F0 m 27 ls [.int (t0)]) := by
    intro S t0 H locs ls hw hl hP hD hS
    unfold wq_W_items_27 at hw
    exact kr (t0) S _ _ _ _ hw hP hD hS d_W_items_27
  refine lv_aload_n hx hb d_W_items_0 rfl (lv_at hl 0 rfl) ?_
  refine va_get (D := g.1) (ci := 1) (v := .ref (g.2.2 2)) (C := R_W) (T := F_W) (N := 2) hx hb hts hin_W hown hK hP 0 rfl rfl 1 (by decide) (hts _ k_C_135) (fun _ h9 => h9) rfl d_W_items_1 ?_
  refine va_getN (D := g.1) (ci := 4) (v := .ref (g.2.2 3)) (C := R_Rd) (T := F_Rd) (N := 6) hx hb hts hin_Rd hown hK hP 2 rfl rfl 0 (by decide) (va_Nw.use rfl (hN.1 _ kn_C_26)) (fun _ h9 => h9) rfl d_W_items_4 ?_
  refine va_getN (D := g.1) (ci := 5) (v := .ref (g.2.2 13)) (C := R_Ma) (T := F_Ma) (N := 9) hx hb hts hin_Ma hown hK hP 3 rfl rfl 3 (by decide) (va_Nw.use rfl (hN.1 _ kn_C_20)) (fun _ h9 => h9) rfl d_W_items_7 ?_
  refine lv_iload_n hx hb d_W_items_10 rfl (lv_at hl 1 rfl) ?_
  refine cC_qV (As := [.int (a0)]) (rest := []) hx hb hml hown hts hK hC hN hP hD hS hA (Nat.zero_le _) (Nat.zero_le _) hl.1 (va_recv (q0 := 13) (ci := 8) (q := (R_Di, F_Di, 2)) hK hP rfl rfl) (qC_80 hts ⟨Nat.le_of_ble_eq_true rfl, Nat.le_of_ble_eq_true rfl⟩) (c_Di_word l g H.size _ (a0) _ hw) rfl rfl (Nat.le_of_ble_eq_true rfl) d_W_items_11 (fun r2 S1 H locs hw hP hD hS => ?_)
  refine lv_astore_nq (lv' := [(2, va_rf (r2)), (0, .ref (g.2.2 0)), (1, .int (a0))]) hx hb d_W_items_14 rfl hl (by decide) rfl (fun ls hl => ?_)
  refine lv_aload_nq hx hb d_W_items_15 rfl (lv_at hl 0 rfl) ?_
  refine lv_ifnonnullq hx hb d_W_items_16 (tgt := 23) (by decide) (fun y3 hq4 => ?_) (fun hq4 => ?_)
  · have hw := hw.2 y3 hq4
    have hl : lv_has ls 3 [(2, .ref (y3)), (0, .ref (g.2.2 0)), (1, .int (a0))] := by rw [hq4] at hl; exact hl
    refine lv_aload_n hx hb d_W_items_23 rfl (lv_at hl 0 rfl) ?_
    obtain ⟨vs5, z9, ha6, hf7, hv8, hw⟩ := hw
    refine pgN_C (S := S1) (vs := vs5) (v := .int (z9)) (C := R_Mw) (F := F_Mw) (N := 5) hx hb hts hin_Mw hown hK hP ha6 hf7 rfl 3 (by decide) hv8 (va_Nw.use rfl (hN.1 _ kn_C_34)) d_W_items_24 ?_
    exact J27 S1 (z9) _ _ _ hw (lv_sub hl [] rfl) hP hD hS
  · have hw := hw.1 hq4
    have hl : lv_has ls 3 [(2, .null), (0, .ref (g.2.2 0)), (1, .int (a0))] := by rw [hq4] at hl; exact hl
    refine lv_iconst (v := -1) hx hb d_W_items_19 (by decide) ?_
    refine lv_goto hx hb d_W_items_20 (tgt := 27) (by decide) ?_
    exact J27 S1 ((-1)) _ _ _ hw (lv_sub hl [] rfl) hP hD hS
theorem qC_81 {R : Room} {s : State} {args : Array Value} (hts : ∀ w ∈ w_C, w.before args s = true) (hR : (rmM 0 0).frames + 1 ≤ R.frames ∧ 8 + (2 + 11) + (rmM 0 0).locals ≤ R.locals) : CallW R s args "WordSmith" R_Me 136 y_Me_bufferState b_Me_bufferState 2 (some .int) (.code y_Me_bufferState b_Me_bufferState 2 (some .int) :: w_C) (rmM 0 0) 0 0 1 := ⟨callB_of 1 hts (good_C k_C_763) rfl rfl rfl (hts _ k_C_8) (hts _ k_C_760) ⟨by decide +kernel, by decide +kernel, by decide +kernel⟩ hR, hts _ k_C_761, hts _ k_C_762⟩
theorem d_W_buffer_0 : decode b_W_buffer 0 = .ok (.aload_n 0, 1) := by decide +kernel
theorem d_W_buffer_1 : decode b_W_buffer 1 = .ok (.getfield 19, 3) := by decide +kernel
theorem d_W_buffer_4 : decode b_W_buffer 4 = .ok (.getfield 54, 3) := by decide +kernel
theorem d_W_buffer_7 : decode b_W_buffer 7 = .ok (.getfield 94, 3) := by decide +kernel
theorem d_W_buffer_10 : decode b_W_buffer 10 = .ok (.iload_n 1, 1) := by decide +kernel
theorem d_W_buffer_11 : decode b_W_buffer 11 = .ok (.invokevirtual 136, 3) := by decide +kernel
theorem d_W_buffer_14 : decode b_W_buffer 14 = .ok (.ireturn, 1) := by decide +kernel
def wp_W_buffer (g : Gm) (post : Int32 → StC → Prop) (S : StC) (a0 : Int32) : Prop :=
  wp_Me_bufferState g (fun (r2 : Int32) (S1 : StC) => (post (r2) S1)) S (a0)
set_option maxRecDepth 100000 in
set_option maxHeartbeats 4000000 in
theorem c_W_buffer (l : Launch) (g : Gm) (sz : Nat) (S : StC) (a0 : Int32) (post : Int32 → StC → Prop) (hw : wp_W_buffer g post S a0) : Met l y_W_buffer (.code y_W_buffer b_W_buffer 2 (some .int) :: w_C) (rmM 1 21) (va_Pc [.ref (g.2.2 0), .int (a0)] (PC g sz S)) (va_Qi post (BC g (AC g sz S)) (AC g sz S)) 0 0 (AC g sz S) := by
  refine ofC_i (by decide) (Nat.le_of_ble_eq_true rfl) (fun p e s m args below meth c Q A H locs ls hx hb hml hts hown hK hA hC hN kr hl hP hD hS => ?_)
  have hl : lv_has ls 2 [(0, .ref (g.2.2 0)), (1, .int (a0))] := hl
  unfold wp_W_buffer at hw
  refine lv_aload_n hx hb d_W_buffer_0 rfl (lv_at hl 0 rfl) ?_
  refine va_get (D := g.1) (ci := 1) (v := .ref (g.2.2 2)) (C := R_W) (T := F_W) (N := 2) hx hb hts hin_W hown hK hP 0 rfl rfl 1 (by decide) (hts _ k_C_135) (fun _ h9 => h9) rfl d_W_buffer_1 ?_
  refine va_getN (D := g.1) (ci := 4) (v := .ref (g.2.2 3)) (C := R_Rd) (T := F_Rd) (N := 6) hx hb hts hin_Rd hown hK hP 2 rfl rfl 0 (by decide) (va_Nw.use rfl (hN.1 _ kn_C_26)) (fun _ h9 => h9) rfl d_W_buffer_4 ?_
  refine va_getN (D := g.1) (ci := 5) (v := .ref (g.2.2 8)) (C := R_Ma) (T := F_Ma) (N := 9) hx hb hts hin_Ma hown hK hP 3 rfl rfl 2 (by decide) (va_Nw.use rfl (hN.1 _ kn_C_18)) (fun _ h9 => h9) rfl d_W_buffer_7 ?_
  refine lv_iload_n hx hb d_W_buffer_10 rfl (lv_at hl 1 rfl) ?_
  refine cC_iV (As := [.int (a0)]) (rest := []) hx hb hml hown hts hK hC hN hP hD hS hA (Nat.zero_le _) (Nat.zero_le _) hl.1 (va_recv (q0 := 8) (ci := 7) (q := (R_Me, F_Me, 6)) hK hP rfl rfl) (qC_81 hts ⟨Nat.le_of_ble_eq_true rfl, Nat.le_of_ble_eq_true rfl⟩) (c_Me_bufferState l g H.size _ (a0) _ hw) rfl rfl (Nat.le_of_ble_eq_true rfl) d_W_buffer_11 (fun r2 S1 H locs hw hP hD hS => ?_)
  exact kr (r2) S1 _ _ _ _ hw hP hD hS d_W_buffer_14
