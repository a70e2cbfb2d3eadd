theorem d_Co_push_0 : decode b_Co_push 0 = .ok (.aload_n 0, 1) := by decide +kernel
theorem d_Co_push_1 : decode b_Co_push 1 = .ok (.getfield 30, 3) := by decide +kernel
theorem d_Co_push_4 : decode b_Co_push 4 = .ok (.bipush 8, 2) := by decide +kernel
theorem d_Co_push_6 : decode b_Co_push 6 = .ok (.if_icmp .ge 33, 3) := by decide +kernel
theorem d_Co_push_9 : decode b_Co_push 9 = .ok (.aload_n 0, 1) := by decide +kernel
theorem d_Co_push_10 : decode b_Co_push 10 = .ok (.getfield 11, 3) := by decide +kernel
theorem d_Co_push_13 : decode b_Co_push 13 = .ok (.aload_n 0, 1) := by decide +kernel
theorem d_Co_push_14 : decode b_Co_push 14 = .ok (.getfield 30, 3) := by decide +kernel
theorem d_Co_push_17 : decode b_Co_push 17 = .ok (.aload_n 1, 1) := by decide +kernel
theorem d_Co_push_18 : decode b_Co_push 18 = .ok (.aastore, 1) := by decide +kernel
theorem d_Co_push_19 : decode b_Co_push 19 = .ok (.aload_n 0, 1) := by decide +kernel
theorem d_Co_push_20 : decode b_Co_push 20 = .ok (.getfield 17, 3) := by decide +kernel
theorem d_Co_push_23 : decode b_Co_push 23 = .ok (.aload_n 0, 1) := by decide +kernel
theorem d_Co_push_24 : decode b_Co_push 24 = .ok (.getfield 30, 3) := by decide +kernel
theorem d_Co_push_27 : decode b_Co_push 27 = .ok (.iload_n 2, 1) := by decide +kernel
theorem d_Co_push_28 : decode b_Co_push 28 = .ok (.iastore, 1) := by decide +kernel
theorem d_Co_push_29 : decode b_Co_push 29 = .ok (.aload_n 0, 1) := by decide +kernel
theorem d_Co_push_30 : decode b_Co_push 30 = .ok (.dup, 1) := by decide +kernel
theorem d_Co_push_31 : decode b_Co_push 31 = .ok (.getfield 30, 3) := by decide +kernel
theorem d_Co_push_34 : decode b_Co_push 34 = .ok (.iconst 1, 1) := by decide +kernel
theorem d_Co_push_35 : decode b_Co_push 35 = .ok (.iadd, 1) := by decide +kernel
theorem d_Co_push_36 : decode b_Co_push 36 = .ok (.putfield 30, 3) := by decide +kernel
theorem d_Co_push_39 : decode b_Co_push 39 = .ok (.return_, 1) := by decide +kernel
def wq_Co_push_39 (g : Gm) (post : StC → Prop)  (S : StC)  : Prop :=
  post S
def wp_Co_push (g : Gm) (post : StC → Prop) (S : StC) (a0 : Nat) (a1 : Int32) : Prop :=
  ((8 ≤ (S.1 13)) → wq_Co_push_39 g post  S ) ∧ (¬ (8 ≤ (S.1 13)) → ∃ (i1 : Nat), (i1 < 52) ∧ (a0 = g.2.2 (100 + i1)) ∧ ((vp_in (S.1 13) 8) ∧ ((vp_in (S.1 13) 8) ∧ (wq_Co_push_39 g post  ((upd S.1 13 (((S.1 13) + 1))), (va_up S.2.1 6 (upd (S.2.1 6) (Int32.toNatClampNeg ((S.1 13))) (a1))), S.2.2.1, S.2.2.2.1, (va_up S.2.2.2.2.1 2 (va_up (S.2.2.2.2.1 2) (Int32.toNatClampNeg ((S.1 13))) (some (a0)))), S.2.2.2.2.2) ))))
set_option maxRecDepth 100000 in
set_option maxHeartbeats 4000000 in
theorem c_Co_push (l : Launch) (g : Gm) (sz : Nat) (S : StC) (a0 : Nat) (a1 : Int32) (post : StC → Prop) (hw : wp_Co_push g post S a0 a1) : Met l y_Co_push (.code y_Co_push b_Co_push 3 none :: w_C) (rmM 0 0) (va_Pc [.ref (g.2.2 17), .ref (a0), .int (a1)] (PC g sz S)) (va_Qv post (BC g (AC g sz S)) (AC g sz S)) 0 0 (AC g sz S) := by
  refine ofC_v (by decide) (Nat.le_of_ble_eq_true rfl) (fun p e s m args below meth c Q A H locs ls hx hb hml hts hown hK hA hC hN kr hl hP hD hS => ?_)
  have hl : lv_has ls 3 [(0, .ref (g.2.2 17)), (1, .ref (a0)), (2, .int (a1))] := hl
  unfold wp_Co_push at hw
  have J39 : ∀ (S : StC)  (H : Heap) (locs : List Loc) (ls : Array Slot), wq_Co_push_39 g post  S  → lv_has ls 3 [] → va_P g.1 classes (wC g S) H → va_D A (wC g S) → va_S A s.heap H locs → W p l e (rmM 0 0) s m args below meth c H locs 0 0 Q (F0 m 39 ls []) := by
    intro S  H locs ls hw hl hP hD hS
    unfold wq_Co_push_39 at hw
    exact kr S _ _ _ _ hw hP hD hS d_Co_push_39
  refine lv_aload_n hx hb d_Co_push_0 rfl (lv_at hl 0 rfl) ?_
  refine va_get (D := g.1) (ci := 10) (v := .int ((S.1 13))) (C := R_Co) (T := F_Co) (N := 4) hx hb hts hin_Co hown hK hP 17 rfl rfl 3 (by decide) (hts _ k_C_125) (fun _ h9 => h9) rfl d_Co_push_1 ?_
  refine lv_bipush (v := 8) hx hb d_Co_push_4 (by decide) ?_
  refine lv_icmp_ge hx hb d_Co_push_6 (tgt := 39) (by decide) (fun hc => ?_) (fun hc => ?_)
  · have hw := hw.1 hc
    exact J39 S  _ _ _ hw (lv_sub hl [] rfl) hP hD hS
  · have hw := hw.2 hc
    refine lv_aload_n hx hb d_Co_push_9 rfl (lv_at hl 0 rfl) ?_
    refine va_get (D := g.1) (ci := 10) (v := .ref (g.2.2 18)) (C := R_Co) (T := F_Co) (N := 4) hx hb hts hin_Co hown hK hP 17 rfl rfl 1 (by decide) (hts _ k_C_123) (fun _ h9 => h9) rfl d_Co_push_10 ?_
    refine lv_aload_n hx hb d_Co_push_13 rfl (lv_at hl 0 rfl) ?_
    refine va_get (D := g.1) (ci := 10) (v := .int ((S.1 13))) (C := R_Co) (T := F_Co) (N := 4) hx hb hts hin_Co hown hK hP 17 rfl rfl 3 (by decide) (hts _ k_C_125) (fun _ h9 => h9) rfl d_Co_push_14 ?_
    refine lv_aload_n hx hb d_Co_push_17 rfl (lv_at hl 1 rfl) ?_
    obtain ⟨i1, hi2, he3, hw⟩ := hw
    obtain ⟨hi, hw⟩ := hw
    refine vb_astq (C := "WordSmith$BuiltIn") (f := (S.2.2.2.2.1 2)) hx hb hK hP hD hS 18 5 rfl rfl (erecv_C hC hS he3 hi2) (fun comp c0 h8 h9 => vb_asgS comp c0 h8 h9) hi d_Co_push_18 (fun H locs hP hD hS => ?_)
    have hP : va_P g.1 classes (wC g (S.1, S.2.1, S.2.2.1, S.2.2.2.1, (va_up S.2.2.2.2.1 2 (va_up (S.2.2.2.2.1 2) (Int32.toNatClampNeg ((S.1 13))) (some (a0)))), S.2.2.2.2.2)) H := by rw [sQ_C_2] at hP; exact hP
    have hD : va_D A (wC g (S.1, S.2.1, S.2.2.1, S.2.2.2.1, (va_up S.2.2.2.2.1 2 (va_up (S.2.2.2.2.1 2) (Int32.toNatClampNeg ((S.1 13))) (some (a0)))), S.2.2.2.2.2)) := by rw [sQ_C_2] at hD; exact hD
    refine lv_aload_n hx hb d_Co_push_19 rfl (lv_at hl 0 rfl) ?_
    refine va_get (D := g.1) (ci := 10) (v := .ref (g.2.2 19)) (C := R_Co) (T := F_Co) (N := 4) hx hb hts hin_Co hown hK hP 17 rfl rfl 2 (by decide) (hts _ k_C_124) (fun _ h9 => h9) rfl d_Co_push_20 ?_
    refine lv_aload_n hx hb d_Co_push_23 rfl (lv_at hl 0 rfl) ?_
    refine va_get (D := g.1) (ci := 10) (v := .int ((S.1 13))) (C := R_Co) (T := F_Co) (N := 4) hx hb hts hin_Co hown hK hP 17 rfl rfl 3 (by decide) (hts _ k_C_125) (fun _ h9 => h9) rfl d_Co_push_24 ?_
    refine lv_iload_n hx hb d_Co_push_27 rfl (lv_at hl 2 rfl) ?_
    obtain ⟨hi, hw⟩ := hw
    refine ia_C (S2 := (S.1, (va_up S.2.1 6 (upd (S.2.1 6) (Int32.toNatClampNeg ((S.1 13))) (a1))), S.2.2.1, S.2.2.2.1, (va_up S.2.2.2.2.1 2 (va_up (S.2.2.2.2.1 2) (Int32.toNatClampNeg ((S.1 13))) (some (a0)))), S.2.2.2.2.2)) (f := (S.2.1 6)) hx hb hK hP hD hS 19 rfl hi d_Co_push_28 (sA_C_6 g _ _) (fun H locs hP hD hS => ?_)
    refine lv_aload_n hx hb d_Co_push_29 rfl (lv_at hl 0 rfl) ?_
    refine lv_dup hx hb d_Co_push_30 rfl ?_
    refine va_get (D := g.1) (ci := 10) (v := .int ((S.1 13))) (C := R_Co) (T := F_Co) (N := 4) hx hb hts hin_Co hown hK hP 17 rfl rfl 3 (by decide) (hts _ k_C_125) (fun _ h9 => h9) rfl d_Co_push_31 ?_
    refine lv_iconst (v := 1) hx hb d_Co_push_34 (by decide) ?_
    refine lv_iadd hx hb d_Co_push_35 ?_
    refine pt_C (S2 := ((upd S.1 13 (((S.1 13) + 1))), (va_up S.2.1 6 (upd (S.2.1 6) (Int32.toNatClampNeg ((S.1 13))) (a1))), S.2.2.1, S.2.2.2.1, (va_up S.2.2.2.2.1 2 (va_up (S.2.2.2.2.1 2) (Int32.toNatClampNeg ((S.1 13))) (some (a0)))), S.2.2.2.2.2)) (v := .int (((S.1 13) + 1))) (C := R_Co) (F := F_Co) (N := 4) (ci := 10) hx hb hts hin_Co t_Co t_Co_ok n_Co hown hK hP hD hS 17 rfl rfl 3 (by decide) rfl rfl rfl (Nat.le_of_ble_eq_true rfl) (sI_C_13 g _ _) k_C_125 d_Co_push_36 (fun H locs hP hD hS => ?_)
    exact J39 ((upd S.1 13 (((S.1 13) + 1))), (va_up S.2.1 6 (upd (S.2.1 6) (Int32.toNatClampNeg ((S.1 13))) (a1))), S.2.2.1, S.2.2.2.1, (va_up S.2.2.2.2.1 2 (va_up (S.2.2.2.2.1 2) (Int32.toNatClampNeg ((S.1 13))) (some (a0)))), S.2.2.2.2.2)  _ _ _ hw (lv_sub hl [] rfl) hP hD hS
theorem d_Co_pop_0 : decode b_Co_pop 0 = .ok (.aload_n 0, 1) := by decide +kernel
theorem d_Co_pop_1 : decode b_Co_pop 1 = .ok (.getfield 30, 3) := by decide +kernel
theorem d_Co_pop_4 : decode b_Co_pop 4 = .ok (.ifCond .ne 5, 3) := by decide +kernel
theorem d_Co_pop_7 : decode b_Co_pop 7 = .ok (.iconst 0, 1) := by decide +kernel
theorem d_Co_pop_8 : decode b_Co_pop 8 = .ok (.ireturn, 1) := by decide +kernel
theorem d_Co_pop_9 : decode b_Co_pop 9 = .ok (.aload_n 0, 1) := by decide +kernel
theorem d_Co_pop_10 : decode b_Co_pop 10 = .ok (.dup, 1) := by decide +kernel
theorem d_Co_pop_11 : decode b_Co_pop 11 = .ok (.getfield 30, 3) := by decide +kernel
theorem d_Co_pop_14 : decode b_Co_pop 14 = .ok (.iconst 1, 1) := by decide +kernel
theorem d_Co_pop_15 : decode b_Co_pop 15 = .ok (.isub, 1) := by decide +kernel
theorem d_Co_pop_16 : decode b_Co_pop 16 = .ok (.putfield 30, 3) := by decide +kernel
theorem d_Co_pop_19 : decode b_Co_pop 19 = .ok (.aload_n 0, 1) := by decide +kernel
theorem d_Co_pop_20 : decode b_Co_pop 20 = .ok (.getfield 17, 3) := by decide +kernel
theorem d_Co_pop_23 : decode b_Co_pop 23 = .ok (.aload_n 0, 1) := by decide +kernel
theorem d_Co_pop_24 : decode b_Co_pop 24 = .ok (.getfield 30, 3) := by decide +kernel
theorem d_Co_pop_27 : decode b_Co_pop 27 = .ok (.iaload, 1) := by decide +kernel
theorem d_Co_pop_28 : decode b_Co_pop 28 = .ok (.ireturn, 1) := by decide +kernel
def wp_Co_pop (g : Gm) (post : Int32 → StC → Prop) (S : StC)  : Prop :=
  (((S.1 13) = 0) → post (0) S) ∧ (¬ ((S.1 13) = 0) → (vp_in ((S.1 13) - 1) 8) ∧ (post (((S.2.1 6) (Int32.toNatClampNeg (((S.1 13) - 1))))) ((upd S.1 13 (((S.1 13) - 1))), S.2)))
set_option maxRecDepth 100000 in
set_option maxHeartbeats 4000000 in
theorem c_Co_pop (l : Launch) (g : Gm) (sz : Nat) (S : StC)  (post : Int32 → StC → Prop) (hw : wp_Co_pop g post S ) : Met l y_Co_pop (.code y_Co_pop b_Co_pop 1 (some .int) :: w_C) (rmM 0 0) (va_Pc [.ref (g.2.2 17)] (PC g sz S)) (va_Qi post (BC g (AC g sz S)) (AC g sz S)) 0 0 (AC g sz S) := by
  refine ofC_i (by decide) (Nat.le_of_ble_eq_true rfl) (fun p e s m args below meth c Q A H locs ls hx hb hml hts hown hK hA hC hN kr hl hP hD hS => ?_)
  have hl : lv_has ls 1 [(0, .ref (g.2.2 17))] := hl
  unfold wp_Co_pop at hw
  refine lv_aload_n hx hb d_Co_pop_0 rfl (lv_at hl 0 rfl) ?_
  refine va_get (D := g.1) (ci := 10) (v := .int ((S.1 13))) (C := R_Co) (T := F_Co) (N := 4) hx hb hts hin_Co hown hK hP 17 rfl rfl 3 (by decide) (hts _ k_C_125) (fun _ h9 => h9) rfl d_Co_pop_1 ?_
  refine lv_if_ne hx hb d_Co_pop_4 (tgt := 9) (by decide) (fun hc => ?_) (fun hc => ?_)
  · have hw := hw.2 hc
    refine lv_aload_n hx hb d_Co_pop_9 rfl (lv_at hl 0 rfl) ?_
    refine lv_dup hx hb d_Co_pop_10 rfl ?_
    refine va_get (D := g.1) (ci := 10) (v := .int ((S.1 13))) (C := R_Co) (T := F_Co) (N := 4) hx hb hts hin_Co hown hK hP 17 rfl rfl 3 (by decide) (hts _ k_C_125) (fun _ h9 => h9) rfl d_Co_pop_11 ?_
    refine lv_iconst (v := 1) hx hb d_Co_pop_14 (by decide) ?_
    refine lv_isub hx hb d_Co_pop_15 ?_
    refine pt_C (S2 := ((upd S.1 13 (((S.1 13) - 1))), S.2)) (v := .int (((S.1 13) - 1))) (C := R_Co) (F := F_Co) (N := 4) (ci := 10) hx hb hts hin_Co t_Co t_Co_ok n_Co hown hK hP hD hS 17 rfl rfl 3 (by decide) rfl rfl rfl (Nat.le_of_ble_eq_true rfl) (sI_C_13 g _ _) k_C_125 d_Co_pop_16 (fun H locs hP hD hS => ?_)
    refine lv_aload_n hx hb d_Co_pop_19 rfl (lv_at hl 0 rfl) ?_
    refine va_get (D := g.1) (ci := 10) (v := .ref (g.2.2 19)) (C := R_Co) (T := F_Co) (N := 4) hx hb hts hin_Co hown hK hP 17 rfl rfl 2 (by decide) (hts _ k_C_124) (fun _ h9 => h9) rfl d_Co_pop_20 ?_
    refine lv_aload_n hx hb d_Co_pop_23 rfl (lv_at hl 0 rfl) ?_
    refine va_get (D := g.1) (ci := 10) (v := .int (((S.1 13) - 1))) (C := R_Co) (T := F_Co) (N := 4) hx hb hts hin_Co hown hK hP 17 rfl rfl 3 (by decide) (hts _ k_C_125) (fun _ h9 => h9) rfl d_Co_pop_24 ?_
    obtain ⟨hi, hw⟩ := hw
    refine va_iald (f := (S.2.1 6)) hx hb hK hP 19 0 rfl rfl hi d_Co_pop_27 ?_
    exact kr (((S.2.1 6) (Int32.toNatClampNeg (((S.1 13) - 1))))) ((upd S.1 13 (((S.1 13) - 1))), S.2) _ _ _ _ hw hP hD hS d_Co_pop_28
  · have hw := hw.1 hc
    refine lv_iconst (v := 0) hx hb d_Co_pop_7 (by decide) ?_
    exact kr (0) S _ _ _ _ hw hP hD hS d_Co_pop_8
theorem qC_13 {R : Room} {s : State} {args : Array Value} (hts : ∀ w ∈ w_C, w.before args s = true) (hR : (rmM 0 0).frames + 1 ≤ R.frames ∧ 8 + (1 + 11) + (rmM 0 0).locals ≤ R.locals) : CallW R s args "WordSmith$Compiler" R_Co 90 y_Co_pop b_Co_pop 1 (some .int) (.code y_Co_pop b_Co_pop 1 (some .int) :: w_C) (rmM 0 0) 0 0 0 := ⟨callB_of 0 hts (good_C k_C_568) rfl rfl rfl (hts _ k_C_11) (hts _ k_C_566) ⟨by decide +kernel, by decide +kernel, by decide +kernel⟩ hR, hts _ k_C_567, hts _ k_C_792⟩
theorem qC_14 {R : Room} {s : State} {args : Array Value} (hts : ∀ w ∈ w_C, w.before args s = true) (hR : (rmM 0 0).frames + 1 ≤ R.frames ∧ 8 + (2 + 11) + (rmM 0 0).locals ≤ R.locals) : CallW R s args "WordSmith$Compiler" R_Mw 93 y_Mw_aim b_Mw_aim 2 none (.code y_Mw_aim b_Mw_aim 2 none :: w_C) (rmM 0 0) 0 0 1 := ⟨callB_of 1 hts (good_C k_C_572) rfl rfl rfl (hts _ k_C_21) (hts _ k_C_569) ⟨by decide +kernel, by decide +kernel, by decide +kernel⟩ hR, hts _ k_C_570, hts _ k_C_571⟩
theorem d_Co_closeWhile_0 : decode b_Co_closeWhile 0 = .ok (.aload_n 0, 1) := by decide +kernel
theorem d_Co_closeWhile_1 : decode b_Co_closeWhile 1 = .ok (.invokevirtual 90, 3) := by decide +kernel
theorem d_Co_closeWhile_4 : decode b_Co_closeWhile 4 = .ok (.istore_n 1, 1) := by decide +kernel
theorem d_Co_closeWhile_5 : decode b_Co_closeWhile 5 = .ok (.aload_n 0, 1) := by decide +kernel
theorem d_Co_closeWhile_6 : decode b_Co_closeWhile 6 = .ok (.getfield 21, 3) := by decide +kernel
theorem d_Co_closeWhile_9 : decode b_Co_closeWhile 9 = .ok (.iconst 2, 1) := by decide +kernel
theorem d_Co_closeWhile_10 : decode b_Co_closeWhile 10 = .ok (.aload_n 0, 1) := by decide +kernel
theorem d_Co_closeWhile_11 : decode b_Co_closeWhile 11 = .ok (.invokevirtual 90, 3) := by decide +kernel
theorem d_Co_closeWhile_14 : decode b_Co_closeWhile 14 = .ok (.invokevirtual 38, 3) := by decide +kernel
theorem d_Co_closeWhile_17 : decode b_Co_closeWhile 17 = .ok (.aload_n 0, 1) := by decide +kernel
theorem d_Co_closeWhile_18 : decode b_Co_closeWhile 18 = .ok (.getfield 21, 3) := by decide +kernel
theorem d_Co_closeWhile_21 : decode b_Co_closeWhile 21 = .ok (.iload_n 1, 1) := by decide +kernel
theorem d_Co_closeWhile_22 : decode b_Co_closeWhile 22 = .ok (.invokevirtual 93, 3) := by decide +kernel
theorem d_Co_closeWhile_25 : decode b_Co_closeWhile 25 = .ok (.return_, 1) := by decide +kernel
def wp_Co_closeWhile (g : Gm) (post : StC → Prop) (S : StC)  : Prop :=
  wp_Co_pop g (fun (r2 : Int32) (S1 : StC) => (∃ (y3 : Nat), ((S1.2.2.2.1 0) = some y3) ∧ (wp_Co_pop g (fun (r6 : Int32) (S5 : StC) => (∃ (vs7 : List Value), (y3 ∈ S5.2.2.2.2.2.1) ∧ (S5.2.2.2.2.2.2 y3 = .inr (11, vs7)) ∧ (wp_Mw_add g (fun S10 : StC => (∃ (y11 : Nat), ((S10.2.2.2.1 0) = some y11) ∧ (∃ (vs13 : List Value), (y11 ∈ S10.2.2.2.2.2.1) ∧ (S10.2.2.2.2.2.2 y11 = .inr (11, vs13)) ∧ (wp_Mw_aim g (fun S16 : StC => (post S16)) S10 (y11) (r2))))) S5 (y3) (2) (r6)))) S1 ))) S 
set_option maxRecDepth 100000 in
set_option maxHeartbeats 4000000 in
theorem c_Co_closeWhile (l : Launch) (g : Gm) (sz : Nat) (S : StC)  (post : StC → Prop) (hw : wp_Co_closeWhile g post S ) : Met l y_Co_closeWhile (.code y_Co_closeWhile b_Co_closeWhile 2 none :: w_C) (rmM 1 22) (va_Pc [.ref (g.2.2 17)] (PC g sz S)) (va_Qv post (BC g (AC g sz S)) (AC g sz S)) 0 0 (AC g sz S) := by
  refine ofC_v (by decide) (Nat.le_of_ble_eq_true rfl) (fun p e s m args below meth c Q A H locs ls hx hb hml hts hown hK hA hC hN kr hl hP hD hS => ?_)
  have hl : lv_has ls 2 [(0, .ref (g.2.2 17))] := hl
  unfold wp_Co_closeWhile at hw
  refine lv_aload_n hx hb d_Co_closeWhile_0 rfl (lv_at hl 0 rfl) ?_
  refine cC_iV (As := []) (rest := []) hx hb hml hown hts hK hC hN hP hD hS hA (Nat.zero_le _) (Nat.zero_le _) hl.1 (va_recv (q0 := 17) (ci := 10) (q := (R_Co, F_Co, 4)) hK hP rfl rfl) (qC_13 hts ⟨Nat.le_of_ble_eq_true rfl, Nat.le_of_ble_eq_true rfl⟩) (c_Co_pop l g H.size _  _ hw) rfl rfl (Nat.le_of_ble_eq_true rfl) d_Co_closeWhile_1 (fun r2 S1 H locs hw hP hD hS => ?_)
  refine lv_istore_n (lv' := [(1, .int (r2)), (0, .ref (g.2.2 17))]) hx hb d_Co_closeWhile_4 rfl hl (by decide) rfl (fun ls hl => ?_)
  refine lv_aload_n hx hb d_Co_closeWhile_5 rfl (lv_at hl 1 rfl) ?_
  refine va_get (D := g.1) (ci := 10) (v := va_rf ((S1.2.2.2.1 0))) (C := R_Co) (T := F_Co) (N := 4) hx hb hts hin_Co hown hK hP 17 rfl rfl 0 (by decide) (hts _ k_C_122) (fun _ h9 => h9) rfl d_Co_closeWhile_6 ?_
  obtain ⟨y3, hy4, hw⟩ := hw
  refine W_rf hy4 ?_
  refine lv_iconst (v := 2) hx hb d_Co_closeWhile_9 (by decide) ?_
  refine lv_aload_n hx hb d_Co_closeWhile_10 rfl (lv_at hl 1 rfl) ?_
  refine cC_iV (As := []) (rest := [.int (2), .ref (y3)]) hx hb hml hown hts hK hC hN hP hD hS hA (Nat.zero_le _) (Nat.zero_le _) hl.1 (va_recv (q0 := 17) (ci := 10) (q := (R_Co, F_Co, 4)) hK hP rfl rfl) (qC_13 hts ⟨Nat.le_of_ble_eq_true rfl, Nat.le_of_ble_eq_true rfl⟩) (c_Co_pop l g H.size _  _ hw) rfl rfl (Nat.le_of_ble_eq_true rfl) d_Co_closeWhile_11 (fun r6 S5 H locs hw hP hD hS => ?_)
  obtain ⟨vs7, ha8, hf9, hw⟩ := hw
  refine cC_vV (As := [.int (2), .int (r6)]) (rest := []) hx hb hml hown hts hK hC hN hP hD hS hA (Nat.zero_le _) (Nat.zero_le _) hl.1 (precv_C (C := R_Mw) (F := F_Mw) (N := 5) hK hP ha8 hf9 rfl) (qC_8 hts ⟨Nat.le_of_ble_eq_true rfl, Nat.le_of_ble_eq_true rfl⟩) (c_Mw_add l g H.size _ (y3) (2) (r6) _ hw) rfl rfl (Nat.le_of_ble_eq_true rfl) d_Co_closeWhile_14 (fun S10 H locs hw hP hD hS => ?_)
  refine lv_aload_n hx hb d_Co_closeWhile_17 rfl (lv_at hl 1 rfl) ?_
  refine va_get (D := g.1) (ci := 10) (v := va_rf ((S10.2.2.2.1 0))) (C := R_Co) (T := F_Co) (N := 4) hx hb hts hin_Co hown hK hP 17 rfl rfl 0 (by decide) (hts _ k_C_122) (fun _ h9 => h9) rfl d_Co_closeWhile_18 ?_
  obtain ⟨y11, hy12, hw⟩ := hw
  refine W_rf hy12 ?_
  refine lv_iload_n hx hb d_Co_closeWhile_21 rfl (lv_at hl 0 rfl) ?_
  obtain ⟨vs13, ha14, hf15, hw⟩ := hw
  refine cC_vV (As := [.int (r2)]) (rest := []) hx hb hml hown hts hK hC hN hP hD hS hA (Nat.zero_le _) (Nat.zero_le _) hl.1 (precv_C (C := R_Mw) (F := F_Mw) (N := 5) hK hP ha14 hf15 rfl) (qC_14 hts ⟨Nat.le_of_ble_eq_true rfl, Nat.le_of_ble_eq_true rfl⟩) (c_Mw_aim l g H.size _ (y11) (r2) _ hw) rfl rfl (Nat.le_of_ble_eq_true rfl) d_Co_closeWhile_22 (fun S16 H locs hw hP hD hS => ?_)
  exact kr S16 _ _ _ _ hw hP hD hS d_Co_closeWhile_25
theorem qC_15 {R : Room} {s : State} {args : Array Value} (hts : ∀ w ∈ w_C, w.before args s = true) (hR : (rmM 0 0).frames + 1 ≤ R.frames ∧ 8 + (3 + 11) + (rmM 0 0).locals ≤ R.locals) : CallW R s args "WordSmith$Compiler" R_Co 86 y_Co_push b_Co_push 3 none (.code y_Co_push b_Co_push 3 none :: w_C) (rmM 0 0) 0 0 2 := ⟨callB_of 2 hts (good_C k_C_565) rfl rfl rfl (hts _ k_C_11) (hts _ k_C_563) ⟨by decide +kernel, by decide +kernel, by decide +kernel⟩ hR, hts _ k_C_564, hts _ k_C_791⟩
theorem qC_16 {R : Room} {s : State} {args : Array Value} (hts : ∀ w ∈ w_C, w.before args s = true) (hR : (rmM 1 22).frames + 1 ≤ R.frames ∧ 8 + (2 + 11) + (rmM 1 22).locals ≤ R.locals) : CallW R s args "WordSmith$Compiler" R_Co 97 y_Co_closeWhile b_Co_closeWhile 2 none (.code y_Co_closeWhile b_Co_closeWhile 2 none :: w_C) (rmM 1 22) 0 0 0 := ⟨callB_of 0 hts (good_C k_C_575) rfl rfl rfl (hts _ k_C_11) (hts _ k_C_573) ⟨by decide +kernel, by decide +kernel, by decide +kernel⟩ hR, hts _ k_C_574, hts _ k_C_793⟩
theorem d_Co_compile_0 : decode b_Co_compile 0 = .ok (.aload_n 0, 1) := by decide +kernel
theorem d_Co_compile_1 : decode b_Co_compile 1 = .ok (.getfield 21, 3) := by decide +kernel
theorem d_Co_compile_4 : decode b_Co_compile 4 = .ok (.ifnonnull 4, 3) := by decide +kernel
theorem d_Co_compile_7 : decode b_Co_compile 7 = .ok (.return_, 1) := by decide +kernel
theorem d_Co_compile_8 : decode b_Co_compile 8 = .ok (.aload_n 0, 1) := by decide +kernel
theorem d_Co_compile_9 : decode b_Co_compile 9 = .ok (.getfield 21, 3) := by decide +kernel
theorem d_Co_compile_12 : decode b_Co_compile 12 = .ok (.getfield 83, 3) := by decide +kernel
theorem d_Co_compile_15 : decode b_Co_compile 15 = .ok (.istore_n 2, 1) := by decide +kernel
theorem d_Co_compile_16 : decode b_Co_compile 16 = .ok (.getstatic 52, 3) := by decide +kernel
theorem d_Co_compile_19 : decode b_Co_compile 19 = .ok (.aload_n 1, 1) := by decide +kernel
theorem d_Co_compile_20 : decode b_Co_compile 20 = .ok (.invokevirtual 57, 3) := by decide +kernel
theorem d_Co_compile_23 : decode b_Co_compile 23 = .ok (.iaload, 1) := by decide +kernel
theorem d_Co_compile_24 : decode b_Co_compile 24 = .ok (.tableswitch 202 35 44 #[103, 74, 126, 141, 56, 156, 187, 56, 117, 163], 56) := by decide +kernel
theorem d_Co_compile_80 : decode b_Co_compile 80 = .ok (.aload_n 0, 1) := by decide +kernel
theorem d_Co_compile_81 : decode b_Co_compile 81 = .ok (.getfield 21, 3) := by decide +kernel
theorem d_Co_compile_84 : decode b_Co_compile 84 = .ok (.iconst 3, 1) := by decide +kernel
theorem d_Co_compile_85 : decode b_Co_compile 85 = .ok (.iconst 0, 1) := by decide +kernel
theorem d_Co_compile_86 : decode b_Co_compile 86 = .ok (.invokevirtual 38, 3) := by decide +kernel
theorem d_Co_compile_89 : decode b_Co_compile 89 = .ok (.aload_n 0, 1) := by decide +kernel
theorem d_Co_compile_90 : decode b_Co_compile 90 = .ok (.aload_n 1, 1) := by decide +kernel
theorem d_Co_compile_91 : decode b_Co_compile 91 = .ok (.iload_n 2, 1) := by decide +kernel
theorem d_Co_compile_92 : decode b_Co_compile 92 = .ok (.invokevirtual 86, 3) := by decide +kernel
theorem d_Co_compile_95 : decode b_Co_compile 95 = .ok (.goto 131, 3) := by decide +kernel
theorem d_Co_compile_98 : decode b_Co_compile 98 = .ok (.aload_n 0, 1) := by decide +kernel
theorem d_Co_compile_99 : decode b_Co_compile 99 = .ok (.getfield 21, 3) := by decide +kernel
theorem d_Co_compile_102 : decode b_Co_compile 102 = .ok (.iconst 2, 1) := by decide +kernel
theorem d_Co_compile_103 : decode b_Co_compile 103 = .ok (.iconst 0, 1) := by decide +kernel
theorem d_Co_compile_104 : decode b_Co_compile 104 = .ok (.invokevirtual 38, 3) := by decide +kernel
theorem d_Co_compile_107 : decode b_Co_compile 107 = .ok (.aload_n 0, 1) := by decide +kernel
theorem d_Co_compile_108 : decode b_Co_compile 108 = .ok (.getfield 21, 3) := by decide +kernel
theorem d_Co_compile_111 : decode b_Co_compile 111 = .ok (.aload_n 0, 1) := by decide +kernel
theorem d_Co_compile_112 : decode b_Co_compile 112 = .ok (.invokevirtual 90, 3) := by decide +kernel
theorem d_Co_compile_115 : decode b_Co_compile 115 = .ok (.invokevirtual 93, 3) := by decide +kernel
theorem d_Co_compile_118 : decode b_Co_compile 118 = .ok (.aload_n 0, 1) := by decide +kernel
theorem d_Co_compile_119 : decode b_Co_compile 119 = .ok (.aload_n 1, 1) := by decide +kernel
theorem d_Co_compile_120 : decode b_Co_compile 120 = .ok (.iload_n 2, 1) := by decide +kernel
theorem d_Co_compile_121 : decode b_Co_compile 121 = .ok (.invokevirtual 86, 3) := by decide +kernel
theorem d_Co_compile_124 : decode b_Co_compile 124 = .ok (.goto 102, 3) := by decide +kernel
theorem d_Co_compile_127 : decode b_Co_compile 127 = .ok (.aload_n 0, 1) := by decide +kernel
theorem d_Co_compile_128 : decode b_Co_compile 128 = .ok (.getfield 21, 3) := by decide +kernel
theorem d_Co_compile_131 : decode b_Co_compile 131 = .ok (.aload_n 0, 1) := by decide +kernel
theorem d_Co_compile_132 : decode b_Co_compile 132 = .ok (.invokevirtual 90, 3) := by decide +kernel
theorem d_Co_compile_135 : decode b_Co_compile 135 = .ok (.invokevirtual 93, 3) := by decide +kernel
theorem d_Co_compile_138 : decode b_Co_compile 138 = .ok (.goto 88, 3) := by decide +kernel
theorem d_Co_compile_141 : decode b_Co_compile 141 = .ok (.aload_n 0, 1) := by decide +kernel
theorem d_Co_compile_142 : decode b_Co_compile 142 = .ok (.aload_n 1, 1) := by decide +kernel
theorem d_Co_compile_143 : decode b_Co_compile 143 = .ok (.iload_n 2, 1) := by decide +kernel
theorem d_Co_compile_144 : decode b_Co_compile 144 = .ok (.invokevirtual 86, 3) := by decide +kernel
theorem d_Co_compile_147 : decode b_Co_compile 147 = .ok (.goto 79, 3) := by decide +kernel
theorem d_Co_compile_150 : decode b_Co_compile 150 = .ok (.aload_n 0, 1) := by decide +kernel
theorem d_Co_compile_151 : decode b_Co_compile 151 = .ok (.getfield 21, 3) := by decide +kernel
theorem d_Co_compile_154 : decode b_Co_compile 154 = .ok (.iconst 3, 1) := by decide +kernel
theorem d_Co_compile_155 : decode b_Co_compile 155 = .ok (.aload_n 0, 1) := by decide +kernel
theorem d_Co_compile_156 : decode b_Co_compile 156 = .ok (.invokevirtual 90, 3) := by decide +kernel
theorem d_Co_compile_159 : decode b_Co_compile 159 = .ok (.invokevirtual 38, 3) := by decide +kernel
theorem d_Co_compile_162 : decode b_Co_compile 162 = .ok (.goto 64, 3) := by decide +kernel
theorem d_Co_compile_165 : decode b_Co_compile 165 = .ok (.aload_n 0, 1) := by decide +kernel
theorem d_Co_compile_166 : decode b_Co_compile 166 = .ok (.getfield 21, 3) := by decide +kernel
theorem d_Co_compile_169 : decode b_Co_compile 169 = .ok (.iconst 2, 1) := by decide +kernel
theorem d_Co_compile_170 : decode b_Co_compile 170 = .ok (.aload_n 0, 1) := by decide +kernel
theorem d_Co_compile_171 : decode b_Co_compile 171 = .ok (.invokevirtual 90, 3) := by decide +kernel
theorem d_Co_compile_174 : decode b_Co_compile 174 = .ok (.invokevirtual 38, 3) := by decide +kernel
theorem d_Co_compile_177 : decode b_Co_compile 177 = .ok (.goto 49, 3) := by decide +kernel
theorem d_Co_compile_180 : decode b_Co_compile 180 = .ok (.aload_n 0, 1) := by decide +kernel
theorem d_Co_compile_181 : decode b_Co_compile 181 = .ok (.invokevirtual 97, 3) := by decide +kernel
theorem d_Co_compile_184 : decode b_Co_compile 184 = .ok (.goto 42, 3) := by decide +kernel
theorem d_Co_compile_187 : decode b_Co_compile 187 = .ok (.aload_n 0, 1) := by decide +kernel
theorem d_Co_compile_188 : decode b_Co_compile 188 = .ok (.getfield 21, 3) := by decide +kernel
theorem d_Co_compile_191 : decode b_Co_compile 191 = .ok (.iconst 4, 1) := by decide +kernel
theorem d_Co_compile_192 : decode b_Co_compile 192 = .ok (.iconst 0, 1) := by decide +kernel
theorem d_Co_compile_193 : decode b_Co_compile 193 = .ok (.invokevirtual 38, 3) := by decide +kernel
theorem d_Co_compile_196 : decode b_Co_compile 196 = .ok (.aload_n 0, 1) := by decide +kernel
theorem d_Co_compile_197 : decode b_Co_compile 197 = .ok (.aload_n 1, 1) := by decide +kernel
theorem d_Co_compile_198 : decode b_Co_compile 198 = .ok (.aload_n 0, 1) := by decide +kernel
theorem d_Co_compile_199 : decode b_Co_compile 199 = .ok (.getfield 21, 3) := by decide +kernel
theorem d_Co_compile_202 : decode b_Co_compile 202 = .ok (.getfield 83, 3) := by decide +kernel
theorem d_Co_compile_205 : decode b_Co_compile 205 = .ok (.invokevirtual 86, 3) := by decide +kernel
theorem d_Co_compile_208 : decode b_Co_compile 208 = .ok (.goto 18, 3) := by decide +kernel
theorem d_Co_compile_211 : decode b_Co_compile 211 = .ok (.aload_n 0, 1) := by decide +kernel
theorem d_Co_compile_212 : decode b_Co_compile 212 = .ok (.getfield 21, 3) := by decide +kernel
theorem d_Co_compile_215 : decode b_Co_compile 215 = .ok (.iconst 5, 1) := by decide +kernel
theorem d_Co_compile_216 : decode b_Co_compile 216 = .ok (.aload_n 0, 1) := by decide +kernel
theorem d_Co_compile_217 : decode b_Co_compile 217 = .ok (.invokevirtual 90, 3) := by decide +kernel
theorem d_Co_compile_220 : decode b_Co_compile 220 = .ok (.invokevirtual 38, 3) := by decide +kernel
theorem d_Co_compile_223 : decode b_Co_compile 223 = .ok (.goto 3, 3) := by decide +kernel
theorem d_Co_compile_226 : decode b_Co_compile 226 = .ok (.return_, 1) := by decide +kernel
def wq_Co_compile_226 (g : Gm) (post : StC → Prop)  (S : StC)  : Prop :=
  post S
def wp_Co_compile (g : Gm) (post : StC → Prop) (S : StC) (a0 : Nat) : Prop :=
  (((S.2.2.2.1 0)) = none → post S) ∧ (∀ y1 : Nat, ((S.2.2.2.1 0)) = some y1 → ∃ (y3 : Nat), ((S.2.2.2.1 0) = some y3) ∧ (∃ (vs5 : List Value) (z9 : Int32), (y3 ∈ S.2.2.2.2.2.1) ∧ (S.2.2.2.2.2.2 y3 = .inr (11, vs5)) ∧ (vs5[3]? = some (.int (z9))) ∧ (∃ (i10 : Nat), (i10 < 52) ∧ (a0 = g.2.2 (100 + i10)) ∧ (wp_En_ordinal g (fun (r14 : Int32) (S13 : StC) => ((vp_in r14 52) ∧ ((((swE.getD (Int32.toNatClampNeg (r14)) 0) = 35) → ∃ (y16 : Nat), ((S13.2.2.2.1 0) = some y16) ∧ (wp_Co_pop g (fun (r19 : Int32) (S18 : StC) => (∃ (vs20 : List Value), (y16 ∈ S18.2.2.2.2.2.1) ∧ (S18.2.2.2.2.2.2 y16 = .inr (11, vs20)) ∧ (wp_Mw_aim g (fun S23 : StC => (wq_Co_compile_226 g post  S23 )) S18 (y16) (r19)))) S13 )) ∧ (¬ ((swE.getD (Int32.toNatClampNeg (r14)) 0) = 35) → (((swE.getD (Int32.toNatClampNeg (r14)) 0) = 36) → ∃ (y25 : Nat), ((S13.2.2.2.1 0) = some y25) ∧ (∃ (vs27 : List Value), (y25 ∈ S13.2.2.2.2.2.1) ∧ (S13.2.2.2.2.2.2 y25 = .inr (11, vs27)) ∧ (wp_Mw_add g (fun S30 : StC => (∃ (y31 : Nat), ((S30.2.2.2.1 0) = some y31) ∧ (wp_Co_pop g (fun (r34 : Int32) (S33 : StC) => (∃ (vs35 : List Value), (y31 ∈ S33.2.2.2.2.2.1) ∧ (S33.2.2.2.2.2.2 y31 = .inr (11, vs35)) ∧ (wp_Mw_aim g (fun S38 : StC => (wp_Co_push g (fun S39 : StC => (wq_Co_compile_226 g post  S39 )) S38 (a0) (z9))) S33 (y31) (r34)))) S30 ))) S13 (y25) (2) (0)))) ∧ (¬ ((swE.getD (Int32.toNatClampNeg (r14)) 0) = 36) → (((swE.getD (Int32.toNatClampNeg (r14)) 0) = 37) → ∃ (y41 : Nat), ((S13.2.2.2.1 0) = some y41) ∧ (wp_Co_pop g (fun (r44 : Int32) (S43 : StC) => (∃ (vs45 : List Value), (y41 ∈ S43.2.2.2.2.2.1) ∧ (S43.2.2.2.2.2.2 y41 = .inr (11, vs45)) ∧ (wp_Mw_add g (fun S48 : StC => (wq_Co_compile_226 g post  S48 )) S43 (y41) (3) (r44)))) S13 )) ∧ (¬ ((swE.getD (Int32.toNatClampNeg (r14)) 0) = 37) → (((swE.getD (Int32.toNatClampNeg (r14)) 0) = 38) → ∃ (y50 : Nat), ((S13.2.2.2.1 0) = some y50) ∧ (wp_Co_pop g (fun (r53 : Int32) (S52 : StC) => (∃ (vs54 : List Value), (y50 ∈ S52.2.2.2.2.2.1) ∧ (S52.2.2.2.2.2.2 y50 = .inr (11, vs54)) ∧ (wp_Mw_add g (fun S57 : StC => (wq_Co_compile_226 g post  S57 )) S52 (y50) (2) (r53)))) S13 )) ∧ (¬ ((swE.getD (Int32.toNatClampNeg (r14)) 0) = 38) → (((swE.getD (Int32.toNatClampNeg (r14)) 0) = 39) → ∃ (y59 : Nat), ((S13.2.2.2.1 0) = some y59) ∧ (∃ (vs61 : List Value), (y59 ∈ S13.2.2.2.2.2.1) ∧ (S13.2.2.2.2.2.2 y59 = .inr (11, vs61)) ∧ (wp_Mw_add g (fun S64 : StC => (wp_Co_push g (fun S65 : StC => (wq_Co_compile_226 g post  S65 )) S64 (a0) (z9))) S13 (y59) (3) (0)))) ∧ (¬ ((swE.getD (Int32.toNatClampNeg (r14)) 0) = 39) → (((swE.getD (Int32.toNatClampNeg (r14)) 0) = 40) → wp_Co_closeWhile g (fun S67 : StC => (wq_Co_compile_226 g post  S67 )) S13 ) ∧ (¬ ((swE.getD (Int32.toNatClampNeg (r14)) 0) = 40) → (((swE.getD (Int32.toNatClampNeg (r14)) 0) = 41) → ∃ (y69 : Nat), ((S13.2.2.2.1 0) = some y69) ∧ (wp_Co_pop g (fun (r72 : Int32) (S71 : StC) => (∃ (vs73 : List Value), (y69 ∈ S71.2.2.2.2.2.1) ∧ (S71.2.2.2.2.2.2 y69 = .inr (11, vs73)) ∧ (wp_Mw_add g (fun S76 : StC => (wq_Co_compile_226 g post  S76 )) S71 (y69) (5) (r72)))) S13 )) ∧ (¬ ((swE.getD (Int32.toNatClampNeg (r14)) 0) = 41) → (((swE.getD (Int32.toNatClampNeg (r14)) 0) = 42) → ∃ (y78 : Nat), ((S13.2.2.2.1 0) = some y78) ∧ (∃ (vs80 : List Value), (y78 ∈ S13.2.2.2.2.2.1) ∧ (S13.2.2.2.2.2.2 y78 = .inr (11, vs80)) ∧ (wp_Mw_add g (fun S83 : StC => (wp_Co_push g (fun S84 : StC => (wq_Co_compile_226 g post  S84 )) S83 (a0) (z9))) S13 (y78) (3) (0)))) ∧ (¬ ((swE.getD (Int32.toNatClampNeg (r14)) 0) = 42) → (((swE.getD (Int32.toNatClampNeg (r14)) 0) = 43) → wp_Co_push g (fun S86 : StC => (wq_Co_compile_226 g post  S86 )) S13 (a0) (z9)) ∧ (¬ ((swE.getD (Int32.toNatClampNeg (r14)) 0) = 43) → (((swE.getD (Int32.toNatClampNeg (r14)) 0) = 44) → ∃ (y88 : Nat), ((S13.2.2.2.1 0) = some y88) ∧ (∃ (vs90 : List Value), (y88 ∈ S13.2.2.2.2.2.1) ∧ (S13.2.2.2.2.2.2 y88 = .inr (11, vs90)) ∧ (wp_Mw_add g (fun S93 : StC => (∃ (y94 : Nat), ((S93.2.2.2.1 0) = some y94) ∧ (∃ (vs96 : List Value) (z100 : Int32), (y94 ∈ S93.2.2.2.2.2.1) ∧ (S93.2.2.2.2.2.2 y94 = .inr (11, vs96)) ∧ (vs96[3]? = some (.int (z100))) ∧ (wp_Co_push g (fun S101 : StC => (wq_Co_compile_226 g post  S101 )) S93 (a0) (z100))))) S13 (y88) (4) (0)))) ∧ (¬ ((swE.getD (Int32.toNatClampNeg (r14)) 0) = 44) → wq_Co_compile_226 g post  S13 ))))))))))))) S (a0)))))
set_option maxRecDepth 100000 in
set_option maxHeartbeats 4000000 in
theorem c_Co_compile (l : Launch) (g : Gm) (sz : Nat) (S : StC) (a0 : Nat) (post : StC → Prop) (hw : wp_Co_compile g post S a0) : Met l y_Co_compile (.code y_Co_compile b_Co_compile 3 none :: w_C) (rmM 2 43) (va_Pc [.ref (g.2.2 17), .ref (a0)] (PC g sz S)) (va_Qv post (BC g (AC g sz S)) (AC g sz S)) 0 0 (AC g sz S) := by
  refine ofC_v (by decide) (Nat.le_of_ble_eq_true rfl) (fun p e s m args below meth c Q A H locs ls hx hb hml hts hown hK hA hC hN kr hl hP hD hS => ?_)
  have hl : lv_has ls 3 [(0, .ref (g.2.2 17)), (1, .ref (a0))] := hl
  unfold wp_Co_compile at hw
  have J226 : ∀ (S : StC)  (H : Heap) (locs : List Loc) (ls : Array Slot), wq_Co_compile_226 g post  S  → lv_has ls 3 [] → va_P g.1 classes (wC g S) H → va_D A (wC g S) → va_S A s.heap H locs → W p l e (rmM 2 43) s m args below meth c H locs 0 0 Q (F0 m 226 ls []) := by
    intro S  H locs ls hw hl hP hD hS
    unfold wq_Co_compile_226 at hw
    exact kr S _ _ _ _ hw hP hD hS d_Co_compile_226
  refine lv_aload_n hx hb d_Co_compile_0 rfl (lv_at hl 0 rfl) ?_
  refine va_get (D := g.1) (ci := 10) (v := va_rf ((S.2.2.2.1 0))) (C := R_Co) (T := F_Co) (N := 4) hx hb hts hin_Co hown hK hP 17 rfl rfl 0 (by decide) (hts _ k_C_122) (fun _ h9 => h9) rfl d_Co_compile_1 ?_
  refine lv_ifnonnullq hx hb d_Co_compile_4 (tgt := 8) (by decide) (fun y1 hq2 => ?_) (fun hq2 => ?_)
  · have hw := hw.2 y1 hq2
    refine lv_aload_n hx hb d_Co_compile_8 rfl (lv_at hl 0 rfl) ?_
    refine va_get (D := g.1) (ci := 10) (v := va_rf ((S.2.2.2.1 0))) (C := R_Co) (T := F_Co) (N := 4) hx hb hts hin_Co hown hK hP 17 rfl rfl 0 (by decide) (hts _ k_C_122) (fun _ h9 => h9) rfl d_Co_compile_9 ?_
    obtain ⟨y3, hy4, hw⟩ := hw
    refine W_rf hy4 ?_
    obtain ⟨vs5, z9, ha6, hf7, hv8, hw⟩ := hw
    refine pgN_C (S := S) (vs := vs5) (v := .int (z9)) (C := R_Mw) (F := F_Mw) (N := 5) hx hb hts hin_Mw hown hK hP ha6 hf7 rfl 3 (by decide) hv8 (va_Nw.use rfl (hN.1 _ kn_C_33)) d_Co_compile_12 ?_
    refine lv_istore_n (lv' := [(2, .int (z9)), (0, .ref (g.2.2 17)), (1, .ref (a0))]) hx hb d_Co_compile_15 rfl hl (by decide) rfl (fun ls hl => ?_)
    refine va_gets (C := "WordSmith$1") (n := "$SwitchMap$WordSmith$BuiltIn") (d := "[I") (v := .ref (g.2.2 90)) hx hb hC.1.2.1 hS hown (hts _ k_C_538) (fun _ h9 => h9) d_Co_compile_16 ?_
    refine lv_aload_n hx hb d_Co_compile_19 rfl (lv_at hl 2 rfl) ?_
    obtain ⟨i10, hi11, he12, hw⟩ := hw
    refine cC_iU (As := []) (rest := [.ref (g.2.2 90)]) hx hb hml hown hts hK hC hN hP hD hS hA (Nat.zero_le _) (Nat.zero_le _) hl.1 (erecv_C hC hS he12 hi11) (qC_9 hts ⟨Nat.le_of_ble_eq_true rfl, Nat.le_of_ble_eq_true rfl⟩) (c_En_ordinal l g H.size _ (a0) _ hw) rfl rfl (Nat.le_of_ble_eq_true rfl) d_Co_compile_20 (fun r14 S13 H locs hw hP hD hS => ?_)
    obtain ⟨hi, hw⟩ := hw
    refine va_ti (v := .int (swE.getD (Int32.toNatClampNeg (r14)) 0)) hx hb hC.1.2.2.1 hS hi rfl d_Co_compile_23 ?_
    by_cases hk15 : (swE.getD (Int32.toNatClampNeg (r14)) 0) = 35
    · have hw := hw.1 hk15
      refine sw_in hx hb d_Co_compile_24 hk15 (tgt := 127) (off := 103) (by decide) (by decide) rfl (by decide) ?_
      refine lv_aload_n hx hb d_Co_compile_127 rfl (lv_at hl 1 rfl) ?_
      refine va_get (D := g.1) (ci := 10) (v := va_rf ((S13.2.2.2.1 0))) (C := R_Co) (T := F_Co) (N := 4) hx hb hts hin_Co hown hK hP 17 rfl rfl 0 (by decide) (hts _ k_C_122) (fun _ h9 => h9) rfl d_Co_compile_128 ?_
      obtain ⟨y16, hy17, hw⟩ := hw
      refine W_rf hy17 ?_
      refine lv_aload_n hx hb d_Co_compile_131 rfl (lv_at hl 1 rfl) ?_
      refine cC_iV (As := []) (rest := [.ref (y16)]) hx hb hml hown hts hK hC hN hP hD hS hA (Nat.zero_le _) (Nat.zero_le _) hl.1 (va_recv (q0 := 17) (ci := 10) (q := (R_Co, F_Co, 4)) hK hP rfl rfl) (qC_13 hts ⟨Nat.le_of_ble_eq_true rfl, Nat.le_of_ble_eq_true rfl⟩) (c_Co_pop l g H.size _  _ hw) rfl rfl (Nat.le_of_ble_eq_true rfl) d_Co_compile_132 (fun r19 S18 H locs hw hP hD hS => ?_)
      obtain ⟨vs20, ha21, hf22, hw⟩ := hw
      refine cC_vV (As := [.int (r19)]) (rest := []) hx hb hml hown hts hK hC hN hP hD hS hA (Nat.zero_le _) (Nat.zero_le _) hl.1 (precv_C (C := R_Mw) (F := F_Mw) (N := 5) hK hP ha21 hf22 rfl) (qC_14 hts ⟨Nat.le_of_ble_eq_true rfl, Nat.le_of_ble_eq_true rfl⟩) (c_Mw_aim l g H.size _ (y16) (r19) _ hw) rfl rfl (Nat.le_of_ble_eq_true rfl) d_Co_compile_135 (fun S23 H locs hw hP hD hS => ?_)
      refine lv_goto hx hb d_Co_compile_138 (tgt := 226) (by decide) ?_
      exact J226 S23  _ _ _ hw (lv_sub hl [] rfl) hP hD hS
    · have hw := hw.2 hk15
      by_cases hk24 : (swE.getD (Int32.toNatClampNeg (r14)) 0) = 36
      · have hw := hw.1 hk24
        refine sw_in hx hb d_Co_compile_24 hk24 (tgt := 98) (off := 74) (by decide) (by decide) rfl (by decide) ?_
        refine lv_aload_n hx hb d_Co_compile_98 rfl (lv_at hl 1 rfl) ?_
        refine va_get (D := g.1) (ci := 10) (v := va_rf ((S13.2.2.2.1 0))) (C := R_Co) (T := F_Co) (N := 4) hx hb hts hin_Co hown hK hP 17 rfl rfl 0 (by decide) (hts _ k_C_122) (fun _ h9 => h9) rfl d_Co_compile_99 ?_
        obtain ⟨y25, hy26, hw⟩ := hw
        refine W_rf hy26 ?_
        refine lv_iconst (v := 2) hx hb d_Co_compile_102 (by decide) ?_
        refine lv_iconst (v := 0) hx hb d_Co_compile_103 (by decide) ?_
        obtain ⟨vs27, ha28, hf29, hw⟩ := hw
        refine cC_vV (As := [.int (2), .int (0)]) (rest := []) hx hb hml hown hts hK hC hN hP hD hS hA (Nat.zero_le _) (Nat.zero_le _) hl.1 (precv_C (C := R_Mw) (F := F_Mw) (N := 5) hK hP ha28 hf29 rfl) (qC_8 hts ⟨Nat.le_of_ble_eq_true rfl, Nat.le_of_ble_eq_true rfl⟩) (c_Mw_add l g H.size _ (y25) (2) (0) _ hw) rfl rfl (Nat.le_of_ble_eq_true rfl) d_Co_compile_104 (fun S30 H locs hw hP hD hS => ?_)
        refine lv_aload_n hx hb d_Co_compile_107 rfl (lv_at hl 1 rfl) ?_
        refine va_get (D := g.1) (ci := 10) (v := va_rf ((S30.2.2.2.1 0))) (C := R_Co) (T := F_Co) (N := 4) hx hb hts hin_Co hown hK hP 17 rfl rfl 0 (by decide) (hts _ k_C_122) (fun _ h9 => h9) rfl d_Co_compile_108 ?_
        obtain ⟨y31, hy32, hw⟩ := hw
        refine W_rf hy32 ?_
        refine lv_aload_n hx hb d_Co_compile_111 rfl (lv_at hl 1 rfl) ?_
        refine cC_iV (As := []) (rest := [.ref (y31)]) hx hb hml hown hts hK hC hN hP hD hS hA (Nat.zero_le _) (Nat.zero_le _) hl.1 (va_recv (q0 := 17) (ci := 10) (q := (R_Co, F_Co, 4)) hK hP rfl rfl) (qC_13 hts ⟨Nat.le_of_ble_eq_true rfl, Nat.le_of_ble_eq_true rfl⟩) (c_Co_pop l g H.size _  _ hw) rfl rfl (Nat.le_of_ble_eq_true rfl) d_Co_compile_112 (fun r34 S33 H locs hw hP hD hS => ?_)
        obtain ⟨vs35, ha36, hf37, hw⟩ := hw
        refine cC_vV (As := [.int (r34)]) (rest := []) hx hb hml hown hts hK hC hN hP hD hS hA (Nat.zero_le _) (Nat.zero_le _) hl.1 (precv_C (C := R_Mw) (F := F_Mw) (N := 5) hK hP ha36 hf37 rfl) (qC_14 hts ⟨Nat.le_of_ble_eq_true rfl, Nat.le_of_ble_eq_true rfl⟩) (c_Mw_aim l g H.size _ (y31) (r34) _ hw) rfl rfl (Nat.le_of_ble_eq_true rfl) d_Co_compile_115 (fun S38 H locs hw hP hD hS => ?_)
        refine lv_aload_n hx hb d_Co_compile_118 rfl (lv_at hl 1 rfl) ?_
        refine lv_aload_n hx hb d_Co_compile_119 rfl (lv_at hl 2 rfl) ?_
        refine lv_iload_n hx hb d_Co_compile_120 rfl (lv_at hl 0 rfl) ?_
        refine cC_vV (As := [.ref (a0), .int (z9)]) (rest := []) hx hb hml hown hts hK hC hN hP hD hS hA (Nat.zero_le _) (Nat.zero_le _) hl.1 (va_recv (q0 := 17) (ci := 10) (q := (R_Co, F_Co, 4)) hK hP rfl rfl) (qC_15 hts ⟨Nat.le_of_ble_eq_true rfl, Nat.le_of_ble_eq_true rfl⟩) (c_Co_push l g H.size _ (a0) (z9) _ hw) rfl rfl (Nat.le_of_ble_eq_true rfl) d_Co_compile_121 (fun S39 H locs hw hP hD hS => ?_)
        refine lv_goto hx hb d_Co_compile_124 (tgt := 226) (by decide) ?_
        exact J226 S39  _ _ _ hw (lv_sub hl [] rfl) hP hD hS
      · have hw := hw.2 hk24
        by_cases hk40 : (swE.getD (Int32.toNatClampNeg (r14)) 0) = 37
        · have hw := hw.1 hk40
          refine sw_in hx hb d_Co_compile_24 hk40 (tgt := 150) (off := 126) (by decide) (by decide) rfl (by decide) ?_
          refine lv_aload_n hx hb d_Co_compile_150 rfl (lv_at hl 1 rfl) ?_
          refine va_get (D := g.1) (ci := 10) (v := va_rf ((S13.2.2.2.1 0))) (C := R_Co) (T := F_Co) (N := 4) hx hb hts hin_Co hown hK hP 17 rfl rfl 0 (by decide) (hts _ k_C_122) (fun _ h9 => h9) rfl d_Co_compile_151 ?_
          obtain ⟨y41, hy42, hw⟩ := hw
          refine W_rf hy42 ?_
          refine lv_iconst (v := 3) hx hb d_Co_compile_154 (by decide) ?_
          refine lv_aload_n hx hb d_Co_compile_155 rfl (lv_at hl 1 rfl) ?_
          refine cC_iV (As := []) (rest := [.int (3), .ref (y41)]) hx hb hml hown hts hK hC hN hP hD hS hA (Nat.zero_le _) (Nat.zero_le _) hl.1 (va_recv (q0 := 17) (ci := 10) (q := (R_Co, F_Co, 4)) hK hP rfl rfl) (qC_13 hts ⟨Nat.le_of_ble_eq_true rfl, Nat.le_of_ble_eq_true rfl⟩) (c_Co_pop l g H.size _  _ hw) rfl rfl (Nat.le_of_ble_eq_true rfl) d_Co_compile_156 (fun r44 S43 H locs hw hP hD hS => ?_)
          obtain ⟨vs45, ha46, hf47, hw⟩ := hw
          refine cC_vV (As := [.int (3), .int (r44)]) (rest := []) hx hb hml hown hts hK hC hN hP hD hS hA (Nat.zero_le _) (Nat.zero_le _) hl.1 (precv_C (C := R_Mw) (F := F_Mw) (N := 5) hK hP ha46 hf47 rfl) (qC_8 hts ⟨Nat.le_of_ble_eq_true rfl, Nat.le_of_ble_eq_true rfl⟩) (c_Mw_add l g H.size _ (y41) (3) (r44) _ hw) rfl rfl (Nat.le_of_ble_eq_true rfl) d_Co_compile_159 (fun S48 H locs hw hP hD hS => ?_)
          refine lv_goto hx hb d_Co_compile_162 (tgt := 226) (by decide) ?_
          exact J226 S48  _ _ _ hw (lv_sub hl [] rfl) hP hD hS
        · have hw := hw.2 hk40
          by_cases hk49 : (swE.getD (Int32.toNatClampNeg (r14)) 0) = 38
          · have hw := hw.1 hk49
            refine sw_in hx hb d_Co_compile_24 hk49 (tgt := 165) (off := 141) (by decide) (by decide) rfl (by decide) ?_
            refine lv_aload_n hx hb d_Co_compile_165 rfl (lv_at hl 1 rfl) ?_
            refine va_get (D := g.1) (ci := 10) (v := va_rf ((S13.2.2.2.1 0))) (C := R_Co) (T := F_Co) (N := 4) hx hb hts hin_Co hown hK hP 17 rfl rfl 0 (by decide) (hts _ k_C_122) (fun _ h9 => h9) rfl d_Co_compile_166 ?_
            obtain ⟨y50, hy51, hw⟩ := hw
            refine W_rf hy51 ?_
            refine lv_iconst (v := 2) hx hb d_Co_compile_169 (by decide) ?_
            refine lv_aload_n hx hb d_Co_compile_170 rfl (lv_at hl 1 rfl) ?_
            refine cC_iV (As := []) (rest := [.int (2), .ref (y50)]) hx hb hml hown hts hK hC hN hP hD hS hA (Nat.zero_le _) (Nat.zero_le _) hl.1 (va_recv (q0 := 17) (ci := 10) (q := (R_Co, F_Co, 4)) hK hP rfl rfl) (qC_13 hts ⟨Nat.le_of_ble_eq_true rfl, Nat.le_of_ble_eq_true rfl⟩) (c_Co_pop l g H.size _  _ hw) rfl rfl (Nat.le_of_ble_eq_true rfl) d_Co_compile_171 (fun r53 S52 H locs hw hP hD hS => ?_)
            obtain ⟨vs54, ha55, hf56, hw⟩ := hw
            refine cC_vV (As := [.int (2), .int (r53)]) (rest := []) hx hb hml hown hts hK hC hN hP hD hS hA (Nat.zero_le _) (Nat.zero_le _) hl.1 (precv_C (C := R_Mw) (F := F_Mw) (N := 5) hK hP ha55 hf56 rfl) (qC_8 hts ⟨Nat.le_of_ble_eq_true rfl, Nat.le_of_ble_eq_true rfl⟩) (c_Mw_add l g H.size _ (y50) (2) (r53) _ hw) rfl rfl (Nat.le_of_ble_eq_true rfl) d_Co_compile_174 (fun S57 H locs hw hP hD hS => ?_)
            refine lv_goto hx hb d_Co_compile_177 (tgt := 226) (by decide) ?_
            exact J226 S57  _ _ _ hw (lv_sub hl [] rfl) hP hD hS
          · have hw := hw.2 hk49
            by_cases hk58 : (swE.getD (Int32.toNatClampNeg (r14)) 0) = 39
            · have hw := hw.1 hk58
              refine sw_in hx hb d_Co_compile_24 hk58 (tgt := 80) (off := 56) (by decide) (by decide) rfl (by decide) ?_
              refine lv_aload_n hx hb d_Co_compile_80 rfl (lv_at hl 1 rfl) ?_
              refine va_get (D := g.1) (ci := 10) (v := va_rf ((S13.2.2.2.1 0))) (C := R_Co) (T := F_Co) (N := 4) hx hb hts hin_Co hown hK hP 17 rfl rfl 0 (by decide) (hts _ k_C_122) (fun _ h9 => h9) rfl d_Co_compile_81 ?_
              obtain ⟨y59, hy60, hw⟩ := hw
              refine W_rf hy60 ?_
              refine lv_iconst (v := 3) hx hb d_Co_compile_84 (by decide) ?_
              refine lv_iconst (v := 0) hx hb d_Co_compile_85 (by decide) ?_
              obtain ⟨vs61, ha62, hf63, hw⟩ := hw
              refine cC_vV (As := [.int (3), .int (0)]) (rest := []) hx hb hml hown hts hK hC hN hP hD hS hA (Nat.zero_le _) (Nat.zero_le _) hl.1 (precv_C (C := R_Mw) (F := F_Mw) (N := 5) hK hP ha62 hf63 rfl) (qC_8 hts ⟨Nat.le_of_ble_eq_true rfl, Nat.le_of_ble_eq_true rfl⟩) (c_Mw_add l g H.size _ (y59) (3) (0) _ hw) rfl rfl (Nat.le_of_ble_eq_true rfl) d_Co_compile_86 (fun S64 H locs hw hP hD hS => ?_)
              refine lv_aload_n hx hb d_Co_compile_89 rfl (lv_at hl 1 rfl) ?_
              refine lv_aload_n hx hb d_Co_compile_90 rfl (lv_at hl 2 rfl) ?_
              refine lv_iload_n hx hb d_Co_compile_91 rfl (lv_at hl 0 rfl) ?_
              refine cC_vV (As := [.ref (a0), .int (z9)]) (rest := []) hx hb hml hown hts hK hC hN hP hD hS hA (Nat.zero_le _) (Nat.zero_le _) hl.1 (va_recv (q0 := 17) (ci := 10) (q := (R_Co, F_Co, 4)) hK hP rfl rfl) (qC_15 hts ⟨Nat.le_of_ble_eq_true rfl, Nat.le_of_ble_eq_true rfl⟩) (c_Co_push l g H.size _ (a0) (z9) _ hw) rfl rfl (Nat.le_of_ble_eq_true rfl) d_Co_compile_92 (fun S65 H locs hw hP hD hS => ?_)
              refine lv_goto hx hb d_Co_compile_95 (tgt := 226) (by decide) ?_
              exact J226 S65  _ _ _ hw (lv_sub hl [] rfl) hP hD hS
            · have hw := hw.2 hk58
              by_cases hk66 : (swE.getD (Int32.toNatClampNeg (r14)) 0) = 40
              · have hw := hw.1 hk66
                refine sw_in hx hb d_Co_compile_24 hk66 (tgt := 180) (off := 156) (by decide) (by decide) rfl (by decide) ?_
                refine lv_aload_n hx hb d_Co_compile_180 rfl (lv_at hl 1 rfl) ?_
                refine cC_vV (As := []) (rest := []) hx hb hml hown hts hK hC hN hP hD hS hA (Nat.zero_le _) (Nat.zero_le _) hl.1 (va_recv (q0 := 17) (ci := 10) (q := (R_Co, F_Co, 4)) hK hP rfl rfl) (qC_16 hts ⟨Nat.le_of_ble_eq_true rfl, Nat.le_of_ble_eq_true rfl⟩) (c_Co_closeWhile l g H.size _  _ hw) rfl rfl (Nat.le_of_ble_eq_true rfl) d_Co_compile_181 (fun S67 H locs hw hP hD hS => ?_)
                refine lv_goto hx hb d_Co_compile_184 (tgt := 226) (by decide) ?_
                exact J226 S67  _ _ _ hw (lv_sub hl [] rfl) hP hD hS
              · have hw := hw.2 hk66
                by_cases hk68 : (swE.getD (Int32.toNatClampNeg (r14)) 0) = 41
                · have hw := hw.1 hk68
                  refine sw_in hx hb d_Co_compile_24 hk68 (tgt := 211) (off := 187) (by decide) (by decide) rfl (by decide) ?_
                  refine lv_aload_n hx hb d_Co_compile_211 rfl (lv_at hl 1 rfl) ?_
                  refine va_get (D := g.1) (ci := 10) (v := va_rf ((S13.2.2.2.1 0))) (C := R_Co) (T := F_Co) (N := 4) hx hb hts hin_Co hown hK hP 17 rfl rfl 0 (by decide) (hts _ k_C_122) (fun _ h9 => h9) rfl d_Co_compile_212 ?_
                  obtain ⟨y69, hy70, hw⟩ := hw
                  refine W_rf hy70 ?_
                  refine lv_iconst (v := 5) hx hb d_Co_compile_215 (by decide) ?_
                  refine lv_aload_n hx hb d_Co_compile_216 rfl (lv_at hl 1 rfl) ?_
                  refine cC_iV (As := []) (rest := [.int (5), .ref (y69)]) hx hb hml hown hts hK hC hN hP hD hS hA (Nat.zero_le _) (Nat.zero_le _) hl.1 (va_recv (q0 := 17) (ci := 10) (q := (R_Co, F_Co, 4)) hK hP rfl rfl) (qC_13 hts ⟨Nat.le_of_ble_eq_true rfl, Nat.le_of_ble_eq_true rfl⟩) (c_Co_pop l g H.size _  _ hw) rfl rfl (Nat.le_of_ble_eq_true rfl) d_Co_compile_217 (fun r72 S71 H locs hw hP hD hS => ?_)
                  obtain ⟨vs73, ha74, hf75, hw⟩ := hw
                  refine cC_vV (As := [.int (5), .int (r72)]) (rest := []) hx hb hml hown hts hK hC hN hP hD hS hA (Nat.zero_le _) (Nat.zero_le _) hl.1 (precv_C (C := R_Mw) (F := F_Mw) (N := 5) hK hP ha74 hf75 rfl) (qC_8 hts ⟨Nat.le_of_ble_eq_true rfl, Nat.le_of_ble_eq_true rfl⟩) (c_Mw_add l g H.size _ (y69) (5) (r72) _ hw) rfl rfl (Nat.le_of_ble_eq_true rfl) d_Co_compile_220 (fun S76 H locs hw hP hD hS => ?_)
                  refine lv_goto hx hb d_Co_compile_223 (tgt := 226) (by decide) ?_
                  exact J226 S76  _ _ _ hw (lv_sub hl [] rfl) hP hD hS
                · have hw := hw.2 hk68
                  by_cases hk77 : (swE.getD (Int32.toNatClampNeg (r14)) 0) = 42
                  · have hw := hw.1 hk77
                    refine sw_in hx hb d_Co_compile_24 hk77 (tgt := 80) (off := 56) (by decide) (by decide) rfl (by decide) ?_
                    refine lv_aload_n hx hb d_Co_compile_80 rfl (lv_at hl 1 rfl) ?_
                    refine va_get (D := g.1) (ci := 10) (v := va_rf ((S13.2.2.2.1 0))) (C := R_Co) (T := F_Co) (N := 4) hx hb hts hin_Co hown hK hP 17 rfl rfl 0 (by decide) (hts _ k_C_122) (fun _ h9 => h9) rfl d_Co_compile_81 ?_
                    obtain ⟨y78, hy79, hw⟩ := hw
                    refine W_rf hy79 ?_
                    refine lv_iconst (v := 3) hx hb d_Co_compile_84 (by decide) ?_
                    refine lv_iconst (v := 0) hx hb d_Co_compile_85 (by decide) ?_
                    obtain ⟨vs80, ha81, hf82, hw⟩ := hw
                    refine cC_vV (As := [.int (3), .int (0)]) (rest := []) hx hb hml hown hts hK hC hN hP hD hS hA (Nat.zero_le _) (Nat.zero_le _) hl.1 (precv_C (C := R_Mw) (F := F_Mw) (N := 5) hK hP ha81 hf82 rfl) (qC_8 hts ⟨Nat.le_of_ble_eq_true rfl, Nat.le_of_ble_eq_true rfl⟩) (c_Mw_add l g H.size _ (y78) (3) (0) _ hw) rfl rfl (Nat.le_of_ble_eq_true rfl) d_Co_compile_86 (fun S83 H locs hw hP hD hS => ?_)
                    refine lv_aload_n hx hb d_Co_compile_89 rfl (lv_at hl 1 rfl) ?_
                    refine lv_aload_n hx hb d_Co_compile_90 rfl (lv_at hl 2 rfl) ?_
                    refine lv_iload_n hx hb d_Co_compile_91 rfl (lv_at hl 0 rfl) ?_
                    refine cC_vV (As := [.ref (a0), .int (z9)]) (rest := []) hx hb hml hown hts hK hC hN hP hD hS hA (Nat.zero_le _) (Nat.zero_le _) hl.1 (va_recv (q0 := 17) (ci := 10) (q := (R_Co, F_Co, 4)) hK hP rfl rfl) (qC_15 hts ⟨Nat.le_of_ble_eq_true rfl, Nat.le_of_ble_eq_true rfl⟩) (c_Co_push l g H.size _ (a0) (z9) _ hw) rfl rfl (Nat.le_of_ble_eq_true rfl) d_Co_compile_92 (fun S84 H locs hw hP hD hS => ?_)
                    refine lv_goto hx hb d_Co_compile_95 (tgt := 226) (by decide) ?_
                    exact J226 S84  _ _ _ hw (lv_sub hl [] rfl) hP hD hS
                  · have hw := hw.2 hk77
                    by_cases hk85 : (swE.getD (Int32.toNatClampNeg (r14)) 0) = 43
                    · have hw := hw.1 hk85
                      refine sw_in hx hb d_Co_compile_24 hk85 (tgt := 141) (off := 117) (by decide) (by decide) rfl (by decide) ?_
                      refine lv_aload_n hx hb d_Co_compile_141 rfl (lv_at hl 1 rfl) ?_
                      refine lv_aload_n hx hb d_Co_compile_142 rfl (lv_at hl 2 rfl) ?_
                      refine lv_iload_n hx hb d_Co_compile_143 rfl (lv_at hl 0 rfl) ?_
                      refine cC_vV (As := [.ref (a0), .int (z9)]) (rest := []) hx hb hml hown hts hK hC hN hP hD hS hA (Nat.zero_le _) (Nat.zero_le _) hl.1 (va_recv (q0 := 17) (ci := 10) (q := (R_Co, F_Co, 4)) hK hP rfl rfl) (qC_15 hts ⟨Nat.le_of_ble_eq_true rfl, Nat.le_of_ble_eq_true rfl⟩) (c_Co_push l g H.size _ (a0) (z9) _ hw) rfl rfl (Nat.le_of_ble_eq_true rfl) d_Co_compile_144 (fun S86 H locs hw hP hD hS => ?_)
                      refine lv_goto hx hb d_Co_compile_147 (tgt := 226) (by decide) ?_
                      exact J226 S86  _ _ _ hw (lv_sub hl [] rfl) hP hD hS
                    · have hw := hw.2 hk85
                      by_cases hk87 : (swE.getD (Int32.toNatClampNeg (r14)) 0) = 44
                      · have hw := hw.1 hk87
                        refine sw_in hx hb d_Co_compile_24 hk87 (tgt := 187) (off := 163) (by decide) (by decide) rfl (by decide) ?_
                        refine lv_aload_n hx hb d_Co_compile_187 rfl (lv_at hl 1 rfl) ?_
                        refine va_get (D := g.1) (ci := 10) (v := va_rf ((S13.2.2.2.1 0))) (C := R_Co) (T := F_Co) (N := 4) hx hb hts hin_Co hown hK hP 17 rfl rfl 0 (by decide) (hts _ k_C_122) (fun _ h9 => h9) rfl d_Co_compile_188 ?_
                        obtain ⟨y88, hy89, hw⟩ := hw
                        refine W_rf hy89 ?_
                        refine lv_iconst (v := 4) hx hb d_Co_compile_191 (by decide) ?_
                        refine lv_iconst (v := 0) hx hb d_Co_compile_192 (by decide) ?_
                        obtain ⟨vs90, ha91, hf92, hw⟩ := hw
                        refine cC_vV (As := [.int (4), .int (0)]) (rest := []) hx hb hml hown hts hK hC hN hP hD hS hA (Nat.zero_le _) (Nat.zero_le _) hl.1 (precv_C (C := R_Mw) (F := F_Mw) (N := 5) hK hP ha91 hf92 rfl) (qC_8 hts ⟨Nat.le_of_ble_eq_true rfl, Nat.le_of_ble_eq_true rfl⟩) (c_Mw_add l g H.size _ (y88) (4) (0) _ hw) rfl rfl (Nat.le_of_ble_eq_true rfl) d_Co_compile_193 (fun S93 H locs hw hP hD hS => ?_)
                        refine lv_aload_n hx hb d_Co_compile_196 rfl (lv_at hl 1 rfl) ?_
                        refine lv_aload_n hx hb d_Co_compile_197 rfl (lv_at hl 2 rfl) ?_
                        refine lv_aload_n hx hb d_Co_compile_198 rfl (lv_at hl 1 rfl) ?_
                        refine va_get (D := g.1) (ci := 10) (v := va_rf ((S93.2.2.2.1 0))) (C := R_Co) (T := F_Co) (N := 4) hx hb hts hin_Co hown hK hP 17 rfl rfl 0 (by decide) (hts _ k_C_122) (fun _ h9 => h9) rfl d_Co_compile_199 ?_
                        obtain ⟨y94, hy95, hw⟩ := hw
                        refine W_rf hy95 ?_
                        obtain ⟨vs96, z100, ha97, hf98, hv99, hw⟩ := hw
                        refine pgN_C (S := S93) (vs := vs96) (v := .int (z100)) (C := R_Mw) (F := F_Mw) (N := 5) hx hb hts hin_Mw hown hK hP ha97 hf98 rfl 3 (by decide) hv99 (va_Nw.use rfl (hN.1 _ kn_C_33)) d_Co_compile_202 ?_
                        refine cC_vV (As := [.ref (a0), .int (z100)]) (rest := []) hx hb hml hown hts hK hC hN hP hD hS hA (Nat.zero_le _) (Nat.zero_le _) hl.1 (va_recv (q0 := 17) (ci := 10) (q := (R_Co, F_Co, 4)) hK hP rfl rfl) (qC_15 hts ⟨Nat.le_of_ble_eq_true rfl, Nat.le_of_ble_eq_true rfl⟩) (c_Co_push l g H.size _ (a0) (z100) _ hw) rfl rfl (Nat.le_of_ble_eq_true rfl) d_Co_compile_205 (fun S101 H locs hw hP hD hS => ?_)
                        refine lv_goto hx hb d_Co_compile_208 (tgt := 226) (by decide) ?_
                        exact J226 S101  _ _ _ hw (lv_sub hl [] rfl) hP hD hS
                      · have hw := hw.2 hk87
                        have n0 := lv_neT hk15 (by decide : (35 : Int32).toInt = 35)
                        have n1 := lv_neT hk24 (by decide : (36 : Int32).toInt = 36)
                        have n2 := lv_neT hk40 (by decide : (37 : Int32).toInt = 37)
                        have n3 := lv_neT hk49 (by decide : (38 : Int32).toInt = 38)
                        have n4 := lv_neT hk58 (by decide : (39 : Int32).toInt = 39)
                        have n5 := lv_neT hk66 (by decide : (40 : Int32).toInt = 40)
                        have n6 := lv_neT hk68 (by decide : (41 : Int32).toInt = 41)
                        have n7 := lv_neT hk77 (by decide : (42 : Int32).toInt = 42)
                        have n8 := lv_neT hk85 (by decide : (43 : Int32).toInt = 43)
                        have n9 := lv_neT hk87 (by decide : (44 : Int32).toInt = 44)
                        refine lv_tableOut hx hb d_Co_compile_24 (tgt := 226) (by omega) (by decide) ?_
                        exact J226 S13  _ _ _ hw (lv_sub hl [] rfl) hP hD hS
  · have hw := hw.1 hq2
    exact kr S _ _ _ _ hw hP hD hS d_Co_compile_7
theorem d_Ma_refuel_0 : decode b_Ma_refuel 0 = .ok (.aload_n 0, 1) := by decide +kernel
theorem d_Ma_refuel_1 : decode b_Ma_refuel 1 = .ok (.sipush 600, 3) := by decide +kernel
theorem d_Ma_refuel_4 : decode b_Ma_refuel 4 = .ok (.putfield 46, 3) := by decide +kernel
theorem d_Ma_refuel_7 : decode b_Ma_refuel 7 = .ok (.return_, 1) := by decide +kernel
def wp_Ma_refuel (g : Gm) (post : StC → Prop) (S : StC)  : Prop :=
  post ((upd S.1 7 (600)), S.2)
set_option maxRecDepth 100000 in
set_option maxHeartbeats 4000000 in
theorem c_Ma_refuel (l : Launch) (g : Gm) (sz : Nat) (S : StC)  (post : StC → Prop) (hw : wp_Ma_refuel g post S ) : Met l y_Ma_refuel (.code y_Ma_refuel b_Ma_refuel 1 none :: w_C) (rmM 0 0) (va_Pc [.ref (g.2.2 3)] (PC g sz S)) (va_Qv post (BC g (AC g sz S)) (AC g sz S)) 0 0 (AC g sz S) := by
  refine ofC_v (by decide) (Nat.le_of_ble_eq_true rfl) (fun p e s m args below meth c Q A H locs ls hx hb hml hts hown hK hA hC hN kr hl hP hD hS => ?_)
  have hl : lv_has ls 1 [(0, .ref (g.2.2 3))] := hl
  unfold wp_Ma_refuel at hw
  refine lv_aload_n hx hb d_Ma_refuel_0 rfl (lv_at hl 0 rfl) ?_
  refine lv_sipush (v := 600) hx hb d_Ma_refuel_1 (by decide) ?_
  refine pt_C (S2 := ((upd S.1 7 (600)), S.2)) (v := .int (600)) (C := R_Ma) (F := F_Ma) (N := 9) (ci := 5) hx hb hts hin_Ma t_Ma t_Ma_ok n_Ma hown hK hP hD hS 3 rfl rfl 8 (by decide) rfl rfl rfl (Nat.le_of_ble_eq_true rfl) (sI_C_7 g _ _) k_C_114 d_Ma_refuel_4 (fun H locs hP hD hS => ?_)
  exact kr ((upd S.1 7 (600)), S.2) _ _ _ _ hw hP hD hS d_Ma_refuel_7
theorem d_Ma_burn_0 : decode b_Ma_burn 0 = .ok (.aload_n 0, 1) := by decide +kernel
theorem d_Ma_burn_1 : decode b_Ma_burn 1 = .ok (.getfield 46, 3) := by decide +kernel
theorem d_Ma_burn_4 : decode b_Ma_burn 4 = .ok (.ifCond .ne 5, 3) := by decide +kernel
theorem d_Ma_burn_7 : decode b_Ma_burn 7 = .ok (.iconst 0, 1) := by decide +kernel
theorem d_Ma_burn_8 : decode b_Ma_burn 8 = .ok (.ireturn, 1) := by decide +kernel
theorem d_Ma_burn_9 : decode b_Ma_burn 9 = .ok (.aload_n 0, 1) := by decide +kernel
theorem d_Ma_burn_10 : decode b_Ma_burn 10 = .ok (.dup, 1) := by decide +kernel
theorem d_Ma_burn_11 : decode b_Ma_burn 11 = .ok (.getfield 46, 3) := by decide +kernel
theorem d_Ma_burn_14 : decode b_Ma_burn 14 = .ok (.iconst 1, 1) := by decide +kernel
theorem d_Ma_burn_15 : decode b_Ma_burn 15 = .ok (.isub, 1) := by decide +kernel
theorem d_Ma_burn_16 : decode b_Ma_burn 16 = .ok (.putfield 46, 3) := by decide +kernel
theorem d_Ma_burn_19 : decode b_Ma_burn 19 = .ok (.iconst 1, 1) := by decide +kernel
theorem d_Ma_burn_20 : decode b_Ma_burn 20 = .ok (.ireturn, 1) := by decide +kernel
def wp_Ma_burn (g : Gm) (post : Int32 → StC → Prop) (S : StC)  : Prop :=
  (((S.1 7) = 0) → post (0) S) ∧ (¬ ((S.1 7) = 0) → post (1) ((upd S.1 7 (((S.1 7) - 1))), S.2))
set_option maxRecDepth 100000 in
set_option maxHeartbeats 4000000 in
theorem c_Ma_burn (l : Launch) (g : Gm) (sz : Nat) (S : StC)  (post : Int32 → StC → Prop) (hw : wp_Ma_burn g post S ) : Met l y_Ma_burn (.code y_Ma_burn b_Ma_burn 1 (some .boolean) :: w_C) (rmM 0 0) (va_Pc [.ref (g.2.2 3)] (PC g sz S)) (va_Qi post (BC g (AC g sz S)) (AC g sz S)) 0 0 (AC g sz S) := by
  refine ofC_z (by decide) (Nat.le_of_ble_eq_true rfl) (fun p e s m args below meth c Q A H locs ls hx hb hml hts hown hK hA hC hN kr hl hP hD hS => ?_)
  have hl : lv_has ls 1 [(0, .ref (g.2.2 3))] := hl
  unfold wp_Ma_burn at hw
  refine lv_aload_n hx hb d_Ma_burn_0 rfl (lv_at hl 0 rfl) ?_
  refine va_get (D := g.1) (ci := 5) (v := .int ((S.1 7))) (C := R_Ma) (T := F_Ma) (N := 9) hx hb hts hin_Ma hown hK hP 3 rfl rfl 8 (by decide) (hts _ k_C_114) (fun _ h9 => h9) rfl d_Ma_burn_1 ?_
  refine lv_if_ne hx hb d_Ma_burn_4 (tgt := 9) (by decide) (fun hc => ?_) (fun hc => ?_)
  · have hw := hw.2 hc
    refine lv_aload_n hx hb d_Ma_burn_9 rfl (lv_at hl 0 rfl) ?_
    refine lv_dup hx hb d_Ma_burn_10 rfl ?_
    refine va_get (D := g.1) (ci := 5) (v := .int ((S.1 7))) (C := R_Ma) (T := F_Ma) (N := 9) hx hb hts hin_Ma hown hK hP 3 rfl rfl 8 (by decide) (hts _ k_C_114) (fun _ h9 => h9) rfl d_Ma_burn_11 ?_
    refine lv_iconst (v := 1) hx hb d_Ma_burn_14 (by decide) ?_
    refine lv_isub hx hb d_Ma_burn_15 ?_
    refine pt_C (S2 := ((upd S.1 7 (((S.1 7) - 1))), S.2)) (v := .int (((S.1 7) - 1))) (C := R_Ma) (F := F_Ma) (N := 9) (ci := 5) hx hb hts hin_Ma t_Ma t_Ma_ok n_Ma hown hK hP hD hS 3 rfl rfl 8 (by decide) rfl rfl rfl (Nat.le_of_ble_eq_true rfl) (sI_C_7 g _ _) k_C_114 d_Ma_burn_16 (fun H locs hP hD hS => ?_)
    refine lv_iconst (v := 1) hx hb d_Ma_burn_19 (by decide) ?_
    exact kr (1) ((upd S.1 7 (((S.1 7) - 1))), S.2) _ _ _ _ rfl hw hP hD hS d_Ma_burn_20
  · have hw := hw.1 hc
    refine lv_iconst (v := 0) hx hb d_Ma_burn_7 (by decide) ?_
    exact kr (0) S _ _ _ _ rfl hw hP hD hS d_Ma_burn_8
theorem qC_17 {R : Room} {s : State} {args : Array Value} (hts : ∀ w ∈ w_C, w.before args s = true) (hR : (rmM 0 0).frames + 1 ≤ R.frames ∧ 8 + (1 + 11) + (rmM 0 0).locals ≤ R.locals) : CallW R s args "WordSmith$Machine" R_N 50 y_N_clear b_N_clear 1 none (.code y_N_clear b_N_clear 1 none :: w_C) (rmM 0 0) 0 0 0 := ⟨callB_of 0 hts (good_C k_C_729) rfl rfl rfl (hts _ k_C_7) (hts _ k_C_726) ⟨by decide +kernel, by decide +kernel, by decide +kernel⟩ hR, hts _ k_C_727, hts _ k_C_728⟩
theorem qC_18 {R : Room} {s : State} {args : Array Value} (hts : ∀ w ∈ w_C, w.before args s = true) (hR : (rmM 0 0).frames + 1 ≤ R.frames ∧ 8 + (1 + 11) + (rmM 0 0).locals ≤ R.locals) : CallW R s args "WordSmith$Machine" R_N 50 y_N_clear b_N_clear 1 none (.code y_N_clear b_N_clear 1 none :: w_C) (rmM 0 0) 0 0 0 := ⟨callB_of 0 hts (good_C k_C_729) rfl rfl rfl (hts _ k_C_7) (hts _ k_C_726) ⟨by decide +kernel, by decide +kernel, by decide +kernel⟩ hR, hts _ k_C_727, hts _ k_C_728⟩
theorem d_Ma_clear_0 : decode b_Ma_clear 0 = .ok (.aload_n 0, 1) := by decide +kernel
theorem d_Ma_clear_1 : decode b_Ma_clear 1 = .ok (.getfield 12, 3) := by decide +kernel
theorem d_Ma_clear_4 : decode b_Ma_clear 4 = .ok (.invokevirtual 50, 3) := by decide +kernel
theorem d_Ma_clear_7 : decode b_Ma_clear 7 = .ok (.aload_n 0, 1) := by decide +kernel
theorem d_Ma_clear_8 : decode b_Ma_clear 8 = .ok (.getfield 18, 3) := by decide +kernel
theorem d_Ma_clear_11 : decode b_Ma_clear 11 = .ok (.invokevirtual 50, 3) := by decide +kernel
theorem d_Ma_clear_14 : decode b_Ma_clear 14 = .ok (.aload_n 0, 1) := by decide +kernel
theorem d_Ma_clear_15 : decode b_Ma_clear 15 = .ok (.iconst 0, 1) := by decide +kernel
theorem d_Ma_clear_16 : decode b_Ma_clear 16 = .ok (.putfield 53, 3) := by decide +kernel
theorem d_Ma_clear_19 : decode b_Ma_clear 19 = .ok (.return_, 1) := by decide +kernel
def wp_Ma_clear (g : Gm) (post : StC → Prop) (S : StC)  : Prop :=
  wp_Nd_clear g (fun S1 : StC => (wp_Nr_clear g (fun S2 : StC => (post ((upd S2.1 5 (0)), S2.2))) S1 )) S 
set_option maxRecDepth 100000 in
set_option maxHeartbeats 4000000 in
theorem c_Ma_clear (l : Launch) (g : Gm) (sz : Nat) (S : StC)  (post : StC → Prop) (hw : wp_Ma_clear g post S ) : Met l y_Ma_clear (.code y_Ma_clear b_Ma_clear 1 none :: w_C) (rmM 1 20) (va_Pc [.ref (g.2.2 3)] (PC g sz S)) (va_Qv post (BC g (AC g sz S)) (AC g sz S)) 0 0 (AC g sz S) := by
  refine ofC_v (by decide) (Nat.le_of_ble_eq_true rfl) (fun p e s m args below meth c Q A H locs ls hx hb hml hts hown hK hA hC hN kr hl hP hD hS => ?_)
  have hl : lv_has ls 1 [(0, .ref (g.2.2 3))] := hl
  unfold wp_Ma_clear at hw
  refine lv_aload_n hx hb d_Ma_clear_0 rfl (lv_at hl 0 rfl) ?_
  refine va_get (D := g.1) (ci := 5) (v := .ref (g.2.2 4)) (C := R_Ma) (T := F_Ma) (N := 9) hx hb hts hin_Ma hown hK hP 3 rfl rfl 0 (by decide) (hts _ k_C_106) (fun _ h9 => h9) rfl d_Ma_clear_1 ?_
  refine cC_vV (As := []) (rest := []) hx hb hml hown hts hK hC hN hP hD hS hA (Nat.zero_le _) (Nat.zero_le _) hl.1 (va_recv (q0 := 4) (ci := 6) (q := (R_N, F_N, 2)) hK hP rfl rfl) (qC_17 hts ⟨Nat.le_of_ble_eq_true rfl, Nat.le_of_ble_eq_true rfl⟩) (c_Nd_clear l g H.size _  _ hw) rfl rfl (Nat.le_of_ble_eq_true rfl) d_Ma_clear_4 (fun S1 H locs hw hP hD hS => ?_)
  refine lv_aload_n hx hb d_Ma_clear_7 rfl (lv_at hl 0 rfl) ?_
  refine va_get (D := g.1) (ci := 5) (v := .ref (g.2.2 6)) (C := R_Ma) (T := F_Ma) (N := 9) hx hb hts hin_Ma hown hK hP 3 rfl rfl 1 (by decide) (hts _ k_C_107) (fun _ h9 => h9) rfl d_Ma_clear_8 ?_
  refine cC_vV (As := []) (rest := []) hx hb hml hown hts hK hC hN hP hD hS hA (Nat.zero_le _) (Nat.zero_le _) hl.1 (va_recv (q0 := 6) (ci := 6) (q := (R_N, F_N, 2)) hK hP rfl rfl) (qC_18 hts ⟨Nat.le_of_ble_eq_true rfl, Nat.le_of_ble_eq_true rfl⟩) (c_Nr_clear l g H.size _  _ hw) rfl rfl (Nat.le_of_ble_eq_true rfl) d_Ma_clear_11 (fun S2 H locs hw hP hD hS => ?_)
  refine lv_aload_n hx hb d_Ma_clear_14 rfl (lv_at hl 0 rfl) ?_
  refine lv_iconst (v := 0) hx hb d_Ma_clear_15 (by decide) ?_
  refine pt_C (S2 := ((upd S2.1 5 (0)), S2.2)) (v := .int (0)) (C := R_Ma) (F := F_Ma) (N := 9) (ci := 5) hx hb hts hin_Ma t_Ma t_Ma_ok n_Ma hown hK hP hD hS 3 rfl rfl 5 (by decide) rfl rfl rfl (Nat.le_of_ble_eq_true rfl) (sI_C_5 g _ _) k_C_111 d_Ma_clear_16 (fun H locs hP hD hS => ?_)
  exact kr ((upd S2.1 5 (0)), S2.2) _ _ _ _ hw hP hD hS d_Ma_clear_19
theorem qC_19 {R : Room} {s : State} {args : Array Value} (hts : ∀ w ∈ w_C, w.before args s = true) (hR : (rmM 0 0).frames + 1 ≤ R.frames ∧ 8 + (1 + 11) + (rmM 0 0).locals ≤ R.locals) : CallW R s args "WordSmith$Machine" R_N 56 y_N_isFull b_N_isFull 1 (some .boolean) (.code y_N_isFull b_N_isFull 1 (some .boolean) :: w_C) (rmM 0 0) 0 0 0 := ⟨callB_of 0 hts (good_C k_C_418) rfl rfl rfl (hts _ k_C_7) (hts _ k_C_415) ⟨by decide +kernel, by decide +kernel, by decide +kernel⟩ hR, hts _ k_C_416, hts _ k_C_417⟩
theorem qC_20 {R : Room} {s : State} {args : Array Value} (hts : ∀ w ∈ w_C, w.before args s = true) (hR : (rmM 0 0).frames + 1 ≤ R.frames ∧ 8 + (2 + 11) + (rmM 0 0).locals ≤ R.locals) : CallW R s args "WordSmith$Machine" R_N 60 y_N_push b_N_push 2 none (.code y_N_push b_N_push 2 none :: w_C) (rmM 0 0) 0 0 1 := ⟨callB_of 1 hts (good_C k_C_422) rfl rfl rfl (hts _ k_C_7) (hts _ k_C_419) ⟨by decide +kernel, by decide +kernel, by decide +kernel⟩ hR, hts _ k_C_420, hts _ k_C_421⟩
theorem d_Ma_putNumber_0 : decode b_Ma_putNumber 0 = .ok (.aload_n 0, 1) := by decide +kernel
theorem d_Ma_putNumber_1 : decode b_Ma_putNumber 1 = .ok (.getfield 12, 3) := by decide +kernel
theorem d_Ma_putNumber_4 : decode b_Ma_putNumber 4 = .ok (.invokevirtual 56, 3) := by decide +kernel
theorem d_Ma_putNumber_7 : decode b_Ma_putNumber 7 = .ok (.ifCond .eq 5, 3) := by decide +kernel
theorem d_Ma_putNumber_10 : decode b_Ma_putNumber 10 = .ok (.iconst 3, 1) := by decide +kernel
theorem d_Ma_putNumber_11 : decode b_Ma_putNumber 11 = .ok (.ireturn, 1) := by decide +kernel
theorem d_Ma_putNumber_12 : decode b_Ma_putNumber 12 = .ok (.aload_n 0, 1) := by decide +kernel
theorem d_Ma_putNumber_13 : decode b_Ma_putNumber 13 = .ok (.getfield 12, 3) := by decide +kernel
theorem d_Ma_putNumber_16 : decode b_Ma_putNumber 16 = .ok (.iload_n 1, 1) := by decide +kernel
theorem d_Ma_putNumber_17 : decode b_Ma_putNumber 17 = .ok (.invokevirtual 60, 3) := by decide +kernel
theorem d_Ma_putNumber_20 : decode b_Ma_putNumber 20 = .ok (.iconst 0, 1) := by decide +kernel
theorem d_Ma_putNumber_21 : decode b_Ma_putNumber 21 = .ok (.ireturn, 1) := by decide +kernel
def wp_Ma_putNumber (g : Gm) (post : Int32 → StC → Prop) (S : StC) (a0 : Int32) : Prop :=
  wp_Nd_isFull g (fun (r2 : Int32) (S1 : StC) => (((r2 = 0) → wp_Nd_push g (fun S3 : StC => (post (0) S3)) S1 (a0)) ∧ (¬ (r2 = 0) → post (3) S1))) S 
set_option maxRecDepth 100000 in
set_option maxHeartbeats 4000000 in
theorem c_Ma_putNumber (l : Launch) (g : Gm) (sz : Nat) (S : StC) (a0 : Int32) (post : Int32 → StC → Prop) (hw : wp_Ma_putNumber g post S a0) : Met l y_Ma_putNumber (.code y_Ma_putNumber b_Ma_putNumber 2 (some .int) :: w_C) (rmM 1 21) (va_Pc [.ref (g.2.2 3), .int (a0)] (PC g sz S)) (va_Qi post (BC g (AC g sz S)) (AC g sz S)) 0 0 (AC g sz S) := by
  refine ofC_i (by decide) (Nat.le_of_ble_eq_true rfl) (fun p e s m args below meth c Q A H locs ls hx hb hml hts hown hK hA hC hN kr hl hP hD hS => ?_)
  have hl : lv_has ls 2 [(0, .ref (g.2.2 3)), (1, .int (a0))] := hl
  unfold wp_Ma_putNumber at hw
  refine lv_aload_n hx hb d_Ma_putNumber_0 rfl (lv_at hl 0 rfl) ?_
  refine va_get (D := g.1) (ci := 5) (v := .ref (g.2.2 4)) (C := R_Ma) (T := F_Ma) (N := 9) hx hb hts hin_Ma hown hK hP 3 rfl rfl 0 (by decide) (hts _ k_C_106) (fun _ h9 => h9) rfl d_Ma_putNumber_1 ?_
  refine cC_iV (As := []) (rest := []) hx hb hml hown hts hK hC hN hP hD hS hA (Nat.zero_le _) (Nat.zero_le _) hl.1 (va_recv (q0 := 4) (ci := 6) (q := (R_N, F_N, 2)) hK hP rfl rfl) (qC_19 hts ⟨Nat.le_of_ble_eq_true rfl, Nat.le_of_ble_eq_true rfl⟩) (c_Nd_isFull l g H.size _  _ hw) rfl rfl (Nat.le_of_ble_eq_true rfl) d_Ma_putNumber_4 (fun r2 S1 H locs hw hP hD hS => ?_)
  refine lv_if_eq hx hb d_Ma_putNumber_7 (tgt := 12) (by decide) (fun hc => ?_) (fun hc => ?_)
  · have hw := hw.1 hc
    refine lv_aload_n hx hb d_Ma_putNumber_12 rfl (lv_at hl 0 rfl) ?_
    refine va_get (D := g.1) (ci := 5) (v := .ref (g.2.2 4)) (C := R_Ma) (T := F_Ma) (N := 9) hx hb hts hin_Ma hown hK hP 3 rfl rfl 0 (by decide) (hts _ k_C_106) (fun _ h9 => h9) rfl d_Ma_putNumber_13 ?_
    refine lv_iload_n hx hb d_Ma_putNumber_16 rfl (lv_at hl 1 rfl) ?_
    refine cC_vV (As := [.int (a0)]) (rest := []) hx hb hml hown hts hK hC hN hP hD hS hA (Nat.zero_le _) (Nat.zero_le _) hl.1 (va_recv (q0 := 4) (ci := 6) (q := (R_N, F_N, 2)) hK hP rfl rfl) (qC_20 hts ⟨Nat.le_of_ble_eq_true rfl, Nat.le_of_ble_eq_true rfl⟩) (c_Nd_push l g H.size _ (a0) _ hw) rfl rfl (Nat.le_of_ble_eq_true rfl) d_Ma_putNumber_17 (fun S3 H locs hw hP hD hS => ?_)
    refine lv_iconst (v := 0) hx hb d_Ma_putNumber_20 (by decide) ?_
    exact kr (0) S3 _ _ _ _ hw hP hD hS d_Ma_putNumber_21
  · have hw := hw.2 hc
    refine lv_iconst (v := 3) hx hb d_Ma_putNumber_10 (by decide) ?_
    exact kr (3) S1 _ _ _ _ hw hP hD hS d_Ma_putNumber_11
theorem qC_21 {R : Room} {s : State} {args : Array Value} (hts : ∀ w ∈ w_C, w.before args s = true) (hR : (rmM 0 0).frames + 1 ≤ R.frames ∧ 8 + (1 + 11) + (rmM 0 0).locals ≤ R.locals) : CallB R s args "WordSmith$Machine" 133 y_Bi_numbered b_Bi_numbered 1 (some (.object "WordSmith$BuiltIn")) (.code y_Bi_numbered b_Bi_numbered 1 (some (.object "WordSmith$BuiltIn")) :: w_C) (rmM 0 0) 0 0 1 ∧ (Cond.static y_Bi_numbered).before args s = true := ⟨callB_of 1 hts (good_C k_C_445) rfl rfl rfl (hts _ k_C_19) (hts _ k_C_590) ⟨by decide +kernel, by decide +kernel, by decide +kernel⟩ hR, hts _ k_C_444⟩
theorem qC_22 {R : Room} {s : State} {args : Array Value} (hts : ∀ w ∈ w_C, w.before args s = true) (hR : (rmM 0 0).frames + 1 ≤ R.frames ∧ 8 + (3 + 11) + (rmM 0 0).locals ≤ R.locals) : CallW R s args "WordSmith$Machine" R_Di 137 y_Di_word b_Di_word 3 (some (.object "WordSmith$MadeWord")) (.code y_Di_word b_Di_word 3 (some (.object "WordSmith$MadeWord")) :: w_C) (rmM 0 0) 0 0 1 := ⟨callB_of 1 hts (good_C k_C_466) rfl rfl rfl (hts _ k_C_9) (hts _ k_C_591) ⟨by decide +kernel, by decide +kernel, by decide +kernel⟩ hR, hts _ k_C_464, hts _ k_C_465⟩
theorem qC_23 {R : Room} {s : State} {args : Array Value} (hts : ∀ w ∈ w_C, w.before args s = true) (hR : (rmM 0 0).frames + 1 ≤ R.frames ∧ 8 + (1 + 11) + (rmM 0 0).locals ≤ R.locals) : CallW R s args "WordSmith$Machine" R_Bi 152 y_Bi_isDefining b_Bi_isDefining 1 (some .boolean) (.code y_Bi_isDefining b_Bi_isDefining 1 (some .boolean) :: w_C) (rmM 0 0) 0 0 0 := ⟨callB_of 0 hts (good_C k_C_449) rfl rfl rfl (hts _ k_C_19) (hts _ k_C_592) ⟨by decide +kernel, by decide +kernel, by decide +kernel⟩ hR, hts _ k_C_447, hts _ k_C_448⟩
theorem qC_24 {R : Room} {s : State} {args : Array Value} (hts : ∀ w ∈ w_C, w.before args s = true) (hR : (rmM 0 0).frames + 1 ≤ R.frames ∧ 8 + (1 + 11) + (rmM 0 0).locals ≤ R.locals) : CallW R s args "WordSmith$Machine" R_Bi 155 y_Bi_isCompiling b_Bi_isCompiling 1 (some .boolean) (.code y_Bi_isCompiling b_Bi_isCompiling 1 (some .boolean) :: w_C) (rmM 0 0) 0 0 0 := ⟨callB_of 0 hts (good_C k_C_526) rfl rfl rfl (hts _ k_C_19) (hts _ k_C_593) ⟨by decide +kernel, by decide +kernel, by decide +kernel⟩ hR, hts _ k_C_524, hts _ k_C_525⟩
theorem d_Ma_isExecutable_0 : decode b_Ma_isExecutable 0 = .ok (.iload_n 1, 1) := by decide +kernel
theorem d_Ma_isExecutable_1 : decode b_Ma_isExecutable 1 = .ok (.invokestatic 133, 3) := by decide +kernel
theorem d_Ma_isExecutable_4 : decode b_Ma_isExecutable 4 = .ok (.astore_n 2, 1) := by decide +kernel
theorem d_Ma_isExecutable_5 : decode b_Ma_isExecutable 5 = .ok (.aload_n 2, 1) := by decide +kernel
theorem d_Ma_isExecutable_6 : decode b_Ma_isExecutable 6 = .ok (.ifnonnull 20, 3) := by decide +kernel
theorem d_Ma_isExecutable_9 : decode b_Ma_isExecutable 9 = .ok (.aload_n 0, 1) := by decide +kernel
theorem d_Ma_isExecutable_10 : decode b_Ma_isExecutable 10 = .ok (.getfield 31, 3) := by decide +kernel
theorem d_Ma_isExecutable_13 : decode b_Ma_isExecutable 13 = .ok (.iload_n 1, 1) := by decide +kernel
theorem d_Ma_isExecutable_14 : decode b_Ma_isExecutable 14 = .ok (.invokevirtual 137, 3) := by decide +kernel
theorem d_Ma_isExecutable_17 : decode b_Ma_isExecutable 17 = .ok (.ifnull 7, 3) := by decide +kernel
theorem d_Ma_isExecutable_20 : decode b_Ma_isExecutable 20 = .ok (.iconst 1, 1) := by decide +kernel
theorem d_Ma_isExecutable_21 : decode b_Ma_isExecutable 21 = .ok (.goto 4, 3) := by decide +kernel
theorem d_Ma_isExecutable_24 : decode b_Ma_isExecutable 24 = .ok (.iconst 0, 1) := by decide +kernel
theorem d_Ma_isExecutable_25 : decode b_Ma_isExecutable 25 = .ok (.ireturn, 1) := by decide +kernel
theorem d_Ma_isExecutable_26 : decode b_Ma_isExecutable 26 = .ok (.aload_n 2, 1) := by decide +kernel
theorem d_Ma_isExecutable_27 : decode b_Ma_isExecutable 27 = .ok (.invokevirtual 152, 3) := by decide +kernel
theorem d_Ma_isExecutable_30 : decode b_Ma_isExecutable 30 = .ok (.ifCond .ne 14, 3) := by decide +kernel
theorem d_Ma_isExecutable_33 : decode b_Ma_isExecutable 33 = .ok (.aload_n 2, 1) := by decide +kernel
theorem d_Ma_isExecutable_34 : decode b_Ma_isExecutable 34 = .ok (.invokevirtual 155, 3) := by decide +kernel
theorem d_Ma_isExecutable_37 : decode b_Ma_isExecutable 37 = .ok (.ifCond .ne 7, 3) := by decide +kernel
theorem d_Ma_isExecutable_40 : decode b_Ma_isExecutable 40 = .ok (.iconst 1, 1) := by decide +kernel
theorem d_Ma_isExecutable_41 : decode b_Ma_isExecutable 41 = .ok (.goto 4, 3) := by decide +kernel
theorem d_Ma_isExecutable_44 : decode b_Ma_isExecutable 44 = .ok (.iconst 0, 1) := by decide +kernel
theorem d_Ma_isExecutable_45 : decode b_Ma_isExecutable 45 = .ok (.ireturn, 1) := by decide +kernel
def wq_Ma_isExecutable_45 (g : Gm) (post : Int32 → StC → Prop)  (S : StC) (t0 : Int32) : Prop :=
  (narrow .boolean (.int (t0)) = .int (t0)) ∧ (post (t0) S)
def wq_Ma_isExecutable_44 (g : Gm) (post : Int32 → StC → Prop)  (S : StC)  : Prop :=
  wq_Ma_isExecutable_45 g post  S (0)
def wq_Ma_isExecutable_25 (g : Gm) (post : Int32 → StC → Prop)  (S : StC) (t0 : Int32) : Prop :=
  (narrow .boolean (.int (t0)) = .int (t0)) ∧ (post (t0) S)
def wp_Ma_isExecutable (g : Gm) (post : Int32 → StC → Prop) (S : StC) (a0 : Int32) : Prop :=
  wp_Bi_numbered g (fun (r2 : Option Nat) (S1 : StC) => (((r2) = none → wp_Di_word g (fun (r6 : Option Nat) (S5 : StC) => (((r6) = none → wq_Ma_isExecutable_25 g post  S5 (0)) ∧ (∀ y7 : Nat, (r6) = some y7 → wq_Ma_isExecutable_25 g post  S5 (1)))) S1 (a0)) ∧ (∀ y3 : Nat, (r2) = some y3 → ∃ (i9 : Nat), (i9 < 52) ∧ (y3 = g.2.2 (100 + i9)) ∧ (wp_Bi_isDefining g (fun (r13 : Int32) (S12 : StC) => (((r13 = 0) → ∃ (i14 : Nat), (i14 < 52) ∧ (y3 = g.2.2 (100 + i14)) ∧ (wp_Bi_isCompiling g (fun (r18 : Int32) (S17 : StC) => (((r18 = 0) → wq_Ma_isExecutable_45 g post  S17 (1)) ∧ (¬ (r18 = 0) → wq_Ma_isExecutable_44 g post  S17 ))) S12 (y3))) ∧ (¬ (r13 = 0) → wq_Ma_isExecutable_44 g post  S12 ))) S1 (y3))))) S (a0)
set_option maxRecDepth 100000 in
set_option maxHeartbeats 4000000 in
theorem c_Ma_isExecutable (l : Launch) (g : Gm) (sz : Nat) (S : StC) (a0 : Int32) (post : Int32 → StC → Prop) (hw : wp_Ma_isExecutable g post S a0) : Met l y_Ma_isExecutable (.code y_Ma_isExecutable b_Ma_isExecutable 3 (some .boolean) :: w_C) (rmM 1 22) (va_Pc [.ref (g.2.2 3), .int (a0)] (PC g sz S)) (va_Qi post (BC g (AC g sz S)) (AC g sz S)) 0 0 (AC g sz S) := by
  refine ofC_z (by decide) (Nat.le_of_ble_eq_true rfl) (fun p e s m args below meth c Q A H locs ls hx hb hml hts hown hK hA hC hN kr hl hP hD hS => ?_)
  have hl : lv_has ls 3 [(0, .ref (g.2.2 3)), (1, .int (a0))] := hl
  unfold wp_Ma_isExecutable at hw
  have J45 : ∀ (S : StC) (t0 : Int32) (H : Heap) (locs : List Loc) (ls : Array Slot), wq_Ma_isExecutable_45 g post  S t0 → lv_has ls 3 [] → va_P g.1 classes (wC g S) H → va_D A (wC g S) → va_S A s.heap H locs → W p l e (rmM 1 22) s m args below meth c H locs 0 0 Q (F0 m 45 ls [.int (t0)]) := by
    intro S t0 H locs ls hw hl hP hD hS
    unfold wq_Ma_isExecutable_45 at hw
    obtain ⟨hnz, hw⟩ := hw
    exact kr (t0) S _ _ _ _ hnz hw hP hD hS d_Ma_isExecutable_45
  have J44 : ∀ (S : StC)  (H : Heap) (locs : List Loc) (ls : Array Slot), wq_Ma_isExecutable_44 g post  S  → lv_has ls 3 [] → va_P g.1 classes (wC g S) H → va_D A (wC g S) → va_S A s.heap H locs → W p l e (rmM 1 22) s m args below meth c H locs 0 0 Q (F0 m 44 ls []) := by
    intro S  H locs ls hw hl hP hD hS
    unfold wq_Ma_isExecutable_44 at hw
    refine lv_iconst (v := 0) hx hb d_Ma_isExecutable_44 (by decide) ?_
    exact J45 S (0) _ _ _ hw (lv_sub hl [] rfl) hP hD hS
  have J25 : ∀ (S : StC) (t0 : Int32) (H : Heap) (locs : List Loc) (ls : Array Slot), wq_Ma_isExecutable_25 g post  S t0 → lv_has ls 3 [] → va_P g.1 classes (wC g S) H → va_D A (wC g S) → va_S A s.heap H locs → W p l e (rmM 1 22) s m args below meth c H locs 0 0 Q (F0 m 25 ls [.int (t0)]) := by
    intro S t0 H locs ls hw hl hP hD hS
    unfold wq_Ma_isExecutable_25 at hw
    obtain ⟨hnz, hw⟩ := hw
    exact kr (t0) S _ _ _ _ hnz hw hP hD hS d_Ma_isExecutable_25
  refine lv_iload_n hx hb d_Ma_isExecutable_0 rfl (lv_at hl 1 rfl) ?_
  refine cC_qS (As := [.int (a0)]) (rest := []) hx hb hml hown hts hK hC hN hP hD hS hA (Nat.zero_le _) (Nat.zero_le _) hl.1  (qC_21 hts ⟨Nat.le_of_ble_eq_true rfl, Nat.le_of_ble_eq_true rfl⟩) (c_Bi_numbered l g H.size _ (a0) _ hw) rfl rfl (Nat.le_of_ble_eq_true rfl) d_Ma_isExecutable_1 (fun r2 S1 H locs hw hP hD hS => ?_)
  refine lv_astore_nq (lv' := [(2, va_rf (r2)), (0, .ref (g.2.2 3)), (1, .int (a0))]) hx hb d_Ma_isExecutable_4 rfl hl (by decide) rfl (fun ls hl => ?_)
  refine lv_aload_nq hx hb d_Ma_isExecutable_5 rfl (lv_at hl 0 rfl) ?_
  refine lv_ifnonnullq hx hb d_Ma_isExecutable_6 (tgt := 26) (by decide) (fun y3 hq4 => ?_) (fun hq4 => ?_)
  · have hw := hw.2 y3 hq4
    have hl : lv_has ls 3 [(2, .ref (y3)), (0, .ref (g.2.2 3)), (1, .int (a0))] := by rw [hq4] at hl; exact hl
    refine lv_aload_n hx hb d_Ma_isExecutable_26 rfl (lv_at hl 0 rfl) ?_
    obtain ⟨i9, hi10, he11, hw⟩ := hw
    refine cC_iV (As := []) (rest := []) hx hb hml hown hts hK hC hN hP hD hS hA (Nat.zero_le _) (Nat.zero_le _) hl.1 (erecv_C hC hS he11 hi10) (qC_23 hts ⟨Nat.le_of_ble_eq_true rfl, Nat.le_of_ble_eq_true rfl⟩) (c_Bi_isDefining l g H.size _ (y3) _ hw) rfl rfl (Nat.le_of_ble_eq_true rfl) d_Ma_isExecutable_27 (fun r13 S12 H locs hw hP hD hS => ?_)
    refine lv_if_ne hx hb d_Ma_isExecutable_30 (tgt := 44) (by decide) (fun hc => ?_) (fun hc => ?_)
    · have hw := hw.2 hc
      exact J44 S12  _ _ _ hw (lv_sub hl [] rfl) hP hD hS
    · have hw := hw.1 hc
      refine lv_aload_n hx hb d_Ma_isExecutable_33 rfl (lv_at hl 0 rfl) ?_
      obtain ⟨i14, hi15, he16, hw⟩ := hw
      refine cC_iV (As := []) (rest := []) hx hb hml hown hts hK hC hN hP hD hS hA (Nat.zero_le _) (Nat.zero_le _) hl.1 (erecv_C hC hS he16 hi15) (qC_24 hts ⟨Nat.le_of_ble_eq_true rfl, Nat.le_of_ble_eq_true rfl⟩) (c_Bi_isCompiling l g H.size _ (y3) _ hw) rfl rfl (Nat.le_of_ble_eq_true rfl) d_Ma_isExecutable_34 (fun r18 S17 H locs hw hP hD hS => ?_)
      refine lv_if_ne hx hb d_Ma_isExecutable_37 (tgt := 44) (by decide) (fun hc => ?_) (fun hc => ?_)
      · have hw := hw.2 hc
        exact J44 S17  _ _ _ hw (lv_sub hl [] rfl) hP hD hS
      · have hw := hw.1 hc
        refine lv_iconst (v := 1) hx hb d_Ma_isExecutable_40 (by decide) ?_
        refine lv_goto hx hb d_Ma_isExecutable_41 (tgt := 45) (by decide) ?_
        exact J45 S17 (1) _ _ _ hw (lv_sub hl [] rfl) hP hD hS
  · have hw := hw.1 hq4
    have hl : lv_has ls 3 [(2, .null), (0, .ref (g.2.2 3)), (1, .int (a0))] := by rw [hq4] at hl; exact hl
    refine lv_aload_n hx hb d_Ma_isExecutable_9 rfl (lv_at hl 1 rfl) ?_
    refine va_get (D := g.1) (ci := 5) (v := .ref (g.2.2 13)) (C := R_Ma) (T := F_Ma) (N := 9) hx hb hts hin_Ma hown hK hP 3 rfl rfl 3 (by decide) (hts _ k_C_109) (fun _ h9 => h9) rfl d_Ma_isExecutable_10 ?_
    refine lv_iload_n hx hb d_Ma_isExecutable_13 rfl (lv_at hl 2 rfl) ?_
    refine cC_qV (As := [.int (a0)]) (rest := []) hx hb hml hown hts hK hC hN hP hD hS hA (Nat.zero_le _) (Nat.zero_le _) hl.1 (va_recv (q0 := 13) (ci := 8) (q := (R_Di, F_Di, 2)) hK hP rfl rfl) (qC_22 hts ⟨Nat.le_of_ble_eq_true rfl, Nat.le_of_ble_eq_true rfl⟩) (c_Di_word l g H.size _ (a0) _ hw) rfl rfl (Nat.le_of_ble_eq_true rfl) d_Ma_isExecutable_14 (fun r6 S5 H locs hw hP hD hS => ?_)
    refine lv_ifnullq hx hb d_Ma_isExecutable_17 (tgt := 24) (by decide) (fun hq8 => ?_) (fun y7 hq8 => ?_)
    · have hw := hw.1 hq8
      refine lv_iconst (v := 0) hx hb d_Ma_isExecutable_24 (by decide) ?_
      exact J25 S5 (0) _ _ _ hw (lv_sub hl [] rfl) hP hD hS
    · have hw := hw.2 y7 hq8
      refine lv_iconst (v := 1) hx hb d_Ma_isExecutable_20 (by decide) ?_
      refine lv_goto hx hb d_Ma_isExecutable_21 (tgt := 25) (by decide) ?_
      exact J25 S5 (1) _ _ _ hw (lv_sub hl [] rfl) hP hD hS
theorem qC_25 {R : Room} {s : State} {args : Array Value} (hts : ∀ w ∈ w_C, w.before args s = true) (hR : (rmM 0 0).frames + 1 ≤ R.frames ∧ 8 + (2 + 11) + (rmM 0 0).locals ≤ R.locals) : CallW R s args "WordSmith$Machine" R_Ca 158 y_Ca_start b_Ca_start 2 none (.code y_Ca_start b_Ca_start 2 none :: w_C) (rmM 0 0) 0 0 1 := ⟨callB_of 1 hts (good_C k_C_600) rfl rfl rfl (hts _ k_C_10) (hts _ k_C_597) ⟨by decide +kernel, by decide +kernel, by decide +kernel⟩ hR, hts _ k_C_598, hts _ k_C_599⟩
theorem d_Ma_beginCall_0 : decode b_Ma_beginCall 0 = .ok (.aload_n 1, 1) := by decide +kernel
theorem d_Ma_beginCall_1 : decode b_Ma_beginCall 1 = .ok (.ifnonnull 5, 3) := by decide +kernel
theorem d_Ma_beginCall_4 : decode b_Ma_beginCall 4 = .ok (.iconst 5, 1) := by decide +kernel
theorem d_Ma_beginCall_5 : decode b_Ma_beginCall 5 = .ok (.ireturn, 1) := by decide +kernel
theorem d_Ma_beginCall_6 : decode b_Ma_beginCall 6 = .ok (.aload_n 0, 1) := by decide +kernel
theorem d_Ma_beginCall_7 : decode b_Ma_beginCall 7 = .ok (.getfield 53, 3) := by decide +kernel
theorem d_Ma_beginCall_10 : decode b_Ma_beginCall 10 = .ok (.bipush 16, 2) := by decide +kernel
theorem d_Ma_beginCall_12 : decode b_Ma_beginCall 12 = .ok (.if_icmp .lt 5, 3) := by decide +kernel
theorem d_Ma_beginCall_15 : decode b_Ma_beginCall 15 = .ok (.iconst 3, 1) := by decide +kernel
theorem d_Ma_beginCall_16 : decode b_Ma_beginCall 16 = .ok (.ireturn, 1) := by decide +kernel
theorem d_Ma_beginCall_17 : decode b_Ma_beginCall 17 = .ok (.aload_n 0, 1) := by decide +kernel
theorem d_Ma_beginCall_18 : decode b_Ma_beginCall 18 = .ok (.getfield 37, 3) := by decide +kernel
theorem d_Ma_beginCall_21 : decode b_Ma_beginCall 21 = .ok (.aload_n 0, 1) := by decide +kernel
theorem d_Ma_beginCall_22 : decode b_Ma_beginCall 22 = .ok (.getfield 53, 3) := by decide +kernel
theorem d_Ma_beginCall_25 : decode b_Ma_beginCall 25 = .ok (.aaload, 1) := by decide +kernel
theorem d_Ma_beginCall_26 : decode b_Ma_beginCall 26 = .ok (.aload_n 1, 1) := by decide +kernel
theorem d_Ma_beginCall_27 : decode b_Ma_beginCall 27 = .ok (.invokevirtual 158, 3) := by decide +kernel
theorem d_Ma_beginCall_30 : decode b_Ma_beginCall 30 = .ok (.aload_n 0, 1) := by decide +kernel
theorem d_Ma_beginCall_31 : decode b_Ma_beginCall 31 = .ok (.dup, 1) := by decide +kernel
theorem d_Ma_beginCall_32 : decode b_Ma_beginCall 32 = .ok (.getfield 53, 3) := by decide +kernel
theorem d_Ma_beginCall_35 : decode b_Ma_beginCall 35 = .ok (.iconst 1, 1) := by decide +kernel
theorem d_Ma_beginCall_36 : decode b_Ma_beginCall 36 = .ok (.iadd, 1) := by decide +kernel
theorem d_Ma_beginCall_37 : decode b_Ma_beginCall 37 = .ok (.putfield 53, 3) := by decide +kernel
theorem d_Ma_beginCall_40 : decode b_Ma_beginCall 40 = .ok (.iconst 0, 1) := by decide +kernel
theorem d_Ma_beginCall_41 : decode b_Ma_beginCall 41 = .ok (.ireturn, 1) := by decide +kernel
def wp_Ma_beginCall (g : Gm) (post : Int32 → StC → Prop) (S : StC) (a0 : Option Nat) : Prop :=
  ((a0) = none → post (5) S) ∧ (∀ y1 : Nat, (a0) = some y1 → (((S.1 5) < 16) → (vp_in (S.1 5) 16) ∧ (∃ (y3 : Nat), (((S.2.2.2.2.1 1) (Int32.toNatClampNeg ((S.1 5)))) = some y3) ∧ (∃ (vs5 : List Value), (y3 ∈ S.2.2.2.2.2.1) ∧ (S.2.2.2.2.2.2 y3 = .inr (9, vs5)) ∧ (wp_Ca_start g (fun S8 : StC => (post (0) ((upd S8.1 5 (((S8.1 5) + 1))), S8.2))) S (y3) (some (y1)))))) ∧ (¬ ((S.1 5) < 16) → post (3) S))
set_option maxRecDepth 100000 in
set_option maxHeartbeats 4000000 in
theorem c_Ma_beginCall (l : Launch) (g : Gm) (sz : Nat) (S : StC) (a0 : Option Nat) (post : Int32 → StC → Prop) (hw : wp_Ma_beginCall g post S a0) : Met l y_Ma_beginCall (.code y_Ma_beginCall b_Ma_beginCall 2 (some .int) :: w_C) (rmM 1 21) (va_Pc [.ref (g.2.2 3), va_rf (a0)] (PC g sz S)) (va_Qi post (BC g (AC g sz S)) (AC g sz S)) 0 0 (AC g sz S) := by
  refine ofC_i (by decide) (by cases a0 <;> exact Nat.le_of_ble_eq_true rfl) (fun p e s m args below meth c Q A H locs ls hx hb hml hts hown hK hA hC hN kr hl hP hD hS => ?_)
  have hl : lv_has ls 2 [(0, .ref (g.2.2 3)), (1, va_rf (a0))] := hl
  unfold wp_Ma_beginCall at hw
  refine lv_aload_nq hx hb d_Ma_beginCall_0 rfl (lv_at hl 1 rfl) ?_
  refine lv_ifnonnullq hx hb d_Ma_beginCall_1 (tgt := 6) (by decide) (fun y1 hq2 => ?_) (fun hq2 => ?_)
  · have hw := hw.2 y1 hq2
    have hl : lv_has ls 2 [(0, .ref (g.2.2 3)), (1, .ref (y1))] := by rw [hq2] at hl; exact hl
    refine lv_aload_n hx hb d_Ma_beginCall_6 rfl (lv_at hl 0 rfl) ?_
    refine va_get (D := g.1) (ci := 5) (v := .int ((S.1 5))) (C := R_Ma) (T := F_Ma) (N := 9) hx hb hts hin_Ma hown hK hP 3 rfl rfl 5 (by decide) (hts _ k_C_111) (fun _ h9 => h9) rfl d_Ma_beginCall_7 ?_
    refine lv_bipush (v := 16) hx hb d_Ma_beginCall_10 (by decide) ?_
    refine lv_icmp_lt hx hb d_Ma_beginCall_12 (tgt := 17) (by decide) (fun hc => ?_) (fun hc => ?_)
    · have hw := hw.1 hc
      refine lv_aload_n hx hb d_Ma_beginCall_17 rfl (lv_at hl 0 rfl) ?_
      refine va_get (D := g.1) (ci := 5) (v := .ref (g.2.2 15)) (C := R_Ma) (T := F_Ma) (N := 9) hx hb hts hin_Ma hown hK hP 3 rfl rfl 4 (by decide) (hts _ k_C_110) (fun _ h9 => h9) rfl d_Ma_beginCall_18 ?_
      refine lv_aload_n hx hb d_Ma_beginCall_21 rfl (lv_at hl 0 rfl) ?_
      refine va_get (D := g.1) (ci := 5) (v := .int ((S.1 5))) (C := R_Ma) (T := F_Ma) (N := 9) hx hb hts hin_Ma hown hK hP 3 rfl rfl 5 (by decide) (hts _ k_C_111) (fun _ h9 => h9) rfl d_Ma_beginCall_22 ?_
      obtain ⟨hi, hw⟩ := hw
      refine va_aldq (f := (S.2.2.2.2.1 1)) hx hb hK hP 15 4 rfl rfl hi d_Ma_beginCall_25 ?_
      obtain ⟨y3, hy4, hw⟩ := hw
      refine W_rf hy4 ?_
      refine lv_aload_n hx hb d_Ma_beginCall_26 rfl (lv_at hl 1 rfl) ?_
      obtain ⟨vs5, ha6, hf7, hw⟩ := hw
      refine cC_vV (As := [va_rf (some (y1))]) (rest := []) hx hb hml hown hts hK hC hN hP hD hS hA (Nat.zero_le _) (Nat.zero_le _) hl.1 (precv_C (C := R_Ca) (F := F_Ca) (N := 5) hK hP ha6 hf7 rfl) (qC_25 hts ⟨Nat.le_of_ble_eq_true rfl, Nat.le_of_ble_eq_true rfl⟩) (c_Ca_start l g H.size _ (y3) (some (y1)) _ hw) rfl rfl (Nat.le_of_ble_eq_true rfl) d_Ma_beginCall_27 (fun S8 H locs hw hP hD hS => ?_)
      refine lv_aload_n hx hb d_Ma_beginCall_30 rfl (lv_at hl 0 rfl) ?_
      refine lv_dup hx hb d_Ma_beginCall_31 rfl ?_
      refine va_get (D := g.1) (ci := 5) (v := .int ((S8.1 5))) (C := R_Ma) (T := F_Ma) (N := 9) hx hb hts hin_Ma hown hK hP 3 rfl rfl 5 (by decide) (hts _ k_C_111) (fun _ h9 => h9) rfl d_Ma_beginCall_32 ?_
      refine lv_iconst (v := 1) hx hb d_Ma_beginCall_35 (by decide) ?_
      refine lv_iadd hx hb d_Ma_beginCall_36 ?_
      refine pt_C (S2 := ((upd S8.1 5 (((S8.1 5) + 1))), S8.2)) (v := .int (((S8.1 5) + 1))) (C := R_Ma) (F := F_Ma) (N := 9) (ci := 5) hx hb hts hin_Ma t_Ma t_Ma_ok n_Ma hown hK hP hD hS 3 rfl rfl 5 (by decide) rfl rfl rfl (Nat.le_of_ble_eq_true rfl) (sI_C_5 g _ _) k_C_111 d_Ma_beginCall_37 (fun H locs hP hD hS => ?_)
      refine lv_iconst (v := 0) hx hb d_Ma_beginCall_40 (by decide) ?_
      exact kr (0) ((upd S8.1 5 (((S8.1 5) + 1))), S8.2) _ _ _ _ hw hP hD hS d_Ma_beginCall_41
    · have hw := hw.2 hc
      refine lv_iconst (v := 3) hx hb d_Ma_beginCall_15 (by decide) ?_
      exact kr (3) S _ _ _ _ hw hP hD hS d_Ma_beginCall_16
  · have hw := hw.1 hq2
    have hl : lv_has ls 2 [(0, .ref (g.2.2 3)), (1, .null)] := by rw [hq2] at hl; exact hl
    refine lv_iconst (v := 5) hx hb d_Ma_beginCall_4 (by decide) ?_
    exact kr (5) S _ _ _ _ hw hP hD hS d_Ma_beginCall_5
theorem d_Ma_openLoops_0 : decode b_Ma_openLoops 0 = .ok (.aload_n 0, 1) := by decide +kernel
theorem d_Ma_openLoops_1 : decode b_Ma_openLoops 1 = .ok (.getfield 53, 3) := by decide +kernel
theorem d_Ma_openLoops_4 : decode b_Ma_openLoops 4 = .ok (.ifCond .ne 7, 3) := by decide +kernel
theorem d_Ma_openLoops_7 : decode b_Ma_openLoops 7 = .ok (.iconst 0, 1) := by decide +kernel
theorem d_Ma_openLoops_8 : decode b_Ma_openLoops 8 = .ok (.goto 17, 3) := by decide +kernel
theorem d_Ma_openLoops_11 : decode b_Ma_openLoops 11 = .ok (.aload_n 0, 1) := by decide +kernel
theorem d_Ma_openLoops_12 : decode b_Ma_openLoops 12 = .ok (.getfield 37, 3) := by decide +kernel
theorem d_Ma_openLoops_15 : decode b_Ma_openLoops 15 = .ok (.aload_n 0, 1) := by decide +kernel
theorem d_Ma_openLoops_16 : decode b_Ma_openLoops 16 = .ok (.getfield 53, 3) := by decide +kernel
theorem d_Ma_openLoops_19 : decode b_Ma_openLoops 19 = .ok (.iconst 1, 1) := by decide +kernel
theorem d_Ma_openLoops_20 : decode b_Ma_openLoops 20 = .ok (.isub, 1) := by decide +kernel
theorem d_Ma_openLoops_21 : decode b_Ma_openLoops 21 = .ok (.aaload, 1) := by decide +kernel
theorem d_Ma_openLoops_22 : decode b_Ma_openLoops 22 = .ok (.getfield 108, 3) := by decide +kernel
theorem d_Ma_openLoops_25 : decode b_Ma_openLoops 25 = .ok (.ireturn, 1) := by decide +kernel
def wq_Ma_openLoops_25 (g : Gm) (post : Int32 → StC → Prop)  (S : StC) (t0 : Int32) : Prop :=
  post (t0) S
def wp_Ma_openLoops (g : Gm) (post : Int32 → StC → Prop) (S : StC)  : Prop :=
  (((S.1 5) = 0) → wq_Ma_openLoops_25 g post  S (0)) ∧ (¬ ((S.1 5) = 0) → (vp_in ((S.1 5) - 1) 16) ∧ (∃ (y1 : Nat), (((S.2.2.2.2.1 1) (Int32.toNatClampNeg (((S.1 5) - 1)))) = some y1) ∧ (∃ (vs3 : List Value) (z7 : Int32), (y1 ∈ S.2.2.2.2.2.1) ∧ (S.2.2.2.2.2.2 y1 = .inr (9, vs3)) ∧ (vs3[4]? = some (.int (z7))) ∧ (wq_Ma_openLoops_25 g post  S (z7)))))
set_option maxRecDepth 100000 in
set_option maxHeartbeats 4000000 in
theorem c_Ma_openLoops (l : Launch) (g : Gm) (sz : Nat) (S : StC)  (post : Int32 → StC → Prop) (hw : wp_Ma_openLoops g post S ) : Met l y_Ma_openLoops (.code y_Ma_openLoops b_Ma_openLoops 1 (some .int) :: w_C) (rmM 0 0) (va_Pc [.ref (g.2.2 3)] (PC g sz S)) (va_Qi post (BC g (AC g sz S)) (AC g sz S)) 0 0 (AC g sz S) := by
  refine ofC_i (by decide) (Nat.le_of_ble_eq_true rfl) (fun p e s m args below meth c Q A H locs ls hx hb hml hts hown hK hA hC hN kr hl hP hD hS => ?_)
  have hl : lv_has ls 1 [(0, .ref (g.2.2 3))] := hl
  unfold wp_Ma_openLoops at hw
  have J25 : ∀ (S : StC) (t0 : Int32) (H : Heap) (locs : List Loc) (ls : Array Slot), wq_Ma_openLoops_25 g post  S t0 → lv_has ls 1 [] → va_P g.1 classes (wC g S) H → va_D A (wC g S) → va_S A s.heap H locs → W p l e (rmM 0 0) s m args below meth c H locs 0 0 Q (F0 m 25 ls [.int (t0)]) := by
    intro S t0 H locs ls hw hl hP hD hS
    unfold wq_Ma_openLoops_25 at hw
    exact kr (t0) S _ _ _ _ hw hP hD hS d_Ma_openLoops_25
  refine lv_aload_n hx hb d_Ma_openLoops_0 rfl (lv_at hl 0 rfl) ?_
  refine va_get (D := g.1) (ci := 5) (v := .int ((S.1 5))) (C := R_Ma) (T := F_Ma) (N := 9) hx hb hts hin_Ma hown hK hP 3 rfl rfl 5 (by decide) (hts _ k_C_111) (fun _ h9 => h9) rfl d_Ma_openLoops_1 ?_
  refine lv_if_ne hx hb d_Ma_openLoops_4 (tgt := 11) (by decide) (fun hc => ?_) (fun hc => ?_)
  · have hw := hw.2 hc
    refine lv_aload_n hx hb d_Ma_openLoops_11 rfl (lv_at hl 0 rfl) ?_
    refine va_get (D := g.1) (ci := 5) (v := .ref (g.2.2 15)) (C := R_Ma) (T := F_Ma) (N := 9) hx hb hts hin_Ma hown hK hP 3 rfl rfl 4 (by decide) (hts _ k_C_110) (fun _ h9 => h9) rfl d_Ma_openLoops_12 ?_
    refine lv_aload_n hx hb d_Ma_openLoops_15 rfl (lv_at hl 0 rfl) ?_
    refine va_get (D := g.1) (ci := 5) (v := .int ((S.1 5))) (C := R_Ma) (T := F_Ma) (N := 9) hx hb hts hin_Ma hown hK hP 3 rfl rfl 5 (by decide) (hts _ k_C_111) (fun _ h9 => h9) rfl d_Ma_openLoops_16 ?_
    refine lv_iconst (v := 1) hx hb d_Ma_openLoops_19 (by decide) ?_
    refine lv_isub hx hb d_Ma_openLoops_20 ?_
    obtain ⟨hi, hw⟩ := hw
    refine va_aldq (f := (S.2.2.2.2.1 1)) hx hb hK hP 15 4 rfl rfl hi d_Ma_openLoops_21 ?_
    obtain ⟨y1, hy2, hw⟩ := hw
    refine W_rf hy2 ?_
    obtain ⟨vs3, z7, ha4, hf5, hv6, hw⟩ := hw
    refine pgN_C (S := S) (vs := vs3) (v := .int (z7)) (C := R_Ca) (F := F_Ca) (N := 5) hx hb hts hin_Ca hown hK hP ha4 hf5 rfl 4 (by decide) hv6 (va_Nw.use rfl (hN.1 _ kn_C_14)) d_Ma_openLoops_22 ?_
    exact J25 S (z7) _ _ _ hw (lv_sub hl [] rfl) hP hD hS
  · have hw := hw.1 hc
    refine lv_iconst (v := 0) hx hb d_Ma_openLoops_7 (by decide) ?_
    refine lv_goto hx hb d_Ma_openLoops_8 (tgt := 25) (by decide) ?_
    exact J25 S (0) _ _ _ hw (lv_sub hl [] rfl) hP hD hS
theorem qC_26 {R : Room} {s : State} {args : Array Value} (hts : ∀ w ∈ w_C, w.before args s = true) (hR : (rmM 0 0).frames + 1 ≤ R.frames ∧ 8 + (1 + 11) + (rmM 0 0).locals ≤ R.locals) : va_CU R s args "WordSmith$Machine" "WordSmith$BuiltIn" "java/lang/Enum" 172 ⟨"WordSmith$BuiltIn", "ordinal", "()I"⟩ y_En_ordinal b_En_ordinal 1 (some .int) (.code y_En_ordinal b_En_ordinal 1 (some .int) :: w_C) (rmM 0 0) 0 0 0 := va_cwU 0 hts (good_U k_C_610 k_C_480 k_C_481 k_C_482 k_C_18 k_C_483) rfl rfl rfl rfl ⟨by decide +kernel, by decide +kernel, by decide +kernel⟩ hR
theorem qC_27 {R : Room} {s : State} {args : Array Value} (hts : ∀ w ∈ w_C, w.before args s = true) (hR : (rmM 0 0).frames + 1 ≤ R.frames ∧ 8 + (4 + 11) + (rmM 0 0).locals ≤ R.locals) : CallW R s args "WordSmith$Machine" R_Me 188 y_Me_canGrow b_Me_canGrow 4 (some .boolean) (.code y_Me_canGrow b_Me_canGrow 4 (some .boolean) :: w_C) (rmM 0 0) 0 0 1 := ⟨callB_of 1 hts (good_C k_C_487) rfl rfl rfl (hts _ k_C_8) (hts _ k_C_625) ⟨by decide +kernel, by decide +kernel, by decide +kernel⟩ hR, hts _ k_C_485, hts _ k_C_486⟩
theorem qC_28 {R : Room} {s : State} {args : Array Value} (hts : ∀ w ∈ w_C, w.before args s = true) (hR : (rmM 0 0).frames + 1 ≤ R.frames ∧ 8 + (1 + 11) + (rmM 0 0).locals ≤ R.locals) : CallW R s args "WordSmith$Machine" R_N 56 y_N_isFull b_N_isFull 1 (some .boolean) (.code y_N_isFull b_N_isFull 1 (some .boolean) :: w_C) (rmM 0 0) 0 0 0 := ⟨callB_of 0 hts (good_C k_C_418) rfl rfl rfl (hts _ k_C_7) (hts _ k_C_415) ⟨by decide +kernel, by decide +kernel, by decide +kernel⟩ hR, hts _ k_C_416, hts _ k_C_417⟩
theorem d_Ma_hasRoom_0 : decode b_Ma_hasRoom 0 = .ok (.getstatic 167, 3) := by decide +kernel
theorem d_Ma_hasRoom_3 : decode b_Ma_hasRoom 3 = .ok (.aload_n 1, 1) := by decide +kernel
theorem d_Ma_hasRoom_4 : decode b_Ma_hasRoom 4 = .ok (.invokevirtual 172, 3) := by decide +kernel
theorem d_Ma_hasRoom_7 : decode b_Ma_hasRoom 7 = .ok (.iaload, 1) := by decide +kernel
theorem d_Ma_hasRoom_8 : decode b_Ma_hasRoom 8 = .ok (.tableswitch 62 11 13 #[28, 37, 46], 28) := by decide +kernel
theorem d_Ma_hasRoom_36 : decode b_Ma_hasRoom 36 = .ok (.aload_n 0, 1) := by decide +kernel
theorem d_Ma_hasRoom_37 : decode b_Ma_hasRoom 37 = .ok (.getfield 24, 3) := by decide +kernel
theorem d_Ma_hasRoom_40 : decode b_Ma_hasRoom 40 = .ok (.iconst 1, 1) := by decide +kernel
theorem d_Ma_hasRoom_41 : decode b_Ma_hasRoom 41 = .ok (.invokevirtual 188, 3) := by decide +kernel
theorem d_Ma_hasRoom_44 : decode b_Ma_hasRoom 44 = .ok (.ireturn, 1) := by decide +kernel
theorem d_Ma_hasRoom_45 : decode b_Ma_hasRoom 45 = .ok (.aload_n 0, 1) := by decide +kernel
theorem d_Ma_hasRoom_46 : decode b_Ma_hasRoom 46 = .ok (.getfield 24, 3) := by decide +kernel
theorem d_Ma_hasRoom_49 : decode b_Ma_hasRoom 49 = .ok (.iload_n 2, 1) := by decide +kernel
theorem d_Ma_hasRoom_50 : decode b_Ma_hasRoom 50 = .ok (.invokevirtual 188, 3) := by decide +kernel
theorem d_Ma_hasRoom_53 : decode b_Ma_hasRoom 53 = .ok (.ireturn, 1) := by decide +kernel
theorem d_Ma_hasRoom_54 : decode b_Ma_hasRoom 54 = .ok (.aload_n 0, 1) := by decide +kernel
theorem d_Ma_hasRoom_55 : decode b_Ma_hasRoom 55 = .ok (.getfield 18, 3) := by decide +kernel
theorem d_Ma_hasRoom_58 : decode b_Ma_hasRoom 58 = .ok (.invokevirtual 56, 3) := by decide +kernel
theorem d_Ma_hasRoom_61 : decode b_Ma_hasRoom 61 = .ok (.ifCond .ne 7, 3) := by decide +kernel
theorem d_Ma_hasRoom_64 : decode b_Ma_hasRoom 64 = .ok (.iconst 1, 1) := by decide +kernel
theorem d_Ma_hasRoom_65 : decode b_Ma_hasRoom 65 = .ok (.goto 4, 3) := by decide +kernel
theorem d_Ma_hasRoom_68 : decode b_Ma_hasRoom 68 = .ok (.iconst 0, 1) := by decide +kernel
theorem d_Ma_hasRoom_69 : decode b_Ma_hasRoom 69 = .ok (.ireturn, 1) := by decide +kernel
theorem d_Ma_hasRoom_70 : decode b_Ma_hasRoom 70 = .ok (.aload_n 0, 1) := by decide +kernel
theorem d_Ma_hasRoom_71 : decode b_Ma_hasRoom 71 = .ok (.getfield 12, 3) := by decide +kernel
theorem d_Ma_hasRoom_74 : decode b_Ma_hasRoom 74 = .ok (.getfield 96, 3) := by decide +kernel
theorem d_Ma_hasRoom_77 : decode b_Ma_hasRoom 77 = .ok (.aload_n 1, 1) := by decide +kernel
theorem d_Ma_hasRoom_78 : decode b_Ma_hasRoom 78 = .ok (.getfield 164, 3) := by decide +kernel
theorem d_Ma_hasRoom_81 : decode b_Ma_hasRoom 81 = .ok (.isub, 1) := by decide +kernel
theorem d_Ma_hasRoom_82 : decode b_Ma_hasRoom 82 = .ok (.aload_n 1, 1) := by decide +kernel
theorem d_Ma_hasRoom_83 : decode b_Ma_hasRoom 83 = .ok (.getfield 191, 3) := by decide +kernel
theorem d_Ma_hasRoom_86 : decode b_Ma_hasRoom 86 = .ok (.iadd, 1) := by decide +kernel
theorem d_Ma_hasRoom_87 : decode b_Ma_hasRoom 87 = .ok (.bipush 24, 2) := by decide +kernel
theorem d_Ma_hasRoom_89 : decode b_Ma_hasRoom 89 = .ok (.if_icmp .gt 7, 3) := by decide +kernel
theorem d_Ma_hasRoom_92 : decode b_Ma_hasRoom 92 = .ok (.iconst 1, 1) := by decide +kernel
theorem d_Ma_hasRoom_93 : decode b_Ma_hasRoom 93 = .ok (.goto 4, 3) := by decide +kernel
theorem d_Ma_hasRoom_96 : decode b_Ma_hasRoom 96 = .ok (.iconst 0, 1) := by decide +kernel
theorem d_Ma_hasRoom_97 : decode b_Ma_hasRoom 97 = .ok (.ireturn, 1) := by decide +kernel
def wq_Ma_hasRoom_97 (g : Gm) (post : Int32 → StC → Prop)  (S : StC) (t0 : Int32) : Prop :=
  (narrow .boolean (.int (t0)) = .int (t0)) ∧ (post (t0) S)
def wq_Ma_hasRoom_69 (g : Gm) (post : Int32 → StC → Prop)  (S : StC) (t0 : Int32) : Prop :=
  (narrow .boolean (.int (t0)) = .int (t0)) ∧ (post (t0) S)
def wp_Ma_hasRoom (g : Gm) (post : Int32 → StC → Prop) (S : StC) (a0 : Nat) (a1 : Int32) : Prop :=
  ∃ (i1 : Nat), (i1 < 52) ∧ (a0 = g.2.2 (100 + i1)) ∧ (wp_En_ordinal g (fun (r5 : Int32) (S4 : StC) => ((vp_in r5 52) ∧ ((((swE.getD (Int32.toNatClampNeg (r5)) 0) = 11) → wp_Me_canGrow g (fun (r8 : Int32) (S7 : StC) => ((narrow .boolean (.int (r8)) = .int (r8)) ∧ (post (r8) S7))) S4 (1)) ∧ (¬ ((swE.getD (Int32.toNatClampNeg (r5)) 0) = 11) → (((swE.getD (Int32.toNatClampNeg (r5)) 0) = 12) → wp_Me_canGrow g (fun (r11 : Int32) (S10 : StC) => ((narrow .boolean (.int (r11)) = .int (r11)) ∧ (post (r11) S10))) S4 (a1)) ∧ (¬ ((swE.getD (Int32.toNatClampNeg (r5)) 0) = 12) → (((swE.getD (Int32.toNatClampNeg (r5)) 0) = 13) → wp_Nr_isFull g (fun (r14 : Int32) (S13 : StC) => (((r14 = 0) → wq_Ma_hasRoom_69 g post  S13 (1)) ∧ (¬ (r14 = 0) → wq_Ma_hasRoom_69 g post  S13 (0)))) S4 ) ∧ (¬ ((swE.getD (Int32.toNatClampNeg (r5)) 0) = 13) → ∃ (i15 : Nat), (i15 < 52) ∧ (a0 = g.2.2 (100 + i15)) ∧ (∃ (i18 : Nat), (i18 < 52) ∧ (a0 = g.2.2 (100 + i18)) ∧ (((24 < (((S4.1 8) - (takE.getD i15 0)) + (putE.getD i18 0))) → wq_Ma_hasRoom_97 g post  S4 (0)) ∧ (¬ (24 < (((S4.1 8) - (takE.getD i15 0)) + (putE.getD i18 0))) → wq_Ma_hasRoom_97 g post  S4 (1)))))))))) S (a0))
set_option maxRecDepth 100000 in
set_option maxHeartbeats 4000000 in
theorem c_Ma_hasRoom (l : Launch) (g : Gm) (sz : Nat) (S : StC) (a0 : Nat) (a1 : Int32) (post : Int32 → StC → Prop) (hw : wp_Ma_hasRoom g post S a0 a1) : Met l y_Ma_hasRoom (.code y_Ma_hasRoom b_Ma_hasRoom 3 (some .boolean) :: w_C) (rmM 1 23) (va_Pc [.ref (g.2.2 3), .ref (a0), .int (a1)] (PC g sz S)) (va_Qi post (BC g (AC g sz S)) (AC g sz S)) 0 0 (AC g sz S) := by
  refine ofC_z (by decide) (Nat.le_of_ble_eq_true rfl) (fun p e s m args below meth c Q A H locs ls hx hb hml hts hown hK hA hC hN kr hl hP hD hS => ?_)
  have hl : lv_has ls 3 [(0, .ref (g.2.2 3)), (1, .ref (a0)), (2, .int (a1))] := hl
  unfold wp_Ma_hasRoom at hw
  have J97 : ∀ (S : StC) (t0 : Int32) (H : Heap) (locs : List Loc) (ls : Array Slot), wq_Ma_hasRoom_97 g post  S t0 → lv_has ls 3 [] → va_P g.1 classes (wC g S) H → va_D A (wC g S) → va_S A s.heap H locs → W p l e (rmM 1 23) s m args below meth c H locs 0 0 Q (F0 m 97 ls [.int (t0)]) := by
    intro S t0 H locs ls hw hl hP hD hS
    unfold wq_Ma_hasRoom_97 at hw
    obtain ⟨hnz, hw⟩ := hw
    exact kr (t0) S _ _ _ _ hnz hw hP hD hS d_Ma_hasRoom_97
  have J69 : ∀ (S : StC) (t0 : Int32) (H : Heap) (locs : List Loc) (ls : Array Slot), wq_Ma_hasRoom_69 g post  S t0 → lv_has ls 3 [] → va_P g.1 classes (wC g S) H → va_D A (wC g S) → va_S A s.heap H locs → W p l e (rmM 1 23) s m args below meth c H locs 0 0 Q (F0 m 69 ls [.int (t0)]) := by
    intro S t0 H locs ls hw hl hP hD hS
    unfold wq_Ma_hasRoom_69 at hw
    obtain ⟨hnz, hw⟩ := hw
    exact kr (t0) S _ _ _ _ hnz hw hP hD hS d_Ma_hasRoom_69
  refine va_gets (C := "WordSmith$1") (n := "$SwitchMap$WordSmith$BuiltIn") (d := "[I") (v := .ref (g.2.2 90)) hx hb hC.1.2.1 hS hown (hts _ k_C_609) (fun _ h9 => h9) d_Ma_hasRoom_0 ?_
  refine lv_aload_n hx hb d_Ma_hasRoom_3 rfl (lv_at hl 1 rfl) ?_
  obtain ⟨i1, hi2, he3, hw⟩ := hw
  refine cC_iU (As := []) (rest := [.ref (g.2.2 90)]) hx hb hml hown hts hK hC hN hP hD hS hA (Nat.zero_le _) (Nat.zero_le _) hl.1 (erecv_C hC hS he3 hi2) (qC_26 hts ⟨Nat.le_of_ble_eq_true rfl, Nat.le_of_ble_eq_true rfl⟩) (c_En_ordinal l g H.size _ (a0) _ hw) rfl rfl (Nat.le_of_ble_eq_true rfl) d_Ma_hasRoom_4 (fun r5 S4 H locs hw hP hD hS => ?_)
  obtain ⟨hi, hw⟩ := hw
  refine va_ti (v := .int (swE.getD (Int32.toNatClampNeg (r5)) 0)) hx hb hC.1.2.2.1 hS hi rfl d_Ma_hasRoom_7 ?_
  by_cases hk6 : (swE.getD (Int32.toNatClampNeg (r5)) 0) = 11
  · have hw := hw.1 hk6
    refine sw_in hx hb d_Ma_hasRoom_8 hk6 (tgt := 36) (off := 28) (by decide) (by decide) rfl (by decide) ?_
    refine lv_aload_n hx hb d_Ma_hasRoom_36 rfl (lv_at hl 0 rfl) ?_
    refine va_get (D := g.1) (ci := 5) (v := .ref (g.2.2 8)) (C := R_Ma) (T := F_Ma) (N := 9) hx hb hts hin_Ma hown hK hP 3 rfl rfl 2 (by decide) (hts _ k_C_108) (fun _ h9 => h9) rfl d_Ma_hasRoom_37 ?_
    refine lv_iconst (v := 1) hx hb d_Ma_hasRoom_40 (by decide) ?_
    refine cC_iV (As := [.int (1)]) (rest := []) hx hb hml hown hts hK hC hN hP hD hS hA (Nat.zero_le _) (Nat.zero_le _) hl.1 (va_recv (q0 := 8) (ci := 7) (q := (R_Me, F_Me, 6)) hK hP rfl rfl) (qC_27 hts ⟨Nat.le_of_ble_eq_true rfl, Nat.le_of_ble_eq_true rfl⟩) (c_Me_canGrow l g H.size _ (1) _ hw) rfl rfl (Nat.le_of_ble_eq_true rfl) d_Ma_hasRoom_41 (fun r8 S7 H locs hw hP hD hS => ?_)
    obtain ⟨hnz, hw⟩ := hw
    exact kr (r8) S7 _ _ _ _ hnz hw hP hD hS d_Ma_hasRoom_44
  · have hw := hw.2 hk6
    by_cases hk9 : (swE.getD (Int32.toNatClampNeg (r5)) 0) = 12
    · have hw := hw.1 hk9
      refine sw_in hx hb d_Ma_hasRoom_8 hk9 (tgt := 45) (off := 37) (by decide) (by decide) rfl (by decide) ?_
      refine lv_aload_n hx hb d_Ma_hasRoom_45 rfl (lv_at hl 0 rfl) ?_
      refine va_get (D := g.1) (ci := 5) (v := .ref (g.2.2 8)) (C := R_Ma) (T := F_Ma) (N := 9) hx hb hts hin_Ma hown hK hP 3 rfl rfl 2 (by decide) (hts _ k_C_108) (fun _ h9 => h9) rfl d_Ma_hasRoom_46 ?_
      refine lv_iload_n hx hb d_Ma_hasRoom_49 rfl (lv_at hl 2 rfl) ?_
      refine cC_iV (As := [.int (a1)]) (rest := []) hx hb hml hown hts hK hC hN hP hD hS hA (Nat.zero_le _) (Nat.zero_le _) hl.1 (va_recv (q0 := 8) (ci := 7) (q := (R_Me, F_Me, 6)) hK hP rfl rfl) (qC_27 hts ⟨Nat.le_of_ble_eq_true rfl, Nat.le_of_ble_eq_true rfl⟩) (c_Me_canGrow l g H.size _ (a1) _ hw) rfl rfl (Nat.le_of_ble_eq_true rfl) d_Ma_hasRoom_50 (fun r11 S10 H locs hw hP hD hS => ?_)
      obtain ⟨hnz, hw⟩ := hw
      exact kr (r11) S10 _ _ _ _ hnz hw hP hD hS d_Ma_hasRoom_53
    · have hw := hw.2 hk9
      by_cases hk12 : (swE.getD (Int32.toNatClampNeg (r5)) 0) = 13
      · have hw := hw.1 hk12
        refine sw_in hx hb d_Ma_hasRoom_8 hk12 (tgt := 54) (off := 46) (by decide) (by decide) rfl (by decide) ?_
        refine lv_aload_n hx hb d_Ma_hasRoom_54 rfl (lv_at hl 0 rfl) ?_
        refine va_get (D := g.1) (ci := 5) (v := .ref (g.2.2 6)) (C := R_Ma) (T := F_Ma) (N := 9) hx hb hts hin_Ma hown hK hP 3 rfl rfl 1 (by decide) (hts _ k_C_107) (fun _ h9 => h9) rfl d_Ma_hasRoom_55 ?_
        refine cC_iV (As := []) (rest := []) hx hb hml hown hts hK hC hN hP hD hS hA (Nat.zero_le _) (Nat.zero_le _) hl.1 (va_recv (q0 := 6) (ci := 6) (q := (R_N, F_N, 2)) hK hP rfl rfl) (qC_28 hts ⟨Nat.le_of_ble_eq_true rfl, Nat.le_of_ble_eq_true rfl⟩) (c_Nr_isFull l g H.size _  _ hw) rfl rfl (Nat.le_of_ble_eq_true rfl) d_Ma_hasRoom_58 (fun r14 S13 H locs hw hP hD hS => ?_)
        refine lv_if_ne hx hb d_Ma_hasRoom_61 (tgt := 68) (by decide) (fun hc => ?_) (fun hc => ?_)
        · have hw := hw.2 hc
          refine lv_iconst (v := 0) hx hb d_Ma_hasRoom_68 (by decide) ?_
          exact J69 S13 (0) _ _ _ hw (lv_sub hl [] rfl) hP hD hS
        · have hw := hw.1 hc
          refine lv_iconst (v := 1) hx hb d_Ma_hasRoom_64 (by decide) ?_
          refine lv_goto hx hb d_Ma_hasRoom_65 (tgt := 69) (by decide) ?_
          exact J69 S13 (1) _ _ _ hw (lv_sub hl [] rfl) hP hD hS
      · have hw := hw.2 hk12
        have n0 := lv_neT hk6 (by decide : (11 : Int32).toInt = 11)
        have n1 := lv_neT hk9 (by decide : (12 : Int32).toInt = 12)
        have n2 := lv_neT hk12 (by decide : (13 : Int32).toInt = 13)
        refine lv_tableOut hx hb d_Ma_hasRoom_8 (tgt := 70) (by omega) (by decide) ?_
        refine lv_aload_n hx hb d_Ma_hasRoom_70 rfl (lv_at hl 0 rfl) ?_
        refine va_get (D := g.1) (ci := 5) (v := .ref (g.2.2 4)) (C := R_Ma) (T := F_Ma) (N := 9) hx hb hts hin_Ma hown hK hP 3 rfl rfl 0 (by decide) (hts _ k_C_106) (fun _ h9 => h9) rfl d_Ma_hasRoom_71 ?_
        refine va_getN (D := g.1) (ci := 6) (v := .int ((S4.1 8))) (C := R_N) (T := F_N) (N := 2) hx hb hts hin_N hown hK hP 4 rfl rfl 1 (by decide) (va_Nw.use rfl (hN.1 _ kn_C_3)) (fun _ h9 => h9) rfl d_Ma_hasRoom_74 ?_
        refine lv_aload_n hx hb d_Ma_hasRoom_77 rfl (lv_at hl 1 rfl) ?_
        obtain ⟨i15, hi16, he17, hw⟩ := hw
        refine ge_C (i := i15) (q := fe_takes) hx hb hts hC hS hown he17 hi16 fe_takes_in k_C_777 d_Ma_hasRoom_78 ?_
        refine lv_isub hx hb d_Ma_hasRoom_81 ?_
        refine lv_aload_n hx hb d_Ma_hasRoom_82 rfl (lv_at hl 1 rfl) ?_
        obtain ⟨i18, hi19, he20, hw⟩ := hw
        refine ge_C (i := i18) (q := fe_puts) hx hb hts hC hS hown he20 hi19 fe_puts_in k_C_778 d_Ma_hasRoom_83 ?_
        refine lv_iadd hx hb d_Ma_hasRoom_86 ?_
        refine lv_bipush (v := 24) hx hb d_Ma_hasRoom_87 (by decide) ?_
        refine lv_icmp_gt hx hb d_Ma_hasRoom_89 (tgt := 96) (by decide) (fun hc => ?_) (fun hc => ?_)
        · have hw := hw.1 hc
          refine lv_iconst (v := 0) hx hb d_Ma_hasRoom_96 (by decide) ?_
          exact J97 S4 (0) _ _ _ hw (lv_sub hl [] rfl) hP hD hS
        · have hw := hw.2 hc
          refine lv_iconst (v := 1) hx hb d_Ma_hasRoom_92 (by decide) ?_
          refine lv_goto hx hb d_Ma_hasRoom_93 (tgt := 97) (by decide) ?_
          exact J97 S4 (1) _ _ _ hw (lv_sub hl [] rfl) hP hD hS
theorem qC_29 {R : Room} {s : State} {args : Array Value} (hts : ∀ w ∈ w_C, w.before args s = true) (hR : (rmM 1 23).frames + 1 ≤ R.frames ∧ 8 + (3 + 11) + (rmM 1 23).locals ≤ R.locals) : CallW R s args "WordSmith$Machine" R_Ma 184 y_Ma_hasRoom b_Ma_hasRoom 3 (some .boolean) (.code y_Ma_hasRoom b_Ma_hasRoom 3 (some .boolean) :: w_C) (rmM 1 23) 0 0 2 := ⟨callB_of 2 hts (good_C k_C_624) rfl rfl rfl (hts _ k_C_6) (hts _ k_C_622) ⟨by decide +kernel, by decide +kernel, by decide +kernel⟩ hR, hts _ k_C_623, hts _ k_C_798⟩
theorem qC_30 {R : Room} {s : State} {args : Array Value} (hts : ∀ w ∈ w_C, w.before args s = true) (hR : (rmM 0 0).frames + 1 ≤ R.frames ∧ 8 + (2 + 11) + (rmM 0 0).locals ≤ R.locals) : CallW R s args "WordSmith$Machine" R_N 111 y_N_fromTop b_N_fromTop 2 (some .int) (.code y_N_fromTop b_N_fromTop 2 (some .int) :: w_C) (rmM 0 0) 0 0 1 := ⟨callB_of 1 hts (good_C k_C_608) rfl rfl rfl (hts _ k_C_7) (hts _ k_C_605) ⟨by decide +kernel, by decide +kernel, by decide +kernel⟩ hR, hts _ k_C_606, hts _ k_C_607⟩
theorem qC_31 {R : Room} {s : State} {args : Array Value} (hts : ∀ w ∈ w_C, w.before args s = true) (hR : (rmM 0 0).frames + 1 ≤ R.frames ∧ 8 + (2 + 11) + (rmM 0 0).locals ≤ R.locals) : CallW R s args "WordSmith$Machine" R_Me 175 y_Me_has b_Me_has 2 (some .boolean) (.code y_Me_has b_Me_has 2 (some .boolean) :: w_C) (rmM 0 0) 0 0 1 := ⟨callB_of 1 hts (good_C k_C_614) rfl rfl rfl (hts _ k_C_8) (hts _ k_C_611) ⟨by decide +kernel, by decide +kernel, by decide +kernel⟩ hR, hts _ k_C_612, hts _ k_C_613⟩
theorem qC_32 {R : Room} {s : State} {args : Array Value} (hts : ∀ w ∈ w_C, w.before args s = true) (hR : (rmM 0 0).frames + 1 ≤ R.frames ∧ 8 + (2 + 11) + (rmM 0 0).locals ≤ R.locals) : CallW R s args "WordSmith$Machine" R_Me 178 y_Me_hasBlock b_Me_hasBlock 2 (some .boolean) (.code y_Me_hasBlock b_Me_hasBlock 2 (some .boolean) :: w_C) (rmM 0 0) 0 0 1 := ⟨callB_of 1 hts (good_C k_C_618) rfl rfl rfl (hts _ k_C_8) (hts _ k_C_615) ⟨by decide +kernel, by decide +kernel, by decide +kernel⟩ hR, hts _ k_C_616, hts _ k_C_617⟩
theorem qC_33 {R : Room} {s : State} {args : Array Value} (hts : ∀ w ∈ w_C, w.before args s = true) (hR : (rmM 0 0).frames + 1 ≤ R.frames ∧ 8 + (1 + 11) + (rmM 0 0).locals ≤ R.locals) : CallW R s args "WordSmith$Machine" R_Ma 181 y_Ma_openLoops b_Ma_openLoops 1 (some .int) (.code y_Ma_openLoops b_Ma_openLoops 1 (some .int) :: w_C) (rmM 0 0) 0 0 0 := ⟨callB_of 0 hts (good_C k_C_621) rfl rfl rfl (hts _ k_C_6) (hts _ k_C_619) ⟨by decide +kernel, by decide +kernel, by decide +kernel⟩ hR, hts _ k_C_620, hts _ k_C_797⟩
theorem d_Ma_lack_0 : decode b_Ma_lack 0 = .ok (.aload_n 1, 1) := by decide +kernel
theorem d_Ma_lack_1 : decode b_Ma_lack 1 = .ok (.getstatic 161, 3) := by decide +kernel
theorem d_Ma_lack_4 : decode b_Ma_lack 4 = .ok (.if_acmp .ne 13, 3) := by decide +kernel
theorem d_Ma_lack_7 : decode b_Ma_lack 7 = .ok (.aload_n 0, 1) := by decide +kernel
theorem d_Ma_lack_8 : decode b_Ma_lack 8 = .ok (.getfield 53, 3) := by decide +kernel
theorem d_Ma_lack_11 : decode b_Ma_lack 11 = .ok (.ifCond .ne 6, 3) := by decide +kernel
theorem d_Ma_lack_14 : decode b_Ma_lack 14 = .ok (.bipush 6, 2) := by decide +kernel
theorem d_Ma_lack_16 : decode b_Ma_lack 16 = .ok (.ireturn, 1) := by decide +kernel
theorem d_Ma_lack_17 : decode b_Ma_lack 17 = .ok (.aload_n 0, 1) := by decide +kernel
theorem d_Ma_lack_18 : decode b_Ma_lack 18 = .ok (.getfield 12, 3) := by decide +kernel
theorem d_Ma_lack_21 : decode b_Ma_lack 21 = .ok (.getfield 96, 3) := by decide +kernel
theorem d_Ma_lack_24 : decode b_Ma_lack 24 = .ok (.aload_n 1, 1) := by decide +kernel
theorem d_Ma_lack_25 : decode b_Ma_lack 25 = .ok (.getfield 164, 3) := by decide +kernel
theorem d_Ma_lack_28 : decode b_Ma_lack 28 = .ok (.if_icmp .ge 5, 3) := by decide +kernel
theorem d_Ma_lack_31 : decode b_Ma_lack 31 = .ok (.iconst 2, 1) := by decide +kernel
theorem d_Ma_lack_32 : decode b_Ma_lack 32 = .ok (.ireturn, 1) := by decide +kernel
theorem d_Ma_lack_33 : decode b_Ma_lack 33 = .ok (.aload_n 0, 1) := by decide +kernel
theorem d_Ma_lack_34 : decode b_Ma_lack 34 = .ok (.getfield 12, 3) := by decide +kernel
theorem d_Ma_lack_37 : decode b_Ma_lack 37 = .ok (.iconst 0, 1) := by decide +kernel
theorem d_Ma_lack_38 : decode b_Ma_lack 38 = .ok (.invokevirtual 111, 3) := by decide +kernel
theorem d_Ma_lack_41 : decode b_Ma_lack 41 = .ok (.istore_n 2, 1) := by decide +kernel
theorem d_Ma_lack_42 : decode b_Ma_lack 42 = .ok (.iconst 0, 1) := by decide +kernel
theorem d_Ma_lack_43 : decode b_Ma_lack 43 = .ok (.istore_n 3, 1) := by decide +kernel
theorem d_Ma_lack_44 : decode b_Ma_lack 44 = .ok (.getstatic 167, 3) := by decide +kernel
theorem d_Ma_lack_47 : decode b_Ma_lack 47 = .ok (.aload_n 1, 1) := by decide +kernel
theorem d_Ma_lack_48 : decode b_Ma_lack 48 = .ok (.invokevirtual 172, 3) := by decide +kernel
theorem d_Ma_lack_51 : decode b_Ma_lack 51 = .ok (.iaload, 1) := by decide +kernel
theorem d_Ma_lack_52 : decode b_Ma_lack 52 = .ok (.tableswitch 164 1 10 #[56, 56, 75, 75, 88, 88, 88, 108, 128, 146], 56) := by decide +kernel
theorem d_Ma_lack_108 : decode b_Ma_lack 108 = .ok (.aload_n 0, 1) := by decide +kernel
theorem d_Ma_lack_109 : decode b_Ma_lack 109 = .ok (.getfield 18, 3) := by decide +kernel
theorem d_Ma_lack_112 : decode b_Ma_lack 112 = .ok (.getfield 96, 3) := by decide +kernel
theorem d_Ma_lack_115 : decode b_Ma_lack 115 = .ok (.ifCond .ne 7, 3) := by decide +kernel
theorem d_Ma_lack_118 : decode b_Ma_lack 118 = .ok (.iconst 2, 1) := by decide +kernel
theorem d_Ma_lack_119 : decode b_Ma_lack 119 = .ok (.goto 4, 3) := by decide +kernel
theorem d_Ma_lack_122 : decode b_Ma_lack 122 = .ok (.iconst 0, 1) := by decide +kernel
theorem d_Ma_lack_123 : decode b_Ma_lack 123 = .ok (.istore_n 3, 1) := by decide +kernel
theorem d_Ma_lack_124 : decode b_Ma_lack 124 = .ok (.goto 92, 3) := by decide +kernel
theorem d_Ma_lack_127 : decode b_Ma_lack 127 = .ok (.iload_n 2, 1) := by decide +kernel
theorem d_Ma_lack_128 : decode b_Ma_lack 128 = .ok (.ifCond .ne 7, 3) := by decide +kernel
theorem d_Ma_lack_131 : decode b_Ma_lack 131 = .ok (.iconst 4, 1) := by decide +kernel
theorem d_Ma_lack_132 : decode b_Ma_lack 132 = .ok (.goto 4, 3) := by decide +kernel
theorem d_Ma_lack_135 : decode b_Ma_lack 135 = .ok (.iconst 0, 1) := by decide +kernel
theorem d_Ma_lack_136 : decode b_Ma_lack 136 = .ok (.istore_n 3, 1) := by decide +kernel
theorem d_Ma_lack_137 : decode b_Ma_lack 137 = .ok (.goto 79, 3) := by decide +kernel
theorem d_Ma_lack_140 : decode b_Ma_lack 140 = .ok (.aload_n 0, 1) := by decide +kernel
theorem d_Ma_lack_141 : decode b_Ma_lack 141 = .ok (.getfield 24, 3) := by decide +kernel
theorem d_Ma_lack_144 : decode b_Ma_lack 144 = .ok (.iload_n 2, 1) := by decide +kernel
theorem d_Ma_lack_145 : decode b_Ma_lack 145 = .ok (.invokevirtual 175, 3) := by decide +kernel
theorem d_Ma_lack_148 : decode b_Ma_lack 148 = .ok (.ifCond .eq 7, 3) := by decide +kernel
theorem d_Ma_lack_151 : decode b_Ma_lack 151 = .ok (.iconst 0, 1) := by decide +kernel
theorem d_Ma_lack_152 : decode b_Ma_lack 152 = .ok (.goto 4, 3) := by decide +kernel
theorem d_Ma_lack_155 : decode b_Ma_lack 155 = .ok (.iconst 5, 1) := by decide +kernel
theorem d_Ma_lack_156 : decode b_Ma_lack 156 = .ok (.istore_n 3, 1) := by decide +kernel
theorem d_Ma_lack_157 : decode b_Ma_lack 157 = .ok (.goto 59, 3) := by decide +kernel
theorem d_Ma_lack_160 : decode b_Ma_lack 160 = .ok (.aload_n 0, 1) := by decide +kernel
theorem d_Ma_lack_161 : decode b_Ma_lack 161 = .ok (.getfield 24, 3) := by decide +kernel
theorem d_Ma_lack_164 : decode b_Ma_lack 164 = .ok (.iload_n 2, 1) := by decide +kernel
theorem d_Ma_lack_165 : decode b_Ma_lack 165 = .ok (.invokevirtual 178, 3) := by decide +kernel
theorem d_Ma_lack_168 : decode b_Ma_lack 168 = .ok (.ifCond .eq 7, 3) := by decide +kernel
theorem d_Ma_lack_171 : decode b_Ma_lack 171 = .ok (.iconst 0, 1) := by decide +kernel
theorem d_Ma_lack_172 : decode b_Ma_lack 172 = .ok (.goto 4, 3) := by decide +kernel
theorem d_Ma_lack_175 : decode b_Ma_lack 175 = .ok (.iconst 5, 1) := by decide +kernel
theorem d_Ma_lack_176 : decode b_Ma_lack 176 = .ok (.istore_n 3, 1) := by decide +kernel
theorem d_Ma_lack_177 : decode b_Ma_lack 177 = .ok (.goto 39, 3) := by decide +kernel
theorem d_Ma_lack_180 : decode b_Ma_lack 180 = .ok (.aload_n 0, 1) := by decide +kernel
theorem d_Ma_lack_181 : decode b_Ma_lack 181 = .ok (.invokevirtual 181, 3) := by decide +kernel
theorem d_Ma_lack_184 : decode b_Ma_lack 184 = .ok (.iconst 1, 1) := by decide +kernel
theorem d_Ma_lack_185 : decode b_Ma_lack 185 = .ok (.if_icmp .ge 8, 3) := by decide +kernel
theorem d_Ma_lack_188 : decode b_Ma_lack 188 = .ok (.bipush 8, 2) := by decide +kernel
theorem d_Ma_lack_190 : decode b_Ma_lack 190 = .ok (.goto 4, 3) := by decide +kernel
theorem d_Ma_lack_193 : decode b_Ma_lack 193 = .ok (.iconst 0, 1) := by decide +kernel
theorem d_Ma_lack_194 : decode b_Ma_lack 194 = .ok (.istore_n 3, 1) := by decide +kernel
theorem d_Ma_lack_195 : decode b_Ma_lack 195 = .ok (.goto 21, 3) := by decide +kernel
theorem d_Ma_lack_198 : decode b_Ma_lack 198 = .ok (.aload_n 0, 1) := by decide +kernel
theorem d_Ma_lack_199 : decode b_Ma_lack 199 = .ok (.invokevirtual 181, 3) := by decide +kernel
theorem d_Ma_lack_202 : decode b_Ma_lack 202 = .ok (.iconst 2, 1) := by decide +kernel
theorem d_Ma_lack_203 : decode b_Ma_lack 203 = .ok (.if_icmp .ge 8, 3) := by decide +kernel
theorem d_Ma_lack_206 : decode b_Ma_lack 206 = .ok (.bipush 8, 2) := by decide +kernel
theorem d_Ma_lack_208 : decode b_Ma_lack 208 = .ok (.goto 4, 3) := by decide +kernel
theorem d_Ma_lack_211 : decode b_Ma_lack 211 = .ok (.iconst 0, 1) := by decide +kernel
theorem d_Ma_lack_212 : decode b_Ma_lack 212 = .ok (.istore_n 3, 1) := by decide +kernel
theorem d_Ma_lack_213 : decode b_Ma_lack 213 = .ok (.goto 3, 3) := by decide +kernel
theorem d_Ma_lack_216 : decode b_Ma_lack 216 = .ok (.iload_n 3, 1) := by decide +kernel
theorem d_Ma_lack_217 : decode b_Ma_lack 217 = .ok (.ifCond .eq 5, 3) := by decide +kernel
theorem d_Ma_lack_220 : decode b_Ma_lack 220 = .ok (.iload_n 3, 1) := by decide +kernel
theorem d_Ma_lack_221 : decode b_Ma_lack 221 = .ok (.ireturn, 1) := by decide +kernel
theorem d_Ma_lack_222 : decode b_Ma_lack 222 = .ok (.aload_n 0, 1) := by decide +kernel
theorem d_Ma_lack_223 : decode b_Ma_lack 223 = .ok (.aload_n 1, 1) := by decide +kernel
theorem d_Ma_lack_224 : decode b_Ma_lack 224 = .ok (.iload_n 2, 1) := by decide +kernel
theorem d_Ma_lack_225 : decode b_Ma_lack 225 = .ok (.invokevirtual 184, 3) := by decide +kernel
theorem d_Ma_lack_228 : decode b_Ma_lack 228 = .ok (.ifCond .eq 7, 3) := by decide +kernel
theorem d_Ma_lack_231 : decode b_Ma_lack 231 = .ok (.iconst 0, 1) := by decide +kernel
theorem d_Ma_lack_232 : decode b_Ma_lack 232 = .ok (.goto 4, 3) := by decide +kernel
theorem d_Ma_lack_235 : decode b_Ma_lack 235 = .ok (.iconst 3, 1) := by decide +kernel
theorem d_Ma_lack_236 : decode b_Ma_lack 236 = .ok (.ireturn, 1) := by decide +kernel
def wq_Ma_lack_236 (g : Gm) (post : Int32 → StC → Prop)  (S : StC) (t0 : Int32) : Prop :=
  post (t0) S
def wq_Ma_lack_216 (g : Gm) (post : Int32 → StC → Prop)  (S : StC) (x1 : Nat) (x2 : Int32) (x3 : Int32) : Prop :=
  ((x3 = 0) → wp_Ma_hasRoom g (fun (r2 : Int32) (S1 : StC) => (((r2 = 0) → wq_Ma_lack_236 g post  S1 (3)) ∧ (¬ (r2 = 0) → wq_Ma_lack_236 g post  S1 (0)))) S (x1) (x2)) ∧ (¬ (x3 = 0) → post (x3) S)
def wq_Ma_lack_212 (g : Gm) (post : Int32 → StC → Prop)  (S : StC) (x1 : Nat) (x2 : Int32) (t0 : Int32) : Prop :=
  wq_Ma_lack_216 g post  S (x1) (x2) (t0)
def wq_Ma_lack_194 (g : Gm) (post : Int32 → StC → Prop)  (S : StC) (x1 : Nat) (x2 : Int32) (t0 : Int32) : Prop :=
  wq_Ma_lack_216 g post  S (x1) (x2) (t0)
def wq_Ma_lack_176 (g : Gm) (post : Int32 → StC → Prop)  (S : StC) (x1 : Nat) (x2 : Int32) (t0 : Int32) : Prop :=
  wq_Ma_lack_216 g post  S (x1) (x2) (t0)
def wq_Ma_lack_156 (g : Gm) (post : Int32 → StC → Prop)  (S : StC) (x1 : Nat) (x2 : Int32) (t0 : Int32) : Prop :=
  wq_Ma_lack_216 g post  S (x1) (x2) (t0)
def wq_Ma_lack_136 (g : Gm) (post : Int32 → StC → Prop)  (S : StC) (x1 : Nat) (x2 : Int32) (t0 : Int32) : Prop :=
  wq_Ma_lack_216 g post  S (x1) (x2) (t0)
def wq_Ma_lack_123 (g : Gm) (post : Int32 → StC → Prop)  (S : StC) (x1 : Nat) (x2 : Int32) (t0 : Int32) : Prop :=
  wq_Ma_lack_216 g post  S (x1) (x2) (t0)
def wq_Ma_lack_17 (g : Gm) (post : Int32 → StC → Prop)  (S : StC) (x1 : Nat) : Prop :=
  ∃ (i3 : Nat), (i3 < 52) ∧ (x1 = g.2.2 (100 + i3)) ∧ ((((takE.getD i3 0) ≤ (S.1 8)) → wp_Nd_fromTop g (fun (r7 : Int32) (S6 : StC) => (∃ (i8 : Nat), (i8 < 52) ∧ (x1 = g.2.2 (100 + i8)) ∧ (wp_En_ordinal g (fun (r12 : Int32) (S11 : StC) => ((vp_in r12 52) ∧ ((((swE.getD (Int32.toNatClampNeg (r12)) 0) = 1) → (((S11.1 9) = 0) → wq_Ma_lack_123 g post  S11 (x1) (r7) (2)) ∧ (¬ ((S11.1 9) = 0) → wq_Ma_lack_123 g post  S11 (x1) (r7) (0))) ∧ (¬ ((swE.getD (Int32.toNatClampNeg (r12)) 0) = 1) → (((swE.getD (Int32.toNatClampNeg (r12)) 0) = 2) → (((S11.1 9) = 0) → wq_Ma_lack_123 g post  S11 (x1) (r7) (2)) ∧ (¬ ((S11.1 9) = 0) → wq_Ma_lack_123 g post  S11 (x1) (r7) (0))) ∧ (¬ ((swE.getD (Int32.toNatClampNeg (r12)) 0) = 2) → (((swE.getD (Int32.toNatClampNeg (r12)) 0) = 3) → ((r7 = 0) → wq_Ma_lack_136 g post  S11 (x1) (r7) (4)) ∧ (¬ (r7 = 0) → wq_Ma_lack_136 g post  S11 (x1) (r7) (0))) ∧ (¬ ((swE.getD (Int32.toNatClampNeg (r12)) 0) = 3) → (((swE.getD (Int32.toNatClampNeg (r12)) 0) = 4) → ((r7 = 0) → wq_Ma_lack_136 g post  S11 (x1) (r7) (4)) ∧ (¬ (r7 = 0) → wq_Ma_lack_136 g post  S11 (x1) (r7) (0))) ∧ (¬ ((swE.getD (Int32.toNatClampNeg (r12)) 0) = 4) → (((swE.getD (Int32.toNatClampNeg (r12)) 0) = 5) → wp_Me_has g (fun (r19 : Int32) (S18 : StC) => (((r19 = 0) → wq_Ma_lack_156 g post  S18 (x1) (r7) (5)) ∧ (¬ (r19 = 0) → wq_Ma_lack_156 g post  S18 (x1) (r7) (0)))) S11 (r7)) ∧ (¬ ((swE.getD (Int32.toNatClampNeg (r12)) 0) = 5) → (((swE.getD (Int32.toNatClampNeg (r12)) 0) = 6) → wp_Me_has g (fun (r22 : Int32) (S21 : StC) => (((r22 = 0) → wq_Ma_lack_156 g post  S21 (x1) (r7) (5)) ∧ (¬ (r22 = 0) → wq_Ma_lack_156 g post  S21 (x1) (r7) (0)))) S11 (r7)) ∧ (¬ ((swE.getD (Int32.toNatClampNeg (r12)) 0) = 6) → (((swE.getD (Int32.toNatClampNeg (r12)) 0) = 7) → wp_Me_has g (fun (r25 : Int32) (S24 : StC) => (((r25 = 0) → wq_Ma_lack_156 g post  S24 (x1) (r7) (5)) ∧ (¬ (r25 = 0) → wq_Ma_lack_156 g post  S24 (x1) (r7) (0)))) S11 (r7)) ∧ (¬ ((swE.getD (Int32.toNatClampNeg (r12)) 0) = 7) → (((swE.getD (Int32.toNatClampNeg (r12)) 0) = 8) → wp_Me_hasBlock g (fun (r28 : Int32) (S27 : StC) => (((r28 = 0) → wq_Ma_lack_176 g post  S27 (x1) (r7) (5)) ∧ (¬ (r28 = 0) → wq_Ma_lack_176 g post  S27 (x1) (r7) (0)))) S11 (r7)) ∧ (¬ ((swE.getD (Int32.toNatClampNeg (r12)) 0) = 8) → (((swE.getD (Int32.toNatClampNeg (r12)) 0) = 9) → wp_Ma_openLoops g (fun (r31 : Int32) (S30 : StC) => (((1 ≤ r31) → wq_Ma_lack_194 g post  S30 (x1) (r7) (0)) ∧ (¬ (1 ≤ r31) → wq_Ma_lack_194 g post  S30 (x1) (r7) (8)))) S11 ) ∧ (¬ ((swE.getD (Int32.toNatClampNeg (r12)) 0) = 9) → (((swE.getD (Int32.toNatClampNeg (r12)) 0) = 10) → wp_Ma_openLoops g (fun (r34 : Int32) (S33 : StC) => (((2 ≤ r34) → wq_Ma_lack_212 g post  S33 (x1) (r7) (0)) ∧ (¬ (2 ≤ r34) → wq_Ma_lack_212 g post  S33 (x1) (r7) (8)))) S11 ) ∧ (¬ ((swE.getD (Int32.toNatClampNeg (r12)) 0) = 10) → wq_Ma_lack_216 g post  S11 (x1) (r7) (0)))))))))))))) S6 (x1)))) S (0)) ∧ (¬ ((takE.getD i3 0) ≤ (S.1 8)) → post (2) S))
def wp_Ma_lack (g : Gm) (post : Int32 → StC → Prop) (S : StC) (a0 : Nat) : Prop :=
  (((some (a0)) = (some ((g.2.2 130)))) → (((S.1 5) = 0) → post (6) S) ∧ (¬ ((S.1 5) = 0) → wq_Ma_lack_17 g post  S (a0))) ∧ (¬ ((some (a0)) = (some ((g.2.2 130)))) → wq_Ma_lack_17 g post  S (a0))
set_option maxRecDepth 100000 in
set_option maxHeartbeats 4000000 in
theorem c_Ma_lack (l : Launch) (g : Gm) (sz : Nat) (S : StC) (a0 : Nat) (post : Int32 → StC → Prop) (hw : wp_Ma_lack g post S a0) : Met l y_Ma_lack (.code y_Ma_lack b_Ma_lack 4 (some .int) :: w_C) (rmM 2 45) (va_Pc [.ref (g.2.2 3), .ref (a0)] (PC g sz S)) (va_Qi post (BC g (AC g sz S)) (AC g sz S)) 0 0 (AC g sz S) := by
  refine ofC_i (by decide) (Nat.le_of_ble_eq_true rfl) (fun p e s m args below meth c Q A H locs ls hx hb hml hts hown hK hA hC hN kr hl hP hD hS => ?_)
  have hl : lv_has ls 4 [(0, .ref (g.2.2 3)), (1, .ref (a0))] := hl
  unfold wp_Ma_lack at hw
  have J236 : ∀ (S : StC) (t0 : Int32) (H : Heap) (locs : List Loc) (ls : Array Slot), wq_Ma_lack_236 g post  S t0 → lv_has ls 4 [] → va_P g.1 classes (wC g S) H → va_D A (wC g S) → va_S A s.heap H locs → W p l e (rmM 2 45) s m args below meth c H locs 0 0 Q (F0 m 236 ls [.int (t0)]) := by
    intro S t0 H locs ls hw hl hP hD hS
    unfold wq_Ma_lack_236 at hw
    exact kr (t0) S _ _ _ _ hw hP hD hS d_Ma_lack_236
  have J216 : ∀ (S : StC) (x1 : Nat) (x2 : Int32) (x3 : Int32) (H : Heap) (locs : List Loc) (ls : Array Slot), wq_Ma_lack_216 g post  S x1 x2 x3 → lv_has ls 4 [(0, .ref (g.2.2 3)), (1, .ref (x1)), (2, .int (x2)), (3, .int (x3))] → va_P g.1 classes (wC g S) H → va_D A (wC g S) → va_S A s.heap H locs → W p l e (rmM 2 45) s m args below meth c H locs 0 0 Q (F0 m 216 ls []) := by
    intro S x1 x2 x3 H locs ls hw hl hP hD hS
    unfold wq_Ma_lack_216 at hw
    refine lv_iload_n hx hb d_Ma_lack_216 rfl (lv_at hl 3 rfl) ?_
    refine lv_if_eq hx hb d_Ma_lack_217 (tgt := 222) (by decide) (fun hc => ?_) (fun hc => ?_)
    · have hw := hw.1 hc
      refine lv_aload_n hx hb d_Ma_lack_222 rfl (lv_at hl 0 rfl) ?_
      refine lv_aload_n hx hb d_Ma_lack_223 rfl (lv_at hl 1 rfl) ?_
      refine lv_iload_n hx hb d_Ma_lack_224 rfl (lv_at hl 2 rfl) ?_
      refine cC_iV (As := [.ref (x1), .int (x2)]) (rest := []) hx hb hml hown hts hK hC hN hP hD hS hA (Nat.zero_le _) (Nat.zero_le _) hl.1 (va_recv (q0 := 3) (ci := 5) (q := (R_Ma, F_Ma, 9)) hK hP rfl rfl) (qC_29 hts ⟨Nat.le_of_ble_eq_true rfl, Nat.le_of_ble_eq_true rfl⟩) (c_Ma_hasRoom l g H.size _ (x1) (x2) _ hw) rfl rfl (Nat.le_of_ble_eq_true rfl) d_Ma_lack_225 (fun r2 S1 H locs hw hP hD hS => ?_)
      refine lv_if_eq hx hb d_Ma_lack_228 (tgt := 235) (by decide) (fun hc => ?_) (fun hc => ?_)
      · have hw := hw.1 hc
        refine lv_iconst (v := 3) hx hb d_Ma_lack_235 (by decide) ?_
        exact J236 S1 (3) _ _ _ hw (lv_sub hl [] rfl) hP hD hS
      · have hw := hw.2 hc
        refine lv_iconst (v := 0) hx hb d_Ma_lack_231 (by decide) ?_
        refine lv_goto hx hb d_Ma_lack_232 (tgt := 236) (by decide) ?_
        exact J236 S1 (0) _ _ _ hw (lv_sub hl [] rfl) hP hD hS
    · have hw := hw.2 hc
      refine lv_iload_n hx hb d_Ma_lack_220 rfl (lv_at hl 3 rfl) ?_
      exact kr (x3) S _ _ _ _ hw hP hD hS d_Ma_lack_221
  have J212 : ∀ (S : StC) (x1 : Nat) (x2 : Int32) (t0 : Int32) (H : Heap) (locs : List Loc) (ls : Array Slot), wq_Ma_lack_212 g post  S x1 x2 t0 → lv_has ls 4 [(0, .ref (g.2.2 3)), (1, .ref (x1)), (2, .int (x2))] → va_P g.1 classes (wC g S) H → va_D A (wC g S) → va_S A s.heap H locs → W p l e (rmM 2 45) s m args below meth c H locs 0 0 Q (F0 m 212 ls [.int (t0)]) := by
    intro S x1 x2 t0 H locs ls hw hl hP hD hS
    unfold wq_Ma_lack_212 at hw
    refine lv_istore_n (lv' := [(3, .int (t0)), (0, .ref (g.2.2 3)), (1, .ref (x1)), (2, .int (x2))]) hx hb d_Ma_lack_212 rfl hl (by decide) rfl (fun ls hl => ?_)
    refine lv_goto hx hb d_Ma_lack_213 (tgt := 216) (by decide) ?_
    exact J216 S (x1) (x2) (t0) _ _ _ hw (lv_sub hl [1, 2, 3, 0] rfl) hP hD hS
  have J194 : ∀ (S : StC) (x1 : Nat) (x2 : Int32) (t0 : Int32) (H : Heap) (locs : List Loc) (ls : Array Slot), wq_Ma_lack_194 g post  S x1 x2 t0 → lv_has ls 4 [(0, .ref (g.2.2 3)), (1, .ref (x1)), (2, .int (x2))] → va_P g.1 classes (wC g S) H → va_D A (wC g S) → va_S A s.heap H locs → W p l e (rmM 2 45) s m args below meth c H locs 0 0 Q (F0 m 194 ls [.int (t0)]) := by
    intro S x1 x2 t0 H locs ls hw hl hP hD hS
    unfold wq_Ma_lack_194 at hw
    refine lv_istore_n (lv' := [(3, .int (t0)), (0, .ref (g.2.2 3)), (1, .ref (x1)), (2, .int (x2))]) hx hb d_Ma_lack_194 rfl hl (by decide) rfl (fun ls hl => ?_)
    refine lv_goto hx hb d_Ma_lack_195 (tgt := 216) (by decide) ?_
    exact J216 S (x1) (x2) (t0) _ _ _ hw (lv_sub hl [1, 2, 3, 0] rfl) hP hD hS
  have J176 : ∀ (S : StC) (x1 : Nat) (x2 : Int32) (t0 : Int32) (H : Heap) (locs : List Loc) (ls : Array Slot), wq_Ma_lack_176 g post  S x1 x2 t0 → lv_has ls 4 [(0, .ref (g.2.2 3)), (1, .ref (x1)), (2, .int (x2))] → va_P g.1 classes (wC g S) H → va_D A (wC g S) → va_S A s.heap H locs → W p l e (rmM 2 45) s m args below meth c H locs 0 0 Q (F0 m 176 ls [.int (t0)]) := by
    intro S x1 x2 t0 H locs ls hw hl hP hD hS
    unfold wq_Ma_lack_176 at hw
    refine lv_istore_n (lv' := [(3, .int (t0)), (0, .ref (g.2.2 3)), (1, .ref (x1)), (2, .int (x2))]) hx hb d_Ma_lack_176 rfl hl (by decide) rfl (fun ls hl => ?_)
    refine lv_goto hx hb d_Ma_lack_177 (tgt := 216) (by decide) ?_
    exact J216 S (x1) (x2) (t0) _ _ _ hw (lv_sub hl [1, 2, 3, 0] rfl) hP hD hS
  have J156 : ∀ (S : StC) (x1 : Nat) (x2 : Int32) (t0 : Int32) (H : Heap) (locs : List Loc) (ls : Array Slot), wq_Ma_lack_156 g post  S x1 x2 t0 → lv_has ls 4 [(0, .ref (g.2.2 3)), (1, .ref (x1)), (2, .int (x2))] → va_P g.1 classes (wC g S) H → va_D A (wC g S) → va_S A s.heap H locs → W p l e (rmM 2 45) s m args below meth c H locs 0 0 Q (F0 m 156 ls [.int (t0)]) := by
    intro S x1 x2 t0 H locs ls hw hl hP hD hS
    unfold wq_Ma_lack_156 at hw
    refine lv_istore_n (lv' := [(3, .int (t0)), (0, .ref (g.2.2 3)), (1, .ref (x1)), (2, .int (x2))]) hx hb d_Ma_lack_156 rfl hl (by decide) rfl (fun ls hl => ?_)
    refine lv_goto hx hb d_Ma_lack_157 (tgt := 216) (by decide) ?_
    exact J216 S (x1) (x2) (t0) _ _ _ hw (lv_sub hl [1, 2, 3, 0] rfl) hP hD hS
  have J136 : ∀ (S : StC) (x1 : Nat) (x2 : Int32) (t0 : Int32) (H : Heap) (locs : List Loc) (ls : Array Slot), wq_Ma_lack_136 g post  S x1 x2 t0 → lv_has ls 4 [(0, .ref (g.2.2 3)), (1, .ref (x1)), (2, .int (x2))] → va_P g.1 classes (wC g S) H → va_D A (wC g S) → va_S A s.heap H locs → W p l e (rmM 2 45) s m args below meth c H locs 0 0 Q (F0 m 136 ls [.int (t0)]) := by
    intro S x1 x2 t0 H locs ls hw hl hP hD hS
    unfold wq_Ma_lack_136 at hw
    refine lv_istore_n (lv' := [(3, .int (t0)), (0, .ref (g.2.2 3)), (1, .ref (x1)), (2, .int (x2))]) hx hb d_Ma_lack_136 rfl hl (by decide) rfl (fun ls hl => ?_)
    refine lv_goto hx hb d_Ma_lack_137 (tgt := 216) (by decide) ?_
    exact J216 S (x1) (x2) (t0) _ _ _ hw (lv_sub hl [1, 2, 3, 0] rfl) hP hD hS
  have J123 : ∀ (S : StC) (x1 : Nat) (x2 : Int32) (t0 : Int32) (H : Heap) (locs : List Loc) (ls : Array Slot), wq_Ma_lack_123 g post  S x1 x2 t0 → lv_has ls 4 [(0, .ref (g.2.2 3)), (1, .ref (x1)), (2, .int (x2))] → va_P g.1 classes (wC g S) H → va_D A (wC g S) → va_S A s.heap H locs → W p l e (rmM 2 45) s m args below meth c H locs 0 0 Q (F0 m 123 ls [.int (t0)]) := by
    intro S x1 x2 t0 H locs ls hw hl hP hD hS
    unfold wq_Ma_lack_123 at hw
    refine lv_istore_n (lv' := [(3, .int (t0)), (0, .ref (g.2.2 3)), (1, .ref (x1)), (2, .int (x2))]) hx hb d_Ma_lack_123 rfl hl (by decide) rfl (fun ls hl => ?_)
    refine lv_goto hx hb d_Ma_lack_124 (tgt := 216) (by decide) ?_
    exact J216 S (x1) (x2) (t0) _ _ _ hw (lv_sub hl [1, 2, 3, 0] rfl) hP hD hS
  have J17 : ∀ (S : StC) (x1 : Nat) (H : Heap) (locs : List Loc) (ls : Array Slot), wq_Ma_lack_17 g post  S x1 → lv_has ls 4 [(0, .ref (g.2.2 3)), (1, .ref (x1))] → va_P g.1 classes (wC g S) H → va_D A (wC g S) → va_S A s.heap H locs → W p l e (rmM 2 45) s m args below meth c H locs 0 0 Q (F0 m 17 ls []) := by
    intro S x1 H locs ls hw hl hP hD hS
    unfold wq_Ma_lack_17 at hw
    refine lv_aload_n hx hb d_Ma_lack_17 rfl (lv_at hl 0 rfl) ?_
    refine va_get (D := g.1) (ci := 5) (v := .ref (g.2.2 4)) (C := R_Ma) (T := F_Ma) (N := 9) hx hb hts hin_Ma hown hK hP 3 rfl rfl 0 (by decide) (hts _ k_C_106) (fun _ h9 => h9) rfl d_Ma_lack_18 ?_
    refine va_getN (D := g.1) (ci := 6) (v := .int ((S.1 8))) (C := R_N) (T := F_N) (N := 2) hx hb hts hin_N hown hK hP 4 rfl rfl 1 (by decide) (va_Nw.use rfl (hN.1 _ kn_C_3)) (fun _ h9 => h9) rfl d_Ma_lack_21 ?_
    refine lv_aload_n hx hb d_Ma_lack_24 rfl (lv_at hl 1 rfl) ?_
    obtain ⟨i3, hi4, he5, hw⟩ := hw
    refine ge_C (i := i3) (q := fe_takes) hx hb hts hC hS hown he5 hi4 fe_takes_in k_C_777 d_Ma_lack_25 ?_
    refine lv_icmp_ge hx hb d_Ma_lack_28 (tgt := 33) (by decide) (fun hc => ?_) (fun hc => ?_)
    · have hw := hw.1 hc
      refine lv_aload_n hx hb d_Ma_lack_33 rfl (lv_at hl 0 rfl) ?_
      refine va_get (D := g.1) (ci := 5) (v := .ref (g.2.2 4)) (C := R_Ma) (T := F_Ma) (N := 9) hx hb hts hin_Ma hown hK hP 3 rfl rfl 0 (by decide) (hts _ k_C_106) (fun _ h9 => h9) rfl d_Ma_lack_34 ?_
      refine lv_iconst (v := 0) hx hb d_Ma_lack_37 (by decide) ?_
      refine cC_iV (As := [.int (0)]) (rest := []) hx hb hml hown hts hK hC hN hP hD hS hA (Nat.zero_le _) (Nat.zero_le _) hl.1 (va_recv (q0 := 4) (ci := 6) (q := (R_N, F_N, 2)) hK hP rfl rfl) (qC_30 hts ⟨Nat.le_of_ble_eq_true rfl, Nat.le_of_ble_eq_true rfl⟩) (c_Nd_fromTop l g H.size _ (0) _ hw) rfl rfl (Nat.le_of_ble_eq_true rfl) d_Ma_lack_38 (fun r7 S6 H locs hw hP hD hS => ?_)
      refine lv_istore_n (lv' := [(2, .int (r7)), (0, .ref (g.2.2 3)), (1, .ref (x1))]) hx hb d_Ma_lack_41 rfl hl (by decide) rfl (fun ls hl => ?_)
      refine lv_iconst (v := 0) hx hb d_Ma_lack_42 (by decide) ?_
      refine lv_istore_n (lv' := [(3, .int (0)), (2, .int (r7)), (0, .ref (g.2.2 3)), (1, .ref (x1))]) hx hb d_Ma_lack_43 rfl hl (by decide) rfl (fun ls hl => ?_)
      refine va_gets (C := "WordSmith$1") (n := "$SwitchMap$WordSmith$BuiltIn") (d := "[I") (v := .ref (g.2.2 90)) hx hb hC.1.2.1 hS hown (hts _ k_C_609) (fun _ h9 => h9) d_Ma_lack_44 ?_
      refine lv_aload_n hx hb d_Ma_lack_47 rfl (lv_at hl 3 rfl) ?_
      obtain ⟨i8, hi9, he10, hw⟩ := hw
      refine cC_iU (As := []) (rest := [.ref (g.2.2 90)]) hx hb hml hown hts hK hC hN hP hD hS hA (Nat.zero_le _) (Nat.zero_le _) hl.1 (erecv_C hC hS he10 hi9) (qC_26 hts ⟨Nat.le_of_ble_eq_true rfl, Nat.le_of_ble_eq_true rfl⟩) (c_En_ordinal l g H.size _ (x1) _ hw) rfl rfl (Nat.le_of_ble_eq_true rfl) d_Ma_lack_48 (fun r12 S11 H locs hw hP hD hS => ?_)
      obtain ⟨hi, hw⟩ := hw
      refine va_ti (v := .int (swE.getD (Int32.toNatClampNeg (r12)) 0)) hx hb hC.1.2.2.1 hS hi rfl d_Ma_lack_51 ?_
      by_cases hk13 : (swE.getD (Int32.toNatClampNeg (r12)) 0) = 1
      · have hw := hw.1 hk13
        refine sw_in hx hb d_Ma_lack_52 hk13 (tgt := 108) (off := 56) (by decide) (by decide) rfl (by decide) ?_
        refine lv_aload_n hx hb d_Ma_lack_108 rfl (lv_at hl 2 rfl) ?_
        refine va_get (D := g.1) (ci := 5) (v := .ref (g.2.2 6)) (C := R_Ma) (T := F_Ma) (N := 9) hx hb hts hin_Ma hown hK hP 3 rfl rfl 1 (by decide) (hts _ k_C_107) (fun _ h9 => h9) rfl d_Ma_lack_109 ?_
        refine va_getN (D := g.1) (ci := 6) (v := .int ((S11.1 9))) (C := R_N) (T := F_N) (N := 2) hx hb hts hin_N hown hK hP 6 rfl rfl 1 (by decide) (va_Nw.use rfl (hN.1 _ kn_C_3)) (fun _ h9 => h9) rfl d_Ma_lack_112 ?_
        refine lv_if_ne hx hb d_Ma_lack_115 (tgt := 122) (by decide) (fun hc => ?_) (fun hc => ?_)
        · have hw := hw.2 hc
          refine lv_iconst (v := 0) hx hb d_Ma_lack_122 (by decide) ?_
          exact J123 S11 (x1) (r7) (0) _ _ _ hw (lv_sub hl [2, 3, 1] rfl) hP hD hS
        · have hw := hw.1 hc
          refine lv_iconst (v := 2) hx hb d_Ma_lack_118 (by decide) ?_
          refine lv_goto hx hb d_Ma_lack_119 (tgt := 123) (by decide) ?_
          exact J123 S11 (x1) (r7) (2) _ _ _ hw (lv_sub hl [2, 3, 1] rfl) hP hD hS
      · have hw := hw.2 hk13
        by_cases hk14 : (swE.getD (Int32.toNatClampNeg (r12)) 0) = 2
        · have hw := hw.1 hk14
          refine sw_in hx hb d_Ma_lack_52 hk14 (tgt := 108) (off := 56) (by decide) (by decide) rfl (by decide) ?_
          refine lv_aload_n hx hb d_Ma_lack_108 rfl (lv_at hl 2 rfl) ?_
          refine va_get (D := g.1) (ci := 5) (v := .ref (g.2.2 6)) (C := R_Ma) (T := F_Ma) (N := 9) hx hb hts hin_Ma hown hK hP 3 rfl rfl 1 (by decide) (hts _ k_C_107) (fun _ h9 => h9) rfl d_Ma_lack_109 ?_
          refine va_getN (D := g.1) (ci := 6) (v := .int ((S11.1 9))) (C := R_N) (T := F_N) (N := 2) hx hb hts hin_N hown hK hP 6 rfl rfl 1 (by decide) (va_Nw.use rfl (hN.1 _ kn_C_3)) (fun _ h9 => h9) rfl d_Ma_lack_112 ?_
          refine lv_if_ne hx hb d_Ma_lack_115 (tgt := 122) (by decide) (fun hc => ?_) (fun hc => ?_)
          · have hw := hw.2 hc
            refine lv_iconst (v := 0) hx hb d_Ma_lack_122 (by decide) ?_
            exact J123 S11 (x1) (r7) (0) _ _ _ hw (lv_sub hl [2, 3, 1] rfl) hP hD hS
          · have hw := hw.1 hc
            refine lv_iconst (v := 2) hx hb d_Ma_lack_118 (by decide) ?_
            refine lv_goto hx hb d_Ma_lack_119 (tgt := 123) (by decide) ?_
            exact J123 S11 (x1) (r7) (2) _ _ _ hw (lv_sub hl [2, 3, 1] rfl) hP hD hS
        · have hw := hw.2 hk14
          by_cases hk15 : (swE.getD (Int32.toNatClampNeg (r12)) 0) = 3
          · have hw := hw.1 hk15
            refine sw_in hx hb d_Ma_lack_52 hk15 (tgt := 127) (off := 75) (by decide) (by decide) rfl (by decide) ?_
            refine lv_iload_n hx hb d_Ma_lack_127 rfl (lv_at hl 1 rfl) ?_
            refine lv_if_ne hx hb d_Ma_lack_128 (tgt := 135) (by decide) (fun hc => ?_) (fun hc => ?_)
            · have hw := hw.2 hc
              refine lv_iconst (v := 0) hx hb d_Ma_lack_135 (by decide) ?_
              exact J136 S11 (x1) (r7) (0) _ _ _ hw (lv_sub hl [2, 3, 1] rfl) hP hD hS
            · have hw := hw.1 hc
              refine lv_iconst (v := 4) hx hb d_Ma_lack_131 (by decide) ?_
              refine lv_goto hx hb d_Ma_lack_132 (tgt := 136) (by decide) ?_
              exact J136 S11 (x1) (r7) (4) _ _ _ hw (lv_sub hl [2, 3, 1] rfl) hP hD hS
          · have hw := hw.2 hk15
            by_cases hk16 : (swE.getD (Int32.toNatClampNeg (r12)) 0) = 4
            · have hw := hw.1 hk16
              refine sw_in hx hb d_Ma_lack_52 hk16 (tgt := 127) (off := 75) (by decide) (by decide) rfl (by decide) ?_
              refine lv_iload_n hx hb d_Ma_lack_127 rfl (lv_at hl 1 rfl) ?_
              refine lv_if_ne hx hb d_Ma_lack_128 (tgt := 135) (by decide) (fun hc => ?_) (fun hc => ?_)
              · have hw := hw.2 hc
                refine lv_iconst (v := 0) hx hb d_Ma_lack_135 (by decide) ?_
                exact J136 S11 (x1) (r7) (0) _ _ _ hw (lv_sub hl [2, 3, 1] rfl) hP hD hS
              · have hw := hw.1 hc
                refine lv_iconst (v := 4) hx hb d_Ma_lack_131 (by decide) ?_
                refine lv_goto hx hb d_Ma_lack_132 (tgt := 136) (by decide) ?_
                exact J136 S11 (x1) (r7) (4) _ _ _ hw (lv_sub hl [2, 3, 1] rfl) hP hD hS
            · have hw := hw.2 hk16
              by_cases hk17 : (swE.getD (Int32.toNatClampNeg (r12)) 0) = 5
              · have hw := hw.1 hk17
                refine sw_in hx hb d_Ma_lack_52 hk17 (tgt := 140) (off := 88) (by decide) (by decide) rfl (by decide) ?_
                refine lv_aload_n hx hb d_Ma_lack_140 rfl (lv_at hl 2 rfl) ?_
                refine va_get (D := g.1) (ci := 5) (v := .ref (g.2.2 8)) (C := R_Ma) (T := F_Ma) (N := 9) hx hb hts hin_Ma hown hK hP 3 rfl rfl 2 (by decide) (hts _ k_C_108) (fun _ h9 => h9) rfl d_Ma_lack_141 ?_
                refine lv_iload_n hx hb d_Ma_lack_144 rfl (lv_at hl 1 rfl) ?_
                refine cC_iV (As := [.int (r7)]) (rest := []) hx hb hml hown hts hK hC hN hP hD hS hA (Nat.zero_le _) (Nat.zero_le _) hl.1 (va_recv (q0 := 8) (ci := 7) (q := (R_Me, F_Me, 6)) hK hP rfl rfl) (qC_31 hts ⟨Nat.le_of_ble_eq_true rfl, Nat.le_of_ble_eq_true rfl⟩) (c_Me_has l g H.size _ (r7) _ hw) rfl rfl (Nat.le_of_ble_eq_true rfl) d_Ma_lack_145 (fun r19 S18 H locs hw hP hD hS => ?_)
                refine lv_if_eq hx hb d_Ma_lack_148 (tgt := 155) (by decide) (fun hc => ?_) (fun hc => ?_)
                · have hw := hw.1 hc
                  refine lv_iconst (v := 5) hx hb d_Ma_lack_155 (by decide) ?_
                  exact J156 S18 (x1) (r7) (5) _ _ _ hw (lv_sub hl [2, 3, 1] rfl) hP hD hS
                · have hw := hw.2 hc
                  refine lv_iconst (v := 0) hx hb d_Ma_lack_151 (by decide) ?_
                  refine lv_goto hx hb d_Ma_lack_152 (tgt := 156) (by decide) ?_
                  exact J156 S18 (x1) (r7) (0) _ _ _ hw (lv_sub hl [2, 3, 1] rfl) hP hD hS
              · have hw := hw.2 hk17
                by_cases hk20 : (swE.getD (Int32.toNatClampNeg (r12)) 0) = 6
                · have hw := hw.1 hk20
                  refine sw_in hx hb d_Ma_lack_52 hk20 (tgt := 140) (off := 88) (by decide) (by decide) rfl (by decide) ?_
                  refine lv_aload_n hx hb d_Ma_lack_140 rfl (lv_at hl 2 rfl) ?_
                  refine va_get (D := g.1) (ci := 5) (v := .ref (g.2.2 8)) (C := R_Ma) (T := F_Ma) (N := 9) hx hb hts hin_Ma hown hK hP 3 rfl rfl 2 (by decide) (hts _ k_C_108) (fun _ h9 => h9) rfl d_Ma_lack_141 ?_
                  refine lv_iload_n hx hb d_Ma_lack_144 rfl (lv_at hl 1 rfl) ?_
                  refine cC_iV (As := [.int (r7)]) (rest := []) hx hb hml hown hts hK hC hN hP hD hS hA (Nat.zero_le _) (Nat.zero_le _) hl.1 (va_recv (q0 := 8) (ci := 7) (q := (R_Me, F_Me, 6)) hK hP rfl rfl) (qC_31 hts ⟨Nat.le_of_ble_eq_true rfl, Nat.le_of_ble_eq_true rfl⟩) (c_Me_has l g H.size _ (r7) _ hw) rfl rfl (Nat.le_of_ble_eq_true rfl) d_Ma_lack_145 (fun r22 S21 H locs hw hP hD hS => ?_)
                  refine lv_if_eq hx hb d_Ma_lack_148 (tgt := 155) (by decide) (fun hc => ?_) (fun hc => ?_)
                  · have hw := hw.1 hc
                    refine lv_iconst (v := 5) hx hb d_Ma_lack_155 (by decide) ?_
                    exact J156 S21 (x1) (r7) (5) _ _ _ hw (lv_sub hl [2, 3, 1] rfl) hP hD hS
                  · have hw := hw.2 hc
                    refine lv_iconst (v := 0) hx hb d_Ma_lack_151 (by decide) ?_
                    refine lv_goto hx hb d_Ma_lack_152 (tgt := 156) (by decide) ?_
                    exact J156 S21 (x1) (r7) (0) _ _ _ hw (lv_sub hl [2, 3, 1] rfl) hP hD hS
                · have hw := hw.2 hk20
                  by_cases hk23 : (swE.getD (Int32.toNatClampNeg (r12)) 0) = 7
                  · have hw := hw.1 hk23
                    refine sw_in hx hb d_Ma_lack_52 hk23 (tgt := 140) (off := 88) (by decide) (by decide) rfl (by decide) ?_
                    refine lv_aload_n hx hb d_Ma_lack_140 rfl (lv_at hl 2 rfl) ?_
                    refine va_get (D := g.1) (ci := 5) (v := .ref (g.2.2 8)) (C := R_Ma) (T := F_Ma) (N := 9) hx hb hts hin_Ma hown hK hP 3 rfl rfl 2 (by decide) (hts _ k_C_108) (fun _ h9 => h9) rfl d_Ma_lack_141 ?_
                    refine lv_iload_n hx hb d_Ma_lack_144 rfl (lv_at hl 1 rfl) ?_
                    refine cC_iV (As := [.int (r7)]) (rest := []) hx hb hml hown hts hK hC hN hP hD hS hA (Nat.zero_le _) (Nat.zero_le _) hl.1 (va_recv (q0 := 8) (ci := 7) (q := (R_Me, F_Me, 6)) hK hP rfl rfl) (qC_31 hts ⟨Nat.le_of_ble_eq_true rfl, Nat.le_of_ble_eq_true rfl⟩) (c_Me_has l g H.size _ (r7) _ hw) rfl rfl (Nat.le_of_ble_eq_true rfl) d_Ma_lack_145 (fun r25 S24 H locs hw hP hD hS => ?_)
                    refine lv_if_eq hx hb d_Ma_lack_148 (tgt := 155) (by decide) (fun hc => ?_) (fun hc => ?_)
                    · have hw := hw.1 hc
                      refine lv_iconst (v := 5) hx hb d_Ma_lack_155 (by decide) ?_
                      exact J156 S24 (x1) (r7) (5) _ _ _ hw (lv_sub hl [2, 3, 1] rfl) hP hD hS
                    · have hw := hw.2 hc
                      refine lv_iconst (v := 0) hx hb d_Ma_lack_151 (by decide) ?_
                      refine lv_goto hx hb d_Ma_lack_152 (tgt := 156) (by decide) ?_
                      exact J156 S24 (x1) (r7) (0) _ _ _ hw (lv_sub hl [2, 3, 1] rfl) hP hD hS
                  · have hw := hw.2 hk23
                    by_cases hk26 : (swE.getD (Int32.toNatClampNeg (r12)) 0) = 8
                    · have hw := hw.1 hk26
                      refine sw_in hx hb d_Ma_lack_52 hk26 (tgt := 160) (off := 108) (by decide) (by decide) rfl (by decide) ?_
                      refine lv_aload_n hx hb d_Ma_lack_160 rfl (lv_at hl 2 rfl) ?_
                      refine va_get (D := g.1) (ci := 5) (v := .ref (g.2.2 8)) (C := R_Ma) (T := F_Ma) (N := 9) hx hb hts hin_Ma hown hK hP 3 rfl rfl 2 (by decide) (hts _ k_C_108) (fun _ h9 => h9) rfl d_Ma_lack_161 ?_
                      refine lv_iload_n hx hb d_Ma_lack_164 rfl (lv_at hl 1 rfl) ?_
                      refine cC_iV (As := [.int (r7)]) (rest := []) hx hb hml hown hts hK hC hN hP hD hS hA (Nat.zero_le _) (Nat.zero_le _) hl.1 (va_recv (q0 := 8) (ci := 7) (q := (R_Me, F_Me, 6)) hK hP rfl rfl) (qC_32 hts ⟨Nat.le_of_ble_eq_true rfl, Nat.le_of_ble_eq_true rfl⟩) (c_Me_hasBlock l g H.size _ (r7) _ hw) rfl rfl (Nat.le_of_ble_eq_true rfl) d_Ma_lack_165 (fun r28 S27 H locs hw hP hD hS => ?_)
                      refine lv_if_eq hx hb d_Ma_lack_168 (tgt := 175) (by decide) (fun hc => ?_) (fun hc => ?_)
                      · have hw := hw.1 hc
                        refine lv_iconst (v := 5) hx hb d_Ma_lack_175 (by decide) ?_
                        exact J176 S27 (x1) (r7) (5) _ _ _ hw (lv_sub hl [2, 3, 1] rfl) hP hD hS
                      · have hw := hw.2 hc
                        refine lv_iconst (v := 0) hx hb d_Ma_lack_171 (by decide) ?_
                        refine lv_goto hx hb d_Ma_lack_172 (tgt := 176) (by decide) ?_
                        exact J176 S27 (x1) (r7) (0) _ _ _ hw (lv_sub hl [2, 3, 1] rfl) hP hD hS
                    · have hw := hw.2 hk26
                      by_cases hk29 : (swE.getD (Int32.toNatClampNeg (r12)) 0) = 9
                      · have hw := hw.1 hk29
                        refine sw_in hx hb d_Ma_lack_52 hk29 (tgt := 180) (off := 128) (by decide) (by decide) rfl (by decide) ?_
                        refine lv_aload_n hx hb d_Ma_lack_180 rfl (lv_at hl 2 rfl) ?_
                        refine cC_iV (As := []) (rest := []) hx hb hml hown hts hK hC hN hP hD hS hA (Nat.zero_le _) (Nat.zero_le _) hl.1 (va_recv (q0 := 3) (ci := 5) (q := (R_Ma, F_Ma, 9)) hK hP rfl rfl) (qC_33 hts ⟨Nat.le_of_ble_eq_true rfl, Nat.le_of_ble_eq_true rfl⟩) (c_Ma_openLoops l g H.size _  _ hw) rfl rfl (Nat.le_of_ble_eq_true rfl) d_Ma_lack_181 (fun r31 S30 H locs hw hP hD hS => ?_)
                        refine lv_iconst (v := 1) hx hb d_Ma_lack_184 (by decide) ?_
                        refine lv_icmp_ge hx hb d_Ma_lack_185 (tgt := 193) (by decide) (fun hc => ?_) (fun hc => ?_)
                        · have hw := hw.1 hc
                          refine lv_iconst (v := 0) hx hb d_Ma_lack_193 (by decide) ?_
                          exact J194 S30 (x1) (r7) (0) _ _ _ hw (lv_sub hl [2, 3, 1] rfl) hP hD hS
                        · have hw := hw.2 hc
                          refine lv_bipush (v := 8) hx hb d_Ma_lack_188 (by decide) ?_
                          refine lv_goto hx hb d_Ma_lack_190 (tgt := 194) (by decide) ?_
                          exact J194 S30 (x1) (r7) (8) _ _ _ hw (lv_sub hl [2, 3, 1] rfl) hP hD hS
                      · have hw := hw.2 hk29
                        by_cases hk32 : (swE.getD (Int32.toNatClampNeg (r12)) 0) = 10
                        · have hw := hw.1 hk32
                          refine sw_in hx hb d_Ma_lack_52 hk32 (tgt := 198) (off := 146) (by decide) (by decide) rfl (by decide) ?_
                          refine lv_aload_n hx hb d_Ma_lack_198 rfl (lv_at hl 2 rfl) ?_
                          refine cC_iV (As := []) (rest := []) hx hb hml hown hts hK hC hN hP hD hS hA (Nat.zero_le _) (Nat.zero_le _) hl.1 (va_recv (q0 := 3) (ci := 5) (q := (R_Ma, F_Ma, 9)) hK hP rfl rfl) (qC_33 hts ⟨Nat.le_of_ble_eq_true rfl, Nat.le_of_ble_eq_true rfl⟩) (c_Ma_openLoops l g H.size _  _ hw) rfl rfl (Nat.le_of_ble_eq_true rfl) d_Ma_lack_199 (fun r34 S33 H locs hw hP hD hS => ?_)
                          refine lv_iconst (v := 2) hx hb d_Ma_lack_202 (by decide) ?_
                          refine lv_icmp_ge hx hb d_Ma_lack_203 (tgt := 211) (by decide) (fun hc => ?_) (fun hc => ?_)
                          · have hw := hw.1 hc
                            refine lv_iconst (v := 0) hx hb d_Ma_lack_211 (by decide) ?_
                            exact J212 S33 (x1) (r7) (0) _ _ _ hw (lv_sub hl [2, 3, 1] rfl) hP hD hS
                          · have hw := hw.2 hc
                            refine lv_bipush (v := 8) hx hb d_Ma_lack_206 (by decide) ?_
                            refine lv_goto hx hb d_Ma_lack_208 (tgt := 212) (by decide) ?_
                            exact J212 S33 (x1) (r7) (8) _ _ _ hw (lv_sub hl [2, 3, 1] rfl) hP hD hS
                        · have hw := hw.2 hk32
                          have n0 := lv_neT hk13 (by decide : (1 : Int32).toInt = 1)
                          have n1 := lv_neT hk14 (by decide : (2 : Int32).toInt = 2)
                          have n2 := lv_neT hk15 (by decide : (3 : Int32).toInt = 3)
                          have n3 := lv_neT hk16 (by decide : (4 : Int32).toInt = 4)
                          have n4 := lv_neT hk17 (by decide : (5 : Int32).toInt = 5)
                          have n5 := lv_neT hk20 (by decide : (6 : Int32).toInt = 6)
                          have n6 := lv_neT hk23 (by decide : (7 : Int32).toInt = 7)
                          have n7 := lv_neT hk26 (by decide : (8 : Int32).toInt = 8)
                          have n8 := lv_neT hk29 (by decide : (9 : Int32).toInt = 9)
                          have n9 := lv_neT hk32 (by decide : (10 : Int32).toInt = 10)
                          refine lv_tableOut hx hb d_Ma_lack_52 (tgt := 216) (by omega) (by decide) ?_
                          exact J216 S11 (x1) (r7) (0) _ _ _ hw (lv_sub hl [2, 3, 1, 0] rfl) hP hD hS
    · have hw := hw.2 hc
      refine lv_iconst (v := 2) hx hb d_Ma_lack_31 (by decide) ?_
      exact kr (2) S _ _ _ _ hw hP hD hS d_Ma_lack_32
  refine lv_aload_n hx hb d_Ma_lack_0 rfl (lv_at hl 1 rfl) ?_
  refine va_gets (C := "WordSmith$BuiltIn") (n := "EXIT") (d := "LWordSmith$BuiltIn;") (v := .ref ((g.2.2 130))) hx hb (hC.1.1.1 30 (by decide)).1 hS hown (hts _ k_C_604) (fun _ h9 => h9) d_Ma_lack_1 ?_
  refine lv_acmp_ne (rx := (some (a0))) (ry := (some ((g.2.2 130)))) hx hb d_Ma_lack_4 (tgt := 17) (by decide) (fun hc => ?_) (fun hc => ?_)
  · have hw := hw.2 hc
    exact J17 S (a0) _ _ _ hw (lv_sub hl [0, 1] rfl) hP hD hS
  · have hw := hw.1 hc
    refine lv_aload_n hx hb d_Ma_lack_7 rfl (lv_at hl 0 rfl) ?_
    refine va_get (D := g.1) (ci := 5) (v := .int ((S.1 5))) (C := R_Ma) (T := F_Ma) (N := 9) hx hb hts hin_Ma hown hK hP 3 rfl rfl 5 (by decide) (hts _ k_C_111) (fun _ h9 => h9) rfl d_Ma_lack_8 ?_
    refine lv_if_ne hx hb d_Ma_lack_11 (tgt := 17) (by decide) (fun hc => ?_) (fun hc => ?_)
    · have hw := hw.2 hc
      exact J17 S (a0) _ _ _ hw (lv_sub hl [0, 1] rfl) hP hD hS
    · have hw := hw.1 hc
      refine lv_bipush (v := 6) hx hb d_Ma_lack_14 (by decide) ?_
      exact kr (6) S _ _ _ _ hw hP hD hS d_Ma_lack_16
theorem d_Ma_flag_0 : decode b_Ma_flag 0 = .ok (.iload_n 0, 1) := by decide +kernel
theorem d_Ma_flag_1 : decode b_Ma_flag 1 = .ok (.ifCond .eq 7, 3) := by decide +kernel
theorem d_Ma_flag_4 : decode b_Ma_flag 4 = .ok (.iconst (-1), 1) := by decide +kernel
theorem d_Ma_flag_5 : decode b_Ma_flag 5 = .ok (.goto 4, 3) := by decide +kernel
theorem d_Ma_flag_8 : decode b_Ma_flag 8 = .ok (.iconst 0, 1) := by decide +kernel
theorem d_Ma_flag_9 : decode b_Ma_flag 9 = .ok (.ireturn, 1) := by decide +kernel
def wq_Ma_flag_9 (g : Gm) (post : Int32 → StC → Prop)  (S : StC) (t0 : Int32) : Prop :=
  post (t0) S
def wp_Ma_flag (g : Gm) (post : Int32 → StC → Prop) (S : StC) (a0 : Int32) : Prop :=
  ((a0 = 0) → wq_Ma_flag_9 g post  S (0)) ∧ (¬ (a0 = 0) → wq_Ma_flag_9 g post  S ((-1)))
set_option maxRecDepth 100000 in
set_option maxHeartbeats 4000000 in
theorem c_Ma_flag (l : Launch) (g : Gm) (sz : Nat) (S : StC) (a0 : Int32) (post : Int32 → StC → Prop) (hw : wp_Ma_flag g post S a0) : Met l y_Ma_flag (.code y_Ma_flag b_Ma_flag 1 (some .int) :: w_C) (rmM 0 0) (va_Pc [.int (a0)] (PC g sz S)) (va_Qi post (BC g (AC g sz S)) (AC g sz S)) 0 0 (AC g sz S) := by
  refine ofC_i (by decide) (Nat.le_of_ble_eq_true rfl) (fun p e s m args below meth c Q A H locs ls hx hb hml hts hown hK hA hC hN kr hl hP hD hS => ?_)
  have hl : lv_has ls 1 [(0, .int (a0))] := hl
  unfold wp_Ma_flag at hw
  have J9 : ∀ (S : StC) (t0 : Int32) (H : Heap) (locs : List Loc) (ls : Array Slot), wq_Ma_flag_9 g post  S t0 → lv_has ls 1 [] → va_P g.1 classes (wC g S) H → va_D A (wC g S) → va_S A s.heap H locs → W p l e (rmM 0 0) s m args below meth c H locs 0 0 Q (F0 m 9 ls [.int (t0)]) := by
    intro S t0 H locs ls hw hl hP hD hS
    unfold wq_Ma_flag_9 at hw
    exact kr (t0) S _ _ _ _ hw hP hD hS d_Ma_flag_9
  refine lv_iload_n hx hb d_Ma_flag_0 rfl (lv_at hl 0 rfl) ?_
  refine lv_if_eq hx hb d_Ma_flag_1 (tgt := 8) (by decide) (fun hc => ?_) (fun hc => ?_)
  · have hw := hw.1 hc
    refine lv_iconst (v := 0) hx hb d_Ma_flag_8 (by decide) ?_
    exact J9 S (0) _ _ _ hw (lv_sub hl [] rfl) hP hD hS
  · have hw := hw.2 hc
    refine lv_iconst (v := -1) hx hb d_Ma_flag_4 (by decide) ?_
    refine lv_goto hx hb d_Ma_flag_5 (tgt := 9) (by decide) ?_
    exact J9 S ((-1)) _ _ _ hw (lv_sub hl [] rfl) hP hD hS
theorem qC_34 {R : Room} {s : State} {args : Array Value} (hts : ∀ w ∈ w_C, w.before args s = true) (hR : (rmM 0 0).frames + 1 ≤ R.frames ∧ 8 + (1 + 11) + (rmM 0 0).locals ≤ R.locals) : CallB R s args "WordSmith$Machine" 243 y_Ma_flag b_Ma_flag 1 (some .int) (.code y_Ma_flag b_Ma_flag 1 (some .int) :: w_C) (rmM 0 0) 0 0 1 ∧ (Cond.static y_Ma_flag).before args s = true := ⟨callB_of 1 hts (good_C k_C_644) rfl rfl rfl (hts _ k_C_6) (hts _ k_C_642) ⟨by decide +kernel, by decide +kernel, by decide +kernel⟩ hR, hts _ k_C_643⟩
theorem d_Ma_calculate_0 : decode b_Ma_calculate 0 = .ok (.getstatic 167, 3) := by decide +kernel
theorem d_Ma_calculate_3 : decode b_Ma_calculate 3 = .ok (.aload_n 0, 1) := by decide +kernel
theorem d_Ma_calculate_4 : decode b_Ma_calculate 4 = .ok (.invokevirtual 172, 3) := by decide +kernel
theorem d_Ma_calculate_7 : decode b_Ma_calculate 7 = .ok (.iaload, 1) := by decide +kernel
theorem d_Ma_calculate_8 : decode b_Ma_calculate 8 = .ok (.tableswitch 229 3 33 #[152, 164, 229, 229, 229, 229, 229, 229, 229, 229, 229, 229, 229, 229, 229, 229, 229, 229, 229, 229, 229, 229, 140, 144, 148, 176, 180, 184, 188, 202, 216], 140) := by decide +kernel
theorem d_Ma_calculate_148 : decode b_Ma_calculate 148 = .ok (.iload_n 1, 1) := by decide +kernel
theorem d_Ma_calculate_149 : decode b_Ma_calculate 149 = .ok (.iload_n 2, 1) := by decide +kernel
theorem d_Ma_calculate_150 : decode b_Ma_calculate 150 = .ok (.iadd, 1) := by decide +kernel
theorem d_Ma_calculate_151 : decode b_Ma_calculate 151 = .ok (.ireturn, 1) := by decide +kernel
theorem d_Ma_calculate_152 : decode b_Ma_calculate 152 = .ok (.iload_n 1, 1) := by decide +kernel
theorem d_Ma_calculate_153 : decode b_Ma_calculate 153 = .ok (.iload_n 2, 1) := by decide +kernel
theorem d_Ma_calculate_154 : decode b_Ma_calculate 154 = .ok (.isub, 1) := by decide +kernel
theorem d_Ma_calculate_155 : decode b_Ma_calculate 155 = .ok (.ireturn, 1) := by decide +kernel
theorem d_Ma_calculate_156 : decode b_Ma_calculate 156 = .ok (.iload_n 1, 1) := by decide +kernel
theorem d_Ma_calculate_157 : decode b_Ma_calculate 157 = .ok (.iload_n 2, 1) := by decide +kernel
theorem d_Ma_calculate_158 : decode b_Ma_calculate 158 = .ok (.imul, 1) := by decide +kernel
theorem d_Ma_calculate_159 : decode b_Ma_calculate 159 = .ok (.ireturn, 1) := by decide +kernel
theorem d_Ma_calculate_160 : decode b_Ma_calculate 160 = .ok (.iload_n 2, 1) := by decide +kernel
theorem d_Ma_calculate_161 : decode b_Ma_calculate 161 = .ok (.ifCond .ne 7, 3) := by decide +kernel
theorem d_Ma_calculate_164 : decode b_Ma_calculate 164 = .ok (.iconst 0, 1) := by decide +kernel
theorem d_Ma_calculate_165 : decode b_Ma_calculate 165 = .ok (.goto 6, 3) := by decide +kernel
theorem d_Ma_calculate_168 : decode b_Ma_calculate 168 = .ok (.iload_n 1, 1) := by decide +kernel
theorem d_Ma_calculate_169 : decode b_Ma_calculate 169 = .ok (.iload_n 2, 1) := by decide +kernel
theorem d_Ma_calculate_170 : decode b_Ma_calculate 170 = .ok (.idiv, 1) := by decide +kernel
theorem d_Ma_calculate_171 : decode b_Ma_calculate 171 = .ok (.ireturn, 1) := by decide +kernel
theorem d_Ma_calculate_172 : decode b_Ma_calculate 172 = .ok (.iload_n 2, 1) := by decide +kernel
theorem d_Ma_calculate_173 : decode b_Ma_calculate 173 = .ok (.ifCond .ne 7, 3) := by decide +kernel
theorem d_Ma_calculate_176 : decode b_Ma_calculate 176 = .ok (.iconst 0, 1) := by decide +kernel
theorem d_Ma_calculate_177 : decode b_Ma_calculate 177 = .ok (.goto 6, 3) := by decide +kernel
theorem d_Ma_calculate_180 : decode b_Ma_calculate 180 = .ok (.iload_n 1, 1) := by decide +kernel
theorem d_Ma_calculate_181 : decode b_Ma_calculate 181 = .ok (.iload_n 2, 1) := by decide +kernel
theorem d_Ma_calculate_182 : decode b_Ma_calculate 182 = .ok (.irem, 1) := by decide +kernel
theorem d_Ma_calculate_183 : decode b_Ma_calculate 183 = .ok (.ireturn, 1) := by decide +kernel
theorem d_Ma_calculate_184 : decode b_Ma_calculate 184 = .ok (.iload_n 1, 1) := by decide +kernel
theorem d_Ma_calculate_185 : decode b_Ma_calculate 185 = .ok (.iload_n 2, 1) := by decide +kernel
theorem d_Ma_calculate_186 : decode b_Ma_calculate 186 = .ok (.iand, 1) := by decide +kernel
theorem d_Ma_calculate_187 : decode b_Ma_calculate 187 = .ok (.ireturn, 1) := by decide +kernel
theorem d_Ma_calculate_188 : decode b_Ma_calculate 188 = .ok (.iload_n 1, 1) := by decide +kernel
theorem d_Ma_calculate_189 : decode b_Ma_calculate 189 = .ok (.iload_n 2, 1) := by decide +kernel
theorem d_Ma_calculate_190 : decode b_Ma_calculate 190 = .ok (.ior, 1) := by decide +kernel
theorem d_Ma_calculate_191 : decode b_Ma_calculate 191 = .ok (.ireturn, 1) := by decide +kernel
theorem d_Ma_calculate_192 : decode b_Ma_calculate 192 = .ok (.iload_n 1, 1) := by decide +kernel
theorem d_Ma_calculate_193 : decode b_Ma_calculate 193 = .ok (.iload_n 2, 1) := by decide +kernel
theorem d_Ma_calculate_194 : decode b_Ma_calculate 194 = .ok (.ixor, 1) := by decide +kernel
theorem d_Ma_calculate_195 : decode b_Ma_calculate 195 = .ok (.ireturn, 1) := by decide +kernel
theorem d_Ma_calculate_196 : decode b_Ma_calculate 196 = .ok (.iload_n 1, 1) := by decide +kernel
theorem d_Ma_calculate_197 : decode b_Ma_calculate 197 = .ok (.iload_n 2, 1) := by decide +kernel
theorem d_Ma_calculate_198 : decode b_Ma_calculate 198 = .ok (.if_icmp .ne 7, 3) := by decide +kernel
theorem d_Ma_calculate_201 : decode b_Ma_calculate 201 = .ok (.iconst 1, 1) := by decide +kernel
theorem d_Ma_calculate_202 : decode b_Ma_calculate 202 = .ok (.goto 4, 3) := by decide +kernel
theorem d_Ma_calculate_205 : decode b_Ma_calculate 205 = .ok (.iconst 0, 1) := by decide +kernel
theorem d_Ma_calculate_206 : decode b_Ma_calculate 206 = .ok (.invokestatic 243, 3) := by decide +kernel
theorem d_Ma_calculate_209 : decode b_Ma_calculate 209 = .ok (.ireturn, 1) := by decide +kernel
theorem d_Ma_calculate_210 : decode b_Ma_calculate 210 = .ok (.iload_n 1, 1) := by decide +kernel
theorem d_Ma_calculate_211 : decode b_Ma_calculate 211 = .ok (.iload_n 2, 1) := by decide +kernel
theorem d_Ma_calculate_212 : decode b_Ma_calculate 212 = .ok (.if_icmp .ge 7, 3) := by decide +kernel
theorem d_Ma_calculate_215 : decode b_Ma_calculate 215 = .ok (.iconst 1, 1) := by decide +kernel
theorem d_Ma_calculate_216 : decode b_Ma_calculate 216 = .ok (.goto 4, 3) := by decide +kernel
theorem d_Ma_calculate_219 : decode b_Ma_calculate 219 = .ok (.iconst 0, 1) := by decide +kernel
theorem d_Ma_calculate_220 : decode b_Ma_calculate 220 = .ok (.invokestatic 243, 3) := by decide +kernel
theorem d_Ma_calculate_223 : decode b_Ma_calculate 223 = .ok (.ireturn, 1) := by decide +kernel
theorem d_Ma_calculate_224 : decode b_Ma_calculate 224 = .ok (.iload_n 2, 1) := by decide +kernel
theorem d_Ma_calculate_225 : decode b_Ma_calculate 225 = .ok (.ifCond .ne 7, 3) := by decide +kernel
theorem d_Ma_calculate_228 : decode b_Ma_calculate 228 = .ok (.iconst 1, 1) := by decide +kernel
theorem d_Ma_calculate_229 : decode b_Ma_calculate 229 = .ok (.goto 4, 3) := by decide +kernel
theorem d_Ma_calculate_232 : decode b_Ma_calculate 232 = .ok (.iconst 0, 1) := by decide +kernel
theorem d_Ma_calculate_233 : decode b_Ma_calculate 233 = .ok (.invokestatic 243, 3) := by decide +kernel
theorem d_Ma_calculate_236 : decode b_Ma_calculate 236 = .ok (.ireturn, 1) := by decide +kernel
theorem d_Ma_calculate_237 : decode b_Ma_calculate 237 = .ok (.iload_n 2, 1) := by decide +kernel
theorem d_Ma_calculate_238 : decode b_Ma_calculate 238 = .ok (.ineg, 1) := by decide +kernel
theorem d_Ma_calculate_239 : decode b_Ma_calculate 239 = .ok (.ireturn, 1) := by decide +kernel
def wq_Ma_calculate_233 (g : Gm) (post : Int32 → StC → Prop)  (S : StC) (t0 : Int32) : Prop :=
  wp_Ma_flag g (fun (r2 : Int32) (S1 : StC) => (post (r2) S1)) S (t0)
def wq_Ma_calculate_220 (g : Gm) (post : Int32 → StC → Prop)  (S : StC) (t0 : Int32) : Prop :=
  wp_Ma_flag g (fun (r4 : Int32) (S3 : StC) => (post (r4) S3)) S (t0)
def wq_Ma_calculate_206 (g : Gm) (post : Int32 → StC → Prop)  (S : StC) (t0 : Int32) : Prop :=
  wp_Ma_flag g (fun (r6 : Int32) (S5 : StC) => (post (r6) S5)) S (t0)
def wq_Ma_calculate_183 (g : Gm) (post : Int32 → StC → Prop)  (S : StC) (t0 : Int32) : Prop :=
  post (t0) S
def wq_Ma_calculate_171 (g : Gm) (post : Int32 → StC → Prop)  (S : StC) (t0 : Int32) : Prop :=
  post (t0) S
def wp_Ma_calculate (g : Gm) (post : Int32 → StC → Prop) (S : StC) (a0 : Nat) (a1 : Int32) (a2 : Int32) : Prop :=
  ∃ (i7 : Nat), (i7 < 52) ∧ (a0 = g.2.2 (100 + i7)) ∧ (wp_En_ordinal g (fun (r11 : Int32) (S10 : StC) => ((vp_in r11 52) ∧ ((((swE.getD (Int32.toNatClampNeg (r11)) 0) = 3) → ((a2 = 0) → wq_Ma_calculate_171 g post  S10 (0)) ∧ (¬ (a2 = 0) → (¬ a2 = 0) ∧ (wq_Ma_calculate_171 g post  S10 ((a1 / a2))))) ∧ (¬ ((swE.getD (Int32.toNatClampNeg (r11)) 0) = 3) → (((swE.getD (Int32.toNatClampNeg (r11)) 0) = 4) → ((a2 = 0) → wq_Ma_calculate_183 g post  S10 (0)) ∧ (¬ (a2 = 0) → (¬ a2 = 0) ∧ (wq_Ma_calculate_183 g post  S10 ((a1 - a1 / a2 * a2))))) ∧ (¬ ((swE.getD (Int32.toNatClampNeg (r11)) 0) = 4) → (((swE.getD (Int32.toNatClampNeg (r11)) 0) = 5) → post ((-a2)) S10) ∧ (¬ ((swE.getD (Int32.toNatClampNeg (r11)) 0) = 5) → (((swE.getD (Int32.toNatClampNeg (r11)) 0) = 6) → post ((-a2)) S10) ∧ (¬ ((swE.getD (Int32.toNatClampNeg (r11)) 0) = 6) → (((swE.getD (Int32.toNatClampNeg (r11)) 0) = 7) → post ((-a2)) S10) ∧ (¬ ((swE.getD (Int32.toNatClampNeg (r11)) 0) = 7) → (((swE.getD (Int32.toNatClampNeg (r11)) 0) = 8) → post ((-a2)) S10) ∧ (¬ ((swE.getD (Int32.toNatClampNeg (r11)) 0) = 8) → (((swE.getD (Int32.toNatClampNeg (r11)) 0) = 9) → post ((-a2)) S10) ∧ (¬ ((swE.getD (Int32.toNatClampNeg (r11)) 0) = 9) → (((swE.getD (Int32.toNatClampNeg (r11)) 0) = 10) → post ((-a2)) S10) ∧ (¬ ((swE.getD (Int32.toNatClampNeg (r11)) 0) = 10) → (((swE.getD (Int32.toNatClampNeg (r11)) 0) = 11) → post ((-a2)) S10) ∧ (¬ ((swE.getD (Int32.toNatClampNeg (r11)) 0) = 11) → (((swE.getD (Int32.toNatClampNeg (r11)) 0) = 12) → post ((-a2)) S10) ∧ (¬ ((swE.getD (Int32.toNatClampNeg (r11)) 0) = 12) → (((swE.getD (Int32.toNatClampNeg (r11)) 0) = 13) → post ((-a2)) S10) ∧ (¬ ((swE.getD (Int32.toNatClampNeg (r11)) 0) = 13) → (((swE.getD (Int32.toNatClampNeg (r11)) 0) = 14) → post ((-a2)) S10) ∧ (¬ ((swE.getD (Int32.toNatClampNeg (r11)) 0) = 14) → (((swE.getD (Int32.toNatClampNeg (r11)) 0) = 15) → post ((-a2)) S10) ∧ (¬ ((swE.getD (Int32.toNatClampNeg (r11)) 0) = 15) → (((swE.getD (Int32.toNatClampNeg (r11)) 0) = 16) → post ((-a2)) S10) ∧ (¬ ((swE.getD (Int32.toNatClampNeg (r11)) 0) = 16) → (((swE.getD (Int32.toNatClampNeg (r11)) 0) = 17) → post ((-a2)) S10) ∧ (¬ ((swE.getD (Int32.toNatClampNeg (r11)) 0) = 17) → (((swE.getD (Int32.toNatClampNeg (r11)) 0) = 18) → post ((-a2)) S10) ∧ (¬ ((swE.getD (Int32.toNatClampNeg (r11)) 0) = 18) → (((swE.getD (Int32.toNatClampNeg (r11)) 0) = 19) → post ((-a2)) S10) ∧ (¬ ((swE.getD (Int32.toNatClampNeg (r11)) 0) = 19) → (((swE.getD (Int32.toNatClampNeg (r11)) 0) = 20) → post ((-a2)) S10) ∧ (¬ ((swE.getD (Int32.toNatClampNeg (r11)) 0) = 20) → (((swE.getD (Int32.toNatClampNeg (r11)) 0) = 21) → post ((-a2)) S10) ∧ (¬ ((swE.getD (Int32.toNatClampNeg (r11)) 0) = 21) → (((swE.getD (Int32.toNatClampNeg (r11)) 0) = 22) → post ((-a2)) S10) ∧ (¬ ((swE.getD (Int32.toNatClampNeg (r11)) 0) = 22) → (((swE.getD (Int32.toNatClampNeg (r11)) 0) = 23) → post ((-a2)) S10) ∧ (¬ ((swE.getD (Int32.toNatClampNeg (r11)) 0) = 23) → (((swE.getD (Int32.toNatClampNeg (r11)) 0) = 24) → post ((-a2)) S10) ∧ (¬ ((swE.getD (Int32.toNatClampNeg (r11)) 0) = 24) → (((swE.getD (Int32.toNatClampNeg (r11)) 0) = 25) → post ((a1 + a2)) S10) ∧ (¬ ((swE.getD (Int32.toNatClampNeg (r11)) 0) = 25) → (((swE.getD (Int32.toNatClampNeg (r11)) 0) = 26) → post ((a1 - a2)) S10) ∧ (¬ ((swE.getD (Int32.toNatClampNeg (r11)) 0) = 26) → (((swE.getD (Int32.toNatClampNeg (r11)) 0) = 27) → post ((a1 * a2)) S10) ∧ (¬ ((swE.getD (Int32.toNatClampNeg (r11)) 0) = 27) → (((swE.getD (Int32.toNatClampNeg (r11)) 0) = 28) → post ((a1 &&& a2)) S10) ∧ (¬ ((swE.getD (Int32.toNatClampNeg (r11)) 0) = 28) → (((swE.getD (Int32.toNatClampNeg (r11)) 0) = 29) → post ((a1 ||| a2)) S10) ∧ (¬ ((swE.getD (Int32.toNatClampNeg (r11)) 0) = 29) → (((swE.getD (Int32.toNatClampNeg (r11)) 0) = 30) → post ((a1 ^^^ a2)) S10) ∧ (¬ ((swE.getD (Int32.toNatClampNeg (r11)) 0) = 30) → (((swE.getD (Int32.toNatClampNeg (r11)) 0) = 31) → ((a1 = a2) → wq_Ma_calculate_206 g post  S10 (1)) ∧ (¬ (a1 = a2) → wq_Ma_calculate_206 g post  S10 (0))) ∧ (¬ ((swE.getD (Int32.toNatClampNeg (r11)) 0) = 31) → (((swE.getD (Int32.toNatClampNeg (r11)) 0) = 32) → ((a2 ≤ a1) → wq_Ma_calculate_220 g post  S10 (0)) ∧ (¬ (a2 ≤ a1) → wq_Ma_calculate_220 g post  S10 (1))) ∧ (¬ ((swE.getD (Int32.toNatClampNeg (r11)) 0) = 32) → (((swE.getD (Int32.toNatClampNeg (r11)) 0) = 33) → ((a2 = 0) → wq_Ma_calculate_233 g post  S10 (1)) ∧ (¬ (a2 = 0) → wq_Ma_calculate_233 g post  S10 (0))) ∧ (¬ ((swE.getD (Int32.toNatClampNeg (r11)) 0) = 33) → post ((-a2)) S10)))))))))))))))))))))))))))))))))) S (a0))
set_option maxRecDepth 100000 in
set_option maxHeartbeats 4000000 in
theorem c_Ma_calculate (l : Launch) (g : Gm) (sz : Nat) (S : StC) (a0 : Nat) (a1 : Int32) (a2 : Int32) (post : Int32 → StC → Prop) (hw : wp_Ma_calculate g post S a0 a1 a2) : Met l y_Ma_calculate (.code y_Ma_calculate b_Ma_calculate 3 (some .int) :: w_C) (rmM 1 20) (va_Pc [.ref (a0), .int (a1), .int (a2)] (PC g sz S)) (va_Qi post (BC g (AC g sz S)) (AC g sz S)) 0 0 (AC g sz S) := by
  refine ofC_i (by decide) (Nat.le_of_ble_eq_true rfl) (fun p e s m args below meth c Q A H locs ls hx hb hml hts hown hK hA hC hN kr hl hP hD hS => ?_)
  have hl : lv_has ls 3 [(0, .ref (a0)), (1, .int (a1)), (2, .int (a2))] := hl
  unfold wp_Ma_calculate at hw
  have J233 : ∀ (S : StC) (t0 : Int32) (H : Heap) (locs : List Loc) (ls : Array Slot), wq_Ma_calculate_233 g post  S t0 → lv_has ls 3 [] → va_P g.1 classes (wC g S) H → va_D A (wC g S) → va_S A s.heap H locs → W p l e (rmM 1 20) s m args below meth c H locs 0 0 Q (F0 m 233 ls [.int (t0)]) := by
    intro S t0 H locs ls hw hl hP hD hS
    unfold wq_Ma_calculate_233 at hw
    refine cC_iS (As := [.int (t0)]) (rest := []) hx hb hml hown hts hK hC hN hP hD hS hA (Nat.zero_le _) (Nat.zero_le _) hl.1  (qC_34 hts ⟨Nat.le_of_ble_eq_true rfl, Nat.le_of_ble_eq_true rfl⟩) (c_Ma_flag l g H.size _ (t0) _ hw) rfl rfl (Nat.le_of_ble_eq_true rfl) d_Ma_calculate_233 (fun r2 S1 H locs hw hP hD hS => ?_)
    exact kr (r2) S1 _ _ _ _ hw hP hD hS d_Ma_calculate_236
  have J220 : ∀ (S : StC) (t0 : Int32) (H : Heap) (locs : List Loc) (ls : Array Slot), wq_Ma_calculate_220 g post  S t0 → lv_has ls 3 [] → va_P g.1 classes (wC g S) H → va_D A (wC g S) → va_S A s.heap H locs → W p l e (rmM 1 20) s m args below meth c H locs 0 0 Q (F0 m 220 ls [.int (t0)]) := by
    intro S t0 H locs ls hw hl hP hD hS
    unfold wq_Ma_calculate_220 at hw
    refine cC_iS (As := [.int (t0)]) (rest := []) hx hb hml hown hts hK hC hN hP hD hS hA (Nat.zero_le _) (Nat.zero_le _) hl.1  (qC_34 hts ⟨Nat.le_of_ble_eq_true rfl, Nat.le_of_ble_eq_true rfl⟩) (c_Ma_flag l g H.size _ (t0) _ hw) rfl rfl (Nat.le_of_ble_eq_true rfl) d_Ma_calculate_220 (fun r4 S3 H locs hw hP hD hS => ?_)
    exact kr (r4) S3 _ _ _ _ hw hP hD hS d_Ma_calculate_223
  have J206 : ∀ (S : StC) (t0 : Int32) (H : Heap) (locs : List Loc) (ls : Array Slot), wq_Ma_calculate_206 g post  S t0 → lv_has ls 3 [] → va_P g.1 classes (wC g S) H → va_D A (wC g S) → va_S A s.heap H locs → W p l e (rmM 1 20) s m args below meth c H locs 0 0 Q (F0 m 206 ls [.int (t0)]) := by
    intro S t0 H locs ls hw hl hP hD hS
    unfold wq_Ma_calculate_206 at hw
    refine cC_iS (As := [.int (t0)]) (rest := []) hx hb hml hown hts hK hC hN hP hD hS hA (Nat.zero_le _) (Nat.zero_le _) hl.1  (qC_34 hts ⟨Nat.le_of_ble_eq_true rfl, Nat.le_of_ble_eq_true rfl⟩) (c_Ma_flag l g H.size _ (t0) _ hw) rfl rfl (Nat.le_of_ble_eq_true rfl) d_Ma_calculate_206 (fun r6 S5 H locs hw hP hD hS => ?_)
    exact kr (r6) S5 _ _ _ _ hw hP hD hS d_Ma_calculate_209
  have J183 : ∀ (S : StC) (t0 : Int32) (H : Heap) (locs : List Loc) (ls : Array Slot), wq_Ma_calculate_183 g post  S t0 → lv_has ls 3 [] → va_P g.1 classes (wC g S) H → va_D A (wC g S) → va_S A s.heap H locs → W p l e (rmM 1 20) s m args below meth c H locs 0 0 Q (F0 m 183 ls [.int (t0)]) := by
    intro S t0 H locs ls hw hl hP hD hS
    unfold wq_Ma_calculate_183 at hw
    exact kr (t0) S _ _ _ _ hw hP hD hS d_Ma_calculate_183
  have J171 : ∀ (S : StC) (t0 : Int32) (H : Heap) (locs : List Loc) (ls : Array Slot), wq_Ma_calculate_171 g post  S t0 → lv_has ls 3 [] → va_P g.1 classes (wC g S) H → va_D A (wC g S) → va_S A s.heap H locs → W p l e (rmM 1 20) s m args below meth c H locs 0 0 Q (F0 m 171 ls [.int (t0)]) := by
    intro S t0 H locs ls hw hl hP hD hS
    unfold wq_Ma_calculate_171 at hw
    exact kr (t0) S _ _ _ _ hw hP hD hS d_Ma_calculate_171
  refine va_gets (C := "WordSmith$1") (n := "$SwitchMap$WordSmith$BuiltIn") (d := "[I") (v := .ref (g.2.2 90)) hx hb hC.1.2.1 hS hown (hts _ k_C_609) (fun _ h9 => h9) d_Ma_calculate_0 ?_
  refine lv_aload_n hx hb d_Ma_calculate_3 rfl (lv_at hl 0 rfl) ?_
  obtain ⟨i7, hi8, he9, hw⟩ := hw
  refine cC_iU (As := []) (rest := [.ref (g.2.2 90)]) hx hb hml hown hts hK hC hN hP hD hS hA (Nat.zero_le _) (Nat.zero_le _) hl.1 (erecv_C hC hS he9 hi8) (qC_26 hts ⟨Nat.le_of_ble_eq_true rfl, Nat.le_of_ble_eq_true rfl⟩) (c_En_ordinal l g H.size _ (a0) _ hw) rfl rfl (Nat.le_of_ble_eq_true rfl) d_Ma_calculate_4 (fun r11 S10 H locs hw hP hD hS => ?_)
  obtain ⟨hi, hw⟩ := hw
  refine va_ti (v := .int (swE.getD (Int32.toNatClampNeg (r11)) 0)) hx hb hC.1.2.2.1 hS hi rfl d_Ma_calculate_7 ?_
  by_cases hk12 : (swE.getD (Int32.toNatClampNeg (r11)) 0) = 3
  · have hw := hw.1 hk12
    refine sw_in hx hb d_Ma_calculate_8 hk12 (tgt := 160) (off := 152) (by decide) (by decide) rfl (by decide) ?_
    refine lv_iload_n hx hb d_Ma_calculate_160 rfl (lv_at hl 2 rfl) ?_
    refine lv_if_ne hx hb d_Ma_calculate_161 (tgt := 168) (by decide) (fun hc => ?_) (fun hc => ?_)
    · have hw := hw.2 hc
      refine lv_iload_n hx hb d_Ma_calculate_168 rfl (lv_at hl 1 rfl) ?_
      refine lv_iload_n hx hb d_Ma_calculate_169 rfl (lv_at hl 2 rfl) ?_
      obtain ⟨hne, hw⟩ := hw
      refine lv_idiv hx hb d_Ma_calculate_170 hne ?_
      exact J171 S10 ((a1 / a2)) _ _ _ hw (lv_sub hl [] rfl) hP hD hS
    · have hw := hw.1 hc
      refine lv_iconst (v := 0) hx hb d_Ma_calculate_164 (by decide) ?_
      refine lv_goto hx hb d_Ma_calculate_165 (tgt := 171) (by decide) ?_
      exact J171 S10 (0) _ _ _ hw (lv_sub hl [] rfl) hP hD hS
  · have hw := hw.2 hk12
    by_cases hk13 : (swE.getD (Int32.toNatClampNeg (r11)) 0) = 4
    · have hw := hw.1 hk13
      refine sw_in hx hb d_Ma_calculate_8 hk13 (tgt := 172) (off := 164) (by decide) (by decide) rfl (by decide) ?_
      refine lv_iload_n hx hb d_Ma_calculate_172 rfl (lv_at hl 2 rfl) ?_
      refine lv_if_ne hx hb d_Ma_calculate_173 (tgt := 180) (by decide) (fun hc => ?_) (fun hc => ?_)
      · have hw := hw.2 hc
        refine lv_iload_n hx hb d_Ma_calculate_180 rfl (lv_at hl 1 rfl) ?_
        refine lv_iload_n hx hb d_Ma_calculate_181 rfl (lv_at hl 2 rfl) ?_
        obtain ⟨hne, hw⟩ := hw
        refine lv_irem hx hb d_Ma_calculate_182 hne ?_
        exact J183 S10 ((a1 - a1 / a2 * a2)) _ _ _ hw (lv_sub hl [] rfl) hP hD hS
      · have hw := hw.1 hc
        refine lv_iconst (v := 0) hx hb d_Ma_calculate_176 (by decide) ?_
        refine lv_goto hx hb d_Ma_calculate_177 (tgt := 183) (by decide) ?_
        exact J183 S10 (0) _ _ _ hw (lv_sub hl [] rfl) hP hD hS
    · have hw := hw.2 hk13
      by_cases hk14 : (swE.getD (Int32.toNatClampNeg (r11)) 0) = 5
      · have hw := hw.1 hk14
        refine sw_in hx hb d_Ma_calculate_8 hk14 (tgt := 237) (off := 229) (by decide) (by decide) rfl (by decide) ?_
        refine lv_iload_n hx hb d_Ma_calculate_237 rfl (lv_at hl 2 rfl) ?_
        refine lv_ineg hx hb d_Ma_calculate_238 ?_
        exact kr ((-a2)) S10 _ _ _ _ hw hP hD hS d_Ma_calculate_239
      · have hw := hw.2 hk14
        by_cases hk15 : (swE.getD (Int32.toNatClampNeg (r11)) 0) = 6
        · have hw := hw.1 hk15
          refine sw_in hx hb d_Ma_calculate_8 hk15 (tgt := 237) (off := 229) (by decide) (by decide) rfl (by decide) ?_
          refine lv_iload_n hx hb d_Ma_calculate_237 rfl (lv_at hl 2 rfl) ?_
          refine lv_ineg hx hb d_Ma_calculate_238 ?_
          exact kr ((-a2)) S10 _ _ _ _ hw hP hD hS d_Ma_calculate_239
        · have hw := hw.2 hk15
          by_cases hk16 : (swE.getD (Int32.toNatClampNeg (r11)) 0) = 7
          · have hw := hw.1 hk16
            refine sw_in hx hb d_Ma_calculate_8 hk16 (tgt := 237) (off := 229) (by decide) (by decide) rfl (by decide) ?_
            refine lv_iload_n hx hb d_Ma_calculate_237 rfl (lv_at hl 2 rfl) ?_
            refine lv_ineg hx hb d_Ma_calculate_238 ?_
            exact kr ((-a2)) S10 _ _ _ _ hw hP hD hS d_Ma_calculate_239
          · have hw := hw.2 hk16
            by_cases hk17 : (swE.getD (Int32.toNatClampNeg (r11)) 0) = 8
            · have hw := hw.1 hk17
              refine sw_in hx hb d_Ma_calculate_8 hk17 (tgt := 237) (off := 229) (by decide) (by decide) rfl (by decide) ?_
              refine lv_iload_n hx hb d_Ma_calculate_237 rfl (lv_at hl 2 rfl) ?_
              refine lv_ineg hx hb d_Ma_calculate_238 ?_
              exact kr ((-a2)) S10 _ _ _ _ hw hP hD hS d_Ma_calculate_239
            · have hw := hw.2 hk17
              by_cases hk18 : (swE.getD (Int32.toNatClampNeg (r11)) 0) = 9
              · have hw := hw.1 hk18
                refine sw_in hx hb d_Ma_calculate_8 hk18 (tgt := 237) (off := 229) (by decide) (by decide) rfl (by decide) ?_
                refine lv_iload_n hx hb d_Ma_calculate_237 rfl (lv_at hl 2 rfl) ?_
                refine lv_ineg hx hb d_Ma_calculate_238 ?_
                exact kr ((-a2)) S10 _ _ _ _ hw hP hD hS d_Ma_calculate_239
              · have hw := hw.2 hk18
                by_cases hk19 : (swE.getD (Int32.toNatClampNeg (r11)) 0) = 10
                · have hw := hw.1 hk19
                  refine sw_in hx hb d_Ma_calculate_8 hk19 (tgt := 237) (off := 229) (by decide) (by decide) rfl (by decide) ?_
                  refine lv_iload_n hx hb d_Ma_calculate_237 rfl (lv_at hl 2 rfl) ?_
                  refine lv_ineg hx hb d_Ma_calculate_238 ?_
                  exact kr ((-a2)) S10 _ _ _ _ hw hP hD hS d_Ma_calculate_239
                · have hw := hw.2 hk19
                  by_cases hk20 : (swE.getD (Int32.toNatClampNeg (r11)) 0) = 11
                  · have hw := hw.1 hk20
                    refine sw_in hx hb d_Ma_calculate_8 hk20 (tgt := 237) (off := 229) (by decide) (by decide) rfl (by decide) ?_
                    refine lv_iload_n hx hb d_Ma_calculate_237 rfl (lv_at hl 2 rfl) ?_
                    refine lv_ineg hx hb d_Ma_calculate_238 ?_
                    exact kr ((-a2)) S10 _ _ _ _ hw hP hD hS d_Ma_calculate_239
                  · have hw := hw.2 hk20
                    by_cases hk21 : (swE.getD (Int32.toNatClampNeg (r11)) 0) = 12
                    · have hw := hw.1 hk21
                      refine sw_in hx hb d_Ma_calculate_8 hk21 (tgt := 237) (off := 229) (by decide) (by decide) rfl (by decide) ?_
                      refine lv_iload_n hx hb d_Ma_calculate_237 rfl (lv_at hl 2 rfl) ?_
                      refine lv_ineg hx hb d_Ma_calculate_238 ?_
                      exact kr ((-a2)) S10 _ _ _ _ hw hP hD hS d_Ma_calculate_239
                    · have hw := hw.2 hk21
                      by_cases hk22 : (swE.getD (Int32.toNatClampNeg (r11)) 0) = 13
                      · have hw := hw.1 hk22
                        refine sw_in hx hb d_Ma_calculate_8 hk22 (tgt := 237) (off := 229) (by decide) (by decide) rfl (by decide) ?_
                        refine lv_iload_n hx hb d_Ma_calculate_237 rfl (lv_at hl 2 rfl) ?_
                        refine lv_ineg hx hb d_Ma_calculate_238 ?_
                        exact kr ((-a2)) S10 _ _ _ _ hw hP hD hS d_Ma_calculate_239
                      · have hw := hw.2 hk22
                        by_cases hk23 : (swE.getD (Int32.toNatClampNeg (r11)) 0) = 14
                        · have hw := hw.1 hk23
                          refine sw_in hx hb d_Ma_calculate_8 hk23 (tgt := 237) (off := 229) (by decide) (by decide) rfl (by decide) ?_
                          refine lv_iload_n hx hb d_Ma_calculate_237 rfl (lv_at hl 2 rfl) ?_
                          refine lv_ineg hx hb d_Ma_calculate_238 ?_
                          exact kr ((-a2)) S10 _ _ _ _ hw hP hD hS d_Ma_calculate_239
                        · have hw := hw.2 hk23
                          by_cases hk24 : (swE.getD (Int32.toNatClampNeg (r11)) 0) = 15
                          · have hw := hw.1 hk24
                            refine sw_in hx hb d_Ma_calculate_8 hk24 (tgt := 237) (off := 229) (by decide) (by decide) rfl (by decide) ?_
                            refine lv_iload_n hx hb d_Ma_calculate_237 rfl (lv_at hl 2 rfl) ?_
                            refine lv_ineg hx hb d_Ma_calculate_238 ?_
                            exact kr ((-a2)) S10 _ _ _ _ hw hP hD hS d_Ma_calculate_239
                          · have hw := hw.2 hk24
                            by_cases hk25 : (swE.getD (Int32.toNatClampNeg (r11)) 0) = 16
                            · have hw := hw.1 hk25
                              refine sw_in hx hb d_Ma_calculate_8 hk25 (tgt := 237) (off := 229) (by decide) (by decide) rfl (by decide) ?_
                              refine lv_iload_n hx hb d_Ma_calculate_237 rfl (lv_at hl 2 rfl) ?_
                              refine lv_ineg hx hb d_Ma_calculate_238 ?_
                              exact kr ((-a2)) S10 _ _ _ _ hw hP hD hS d_Ma_calculate_239
                            · have hw := hw.2 hk25
                              by_cases hk26 : (swE.getD (Int32.toNatClampNeg (r11)) 0) = 17
                              · have hw := hw.1 hk26
                                refine sw_in hx hb d_Ma_calculate_8 hk26 (tgt := 237) (off := 229) (by decide) (by decide) rfl (by decide) ?_
                                refine lv_iload_n hx hb d_Ma_calculate_237 rfl (lv_at hl 2 rfl) ?_
                                refine lv_ineg hx hb d_Ma_calculate_238 ?_
                                exact kr ((-a2)) S10 _ _ _ _ hw hP hD hS d_Ma_calculate_239
                              · have hw := hw.2 hk26
                                by_cases hk27 : (swE.getD (Int32.toNatClampNeg (r11)) 0) = 18
                                · have hw := hw.1 hk27
                                  refine sw_in hx hb d_Ma_calculate_8 hk27 (tgt := 237) (off := 229) (by decide) (by decide) rfl (by decide) ?_
                                  refine lv_iload_n hx hb d_Ma_calculate_237 rfl (lv_at hl 2 rfl) ?_
                                  refine lv_ineg hx hb d_Ma_calculate_238 ?_
                                  exact kr ((-a2)) S10 _ _ _ _ hw hP hD hS d_Ma_calculate_239
                                · have hw := hw.2 hk27
                                  by_cases hk28 : (swE.getD (Int32.toNatClampNeg (r11)) 0) = 19
                                  · have hw := hw.1 hk28
                                    refine sw_in hx hb d_Ma_calculate_8 hk28 (tgt := 237) (off := 229) (by decide) (by decide) rfl (by decide) ?_
                                    refine lv_iload_n hx hb d_Ma_calculate_237 rfl (lv_at hl 2 rfl) ?_
                                    refine lv_ineg hx hb d_Ma_calculate_238 ?_
                                    exact kr ((-a2)) S10 _ _ _ _ hw hP hD hS d_Ma_calculate_239
                                  · have hw := hw.2 hk28
                                    by_cases hk29 : (swE.getD (Int32.toNatClampNeg (r11)) 0) = 20
                                    · have hw := hw.1 hk29
                                      refine sw_in hx hb d_Ma_calculate_8 hk29 (tgt := 237) (off := 229) (by decide) (by decide) rfl (by decide) ?_
                                      refine lv_iload_n hx hb d_Ma_calculate_237 rfl (lv_at hl 2 rfl) ?_
                                      refine lv_ineg hx hb d_Ma_calculate_238 ?_
                                      exact kr ((-a2)) S10 _ _ _ _ hw hP hD hS d_Ma_calculate_239
                                    · have hw := hw.2 hk29
                                      by_cases hk30 : (swE.getD (Int32.toNatClampNeg (r11)) 0) = 21
                                      · have hw := hw.1 hk30
                                        refine sw_in hx hb d_Ma_calculate_8 hk30 (tgt := 237) (off := 229) (by decide) (by decide) rfl (by decide) ?_
                                        refine lv_iload_n hx hb d_Ma_calculate_237 rfl (lv_at hl 2 rfl) ?_
                                        refine lv_ineg hx hb d_Ma_calculate_238 ?_
                                        exact kr ((-a2)) S10 _ _ _ _ hw hP hD hS d_Ma_calculate_239
                                      · have hw := hw.2 hk30
                                        by_cases hk31 : (swE.getD (Int32.toNatClampNeg (r11)) 0) = 22
                                        · have hw := hw.1 hk31
                                          refine sw_in hx hb d_Ma_calculate_8 hk31 (tgt := 237) (off := 229) (by decide) (by decide) rfl (by decide) ?_
                                          refine lv_iload_n hx hb d_Ma_calculate_237 rfl (lv_at hl 2 rfl) ?_
                                          refine lv_ineg hx hb d_Ma_calculate_238 ?_
                                          exact kr ((-a2)) S10 _ _ _ _ hw hP hD hS d_Ma_calculate_239
                                        · have hw := hw.2 hk31
                                          by_cases hk32 : (swE.getD (Int32.toNatClampNeg (r11)) 0) = 23
                                          · have hw := hw.1 hk32
                                            refine sw_in hx hb d_Ma_calculate_8 hk32 (tgt := 237) (off := 229) (by decide) (by decide) rfl (by decide) ?_
                                            refine lv_iload_n hx hb d_Ma_calculate_237 rfl (lv_at hl 2 rfl) ?_
                                            refine lv_ineg hx hb d_Ma_calculate_238 ?_
                                            exact kr ((-a2)) S10 _ _ _ _ hw hP hD hS d_Ma_calculate_239
                                          · have hw := hw.2 hk32
                                            by_cases hk33 : (swE.getD (Int32.toNatClampNeg (r11)) 0) = 24
                                            · have hw := hw.1 hk33
                                              refine sw_in hx hb d_Ma_calculate_8 hk33 (tgt := 237) (off := 229) (by decide) (by decide) rfl (by decide) ?_
                                              refine lv_iload_n hx hb d_Ma_calculate_237 rfl (lv_at hl 2 rfl) ?_
                                              refine lv_ineg hx hb d_Ma_calculate_238 ?_
                                              exact kr ((-a2)) S10 _ _ _ _ hw hP hD hS d_Ma_calculate_239
                                            · have hw := hw.2 hk33
                                              by_cases hk34 : (swE.getD (Int32.toNatClampNeg (r11)) 0) = 25
                                              · have hw := hw.1 hk34
                                                refine sw_in hx hb d_Ma_calculate_8 hk34 (tgt := 148) (off := 140) (by decide) (by decide) rfl (by decide) ?_
                                                refine lv_iload_n hx hb d_Ma_calculate_148 rfl (lv_at hl 1 rfl) ?_
                                                refine lv_iload_n hx hb d_Ma_calculate_149 rfl (lv_at hl 2 rfl) ?_
                                                refine lv_iadd hx hb d_Ma_calculate_150 ?_
                                                exact kr ((a1 + a2)) S10 _ _ _ _ hw hP hD hS d_Ma_calculate_151
                                              · have hw := hw.2 hk34
                                                by_cases hk35 : (swE.getD (Int32.toNatClampNeg (r11)) 0) = 26
                                                · have hw := hw.1 hk35
                                                  refine sw_in hx hb d_Ma_calculate_8 hk35 (tgt := 152) (off := 144) (by decide) (by decide) rfl (by decide) ?_
                                                  refine lv_iload_n hx hb d_Ma_calculate_152 rfl (lv_at hl 1 rfl) ?_
                                                  refine lv_iload_n hx hb d_Ma_calculate_153 rfl (lv_at hl 2 rfl) ?_
                                                  refine lv_isub hx hb d_Ma_calculate_154 ?_
                                                  exact kr ((a1 - a2)) S10 _ _ _ _ hw hP hD hS d_Ma_calculate_155
                                                · have hw := hw.2 hk35
                                                  by_cases hk36 : (swE.getD (Int32.toNatClampNeg (r11)) 0) = 27
                                                  · have hw := hw.1 hk36
                                                    refine sw_in hx hb d_Ma_calculate_8 hk36 (tgt := 156) (off := 148) (by decide) (by decide) rfl (by decide) ?_
                                                    refine lv_iload_n hx hb d_Ma_calculate_156 rfl (lv_at hl 1 rfl) ?_
                                                    refine lv_iload_n hx hb d_Ma_calculate_157 rfl (lv_at hl 2 rfl) ?_
                                                    refine lv_imul hx hb d_Ma_calculate_158 ?_
                                                    exact kr ((a1 * a2)) S10 _ _ _ _ hw hP hD hS d_Ma_calculate_159
                                                  · have hw := hw.2 hk36
                                                    by_cases hk37 : (swE.getD (Int32.toNatClampNeg (r11)) 0) = 28
                                                    · have hw := hw.1 hk37
                                                      refine sw_in hx hb d_Ma_calculate_8 hk37 (tgt := 184) (off := 176) (by decide) (by decide) rfl (by decide) ?_
                                                      refine lv_iload_n hx hb d_Ma_calculate_184 rfl (lv_at hl 1 rfl) ?_
                                                      refine lv_iload_n hx hb d_Ma_calculate_185 rfl (lv_at hl 2 rfl) ?_
                                                      refine lv_iand hx hb d_Ma_calculate_186 ?_
                                                      exact kr ((a1 &&& a2)) S10 _ _ _ _ hw hP hD hS d_Ma_calculate_187
                                                    · have hw := hw.2 hk37
                                                      by_cases hk38 : (swE.getD (Int32.toNatClampNeg (r11)) 0) = 29
                                                      · have hw := hw.1 hk38
                                                        refine sw_in hx hb d_Ma_calculate_8 hk38 (tgt := 188) (off := 180) (by decide) (by decide) rfl (by decide) ?_
                                                        refine lv_iload_n hx hb d_Ma_calculate_188 rfl (lv_at hl 1 rfl) ?_
                                                        refine lv_iload_n hx hb d_Ma_calculate_189 rfl (lv_at hl 2 rfl) ?_
                                                        refine lv_ior hx hb d_Ma_calculate_190 ?_
                                                        exact kr ((a1 ||| a2)) S10 _ _ _ _ hw hP hD hS d_Ma_calculate_191
                                                      · have hw := hw.2 hk38
                                                        by_cases hk39 : (swE.getD (Int32.toNatClampNeg (r11)) 0) = 30
                                                        · have hw := hw.1 hk39
                                                          refine sw_in hx hb d_Ma_calculate_8 hk39 (tgt := 192) (off := 184) (by decide) (by decide) rfl (by decide) ?_
                                                          refine lv_iload_n hx hb d_Ma_calculate_192 rfl (lv_at hl 1 rfl) ?_
                                                          refine lv_iload_n hx hb d_Ma_calculate_193 rfl (lv_at hl 2 rfl) ?_
                                                          refine lv_ixor hx hb d_Ma_calculate_194 ?_
                                                          exact kr ((a1 ^^^ a2)) S10 _ _ _ _ hw hP hD hS d_Ma_calculate_195
                                                        · have hw := hw.2 hk39
                                                          by_cases hk40 : (swE.getD (Int32.toNatClampNeg (r11)) 0) = 31
                                                          · have hw := hw.1 hk40
                                                            refine sw_in hx hb d_Ma_calculate_8 hk40 (tgt := 196) (off := 188) (by decide) (by decide) rfl (by decide) ?_
                                                            refine lv_iload_n hx hb d_Ma_calculate_196 rfl (lv_at hl 1 rfl) ?_
                                                            refine lv_iload_n hx hb d_Ma_calculate_197 rfl (lv_at hl 2 rfl) ?_
                                                            refine lv_icmp_ne hx hb d_Ma_calculate_198 (tgt := 205) (by decide) (fun hc => ?_) (fun hc => ?_)
                                                            · have hw := hw.2 hc
                                                              refine lv_iconst (v := 0) hx hb d_Ma_calculate_205 (by decide) ?_
                                                              exact J206 S10 (0) _ _ _ hw (lv_sub hl [] rfl) hP hD hS
                                                            · have hw := hw.1 hc
                                                              refine lv_iconst (v := 1) hx hb d_Ma_calculate_201 (by decide) ?_
                                                              refine lv_goto hx hb d_Ma_calculate_202 (tgt := 206) (by decide) ?_
                                                              exact J206 S10 (1) _ _ _ hw (lv_sub hl [] rfl) hP hD hS
                                                          · have hw := hw.2 hk40
                                                            by_cases hk41 : (swE.getD (Int32.toNatClampNeg (r11)) 0) = 32
                                                            · have hw := hw.1 hk41
                                                              refine sw_in hx hb d_Ma_calculate_8 hk41 (tgt := 210) (off := 202) (by decide) (by decide) rfl (by decide) ?_
                                                              refine lv_iload_n hx hb d_Ma_calculate_210 rfl (lv_at hl 1 rfl) ?_
                                                              refine lv_iload_n hx hb d_Ma_calculate_211 rfl (lv_at hl 2 rfl) ?_
                                                              refine lv_icmp_ge hx hb d_Ma_calculate_212 (tgt := 219) (by decide) (fun hc => ?_) (fun hc => ?_)
                                                              · have hw := hw.1 hc
                                                                refine lv_iconst (v := 0) hx hb d_Ma_calculate_219 (by decide) ?_
                                                                exact J220 S10 (0) _ _ _ hw (lv_sub hl [] rfl) hP hD hS
                                                              · have hw := hw.2 hc
                                                                refine lv_iconst (v := 1) hx hb d_Ma_calculate_215 (by decide) ?_
                                                                refine lv_goto hx hb d_Ma_calculate_216 (tgt := 220) (by decide) ?_
                                                                exact J220 S10 (1) _ _ _ hw (lv_sub hl [] rfl) hP hD hS
                                                            · have hw := hw.2 hk41
                                                              by_cases hk42 : (swE.getD (Int32.toNatClampNeg (r11)) 0) = 33
                                                              · have hw := hw.1 hk42
                                                                refine sw_in hx hb d_Ma_calculate_8 hk42 (tgt := 224) (off := 216) (by decide) (by decide) rfl (by decide) ?_
                                                                refine lv_iload_n hx hb d_Ma_calculate_224 rfl (lv_at hl 2 rfl) ?_
                                                                refine lv_if_ne hx hb d_Ma_calculate_225 (tgt := 232) (by decide) (fun hc => ?_) (fun hc => ?_)
                                                                · have hw := hw.2 hc
                                                                  refine lv_iconst (v := 0) hx hb d_Ma_calculate_232 (by decide) ?_
                                                                  exact J233 S10 (0) _ _ _ hw (lv_sub hl [] rfl) hP hD hS
                                                                · have hw := hw.1 hc
                                                                  refine lv_iconst (v := 1) hx hb d_Ma_calculate_228 (by decide) ?_
                                                                  refine lv_goto hx hb d_Ma_calculate_229 (tgt := 233) (by decide) ?_
                                                                  exact J233 S10 (1) _ _ _ hw (lv_sub hl [] rfl) hP hD hS
                                                              · have hw := hw.2 hk42
                                                                have n0 := lv_neT hk12 (by decide : (3 : Int32).toInt = 3)
                                                                have n1 := lv_neT hk13 (by decide : (4 : Int32).toInt = 4)
                                                                have n2 := lv_neT hk14 (by decide : (5 : Int32).toInt = 5)
                                                                have n3 := lv_neT hk15 (by decide : (6 : Int32).toInt = 6)
                                                                have n4 := lv_neT hk16 (by decide : (7 : Int32).toInt = 7)
                                                                have n5 := lv_neT hk17 (by decide : (8 : Int32).toInt = 8)
                                                                have n6 := lv_neT hk18 (by decide : (9 : Int32).toInt = 9)
                                                                have n7 := lv_neT hk19 (by decide : (10 : Int32).toInt = 10)
                                                                have n8 := lv_neT hk20 (by decide : (11 : Int32).toInt = 11)
                                                                have n9 := lv_neT hk21 (by decide : (12 : Int32).toInt = 12)
                                                                have n10 := lv_neT hk22 (by decide : (13 : Int32).toInt = 13)
                                                                have n11 := lv_neT hk23 (by decide : (14 : Int32).toInt = 14)
                                                                have n12 := lv_neT hk24 (by decide : (15 : Int32).toInt = 15)
                                                                have n13 := lv_neT hk25 (by decide : (16 : Int32).toInt = 16)
                                                                have n14 := lv_neT hk26 (by decide : (17 : Int32).toInt = 17)
                                                                have n15 := lv_neT hk27 (by decide : (18 : Int32).toInt = 18)
                                                                have n16 := lv_neT hk28 (by decide : (19 : Int32).toInt = 19)
                                                                have n17 := lv_neT hk29 (by decide : (20 : Int32).toInt = 20)
                                                                have n18 := lv_neT hk30 (by decide : (21 : Int32).toInt = 21)
                                                                have n19 := lv_neT hk31 (by decide : (22 : Int32).toInt = 22)
                                                                have n20 := lv_neT hk32 (by decide : (23 : Int32).toInt = 23)
                                                                have n21 := lv_neT hk33 (by decide : (24 : Int32).toInt = 24)
                                                                have n22 := lv_neT hk34 (by decide : (25 : Int32).toInt = 25)
                                                                have n23 := lv_neT hk35 (by decide : (26 : Int32).toInt = 26)
                                                                have n24 := lv_neT hk36 (by decide : (27 : Int32).toInt = 27)
                                                                have n25 := lv_neT hk37 (by decide : (28 : Int32).toInt = 28)
                                                                have n26 := lv_neT hk38 (by decide : (29 : Int32).toInt = 29)
                                                                have n27 := lv_neT hk39 (by decide : (30 : Int32).toInt = 30)
                                                                have n28 := lv_neT hk40 (by decide : (31 : Int32).toInt = 31)
                                                                have n29 := lv_neT hk41 (by decide : (32 : Int32).toInt = 32)
                                                                have n30 := lv_neT hk42 (by decide : (33 : Int32).toInt = 33)
                                                                refine lv_tableOut hx hb d_Ma_calculate_8 (tgt := 237) (by omega) (by decide) ?_
                                                                refine lv_iload_n hx hb d_Ma_calculate_237 rfl (lv_at hl 2 rfl) ?_
                                                                refine lv_ineg hx hb d_Ma_calculate_238 ?_
                                                                exact kr ((-a2)) S10 _ _ _ _ hw hP hD hS d_Ma_calculate_239
