theorem qC_83 {R : Room} {s : State} {args : Array Value} (hts : ∀ w ∈ w_C, w.before args s = true) (hR : (rmM 0 0).frames + 1 ≤ R.frames ∧ 8 + (1 + 11) + (rmM 0 0).locals ≤ R.locals) : CallW R s args "WordSmith$Reader" R_Di 199 y_Di_isFull b_Di_isFull 1 (some .boolean) (.code y_Di_isFull b_Di_isFull 1 (some .boolean) :: w_C) (rmM 0 0) 0 0 0 := ⟨callB_of 0 hts (good_C k_C_477) rfl rfl rfl (hts _ k_C_9) (hts _ k_C_474) ⟨by decide +kernel, by decide +kernel, by decide +kernel⟩ hR, hts _ k_C_475, hts _ k_C_476⟩
theorem qC_84 {R : Room} {s : State} {args : Array Value} (hts : ∀ w ∈ w_C, w.before args s = true) (hR : (rmM 0 0).frames + 1 ≤ R.frames ∧ 8 + (1 + 11) + (rmM 0 0).locals ≤ R.locals) : va_CU R s args "WordSmith$Reader" "WordSmith$BuiltIn" "java/lang/Enum" 208 ⟨"WordSmith$BuiltIn", "ordinal", "()I"⟩ y_En_ordinal b_En_ordinal 1 (some .int) (.code y_En_ordinal b_En_ordinal 1 (some .int) :: w_C) (rmM 0 0) 0 0 0 := va_cwU 0 hts (good_U k_C_479 k_C_480 k_C_481 k_C_482 k_C_18 k_C_483) rfl rfl rfl rfl ⟨by decide +kernel, by decide +kernel, by decide +kernel⟩ hR
theorem qC_85 {R : Room} {s : State} {args : Array Value} (hts : ∀ w ∈ w_C, w.before args s = true) (hR : (rmM 0 0).frames + 1 ≤ R.frames ∧ 8 + (4 + 11) + (rmM 0 0).locals ≤ R.locals) : CallW R s args "WordSmith$Reader" R_Me 211 y_Me_canGrow b_Me_canGrow 4 (some .boolean) (.code y_Me_canGrow b_Me_canGrow 4 (some .boolean) :: w_C) (rmM 0 0) 0 0 1 := ⟨callB_of 1 hts (good_C k_C_487) rfl rfl rfl (hts _ k_C_8) (hts _ k_C_484) ⟨by decide +kernel, by decide +kernel, by decide +kernel⟩ hR, hts _ k_C_485, hts _ k_C_486⟩
theorem qA_40 {R : Room} {s : State} {args : Array Value} {mc1 ms1 : Nat} (hts : ∀ w ∈ w_C, w.before args s = true) (hR : (rmA 2 41 mc1 ms1).frames + 1 ≤ R.frames ∧ 8 + (4 + 11) + (rmA 2 41 mc1 ms1).locals ≤ R.locals) : CallW R s args "WordSmith$Reader" R_Rd 219 y_Rd_makeNumberWord b_Rd_makeNumberWord 4 none (.code y_Rd_makeNumberWord b_Rd_makeNumberWord 4 none :: w_C) (rmA 2 41 mc1 ms1) mc1 ms1 2 := ⟨callB_of 2 hts (good_C k_C_491) rfl rfl rfl (hts _ k_C_5) (hts _ k_C_489) ⟨by decide +kernel, by decide +kernel, by decide +kernel⟩ hR, hts _ k_C_490, hts _ k_C_788⟩
theorem qC_86 {R : Room} {s : State} {args : Array Value} (hts : ∀ w ∈ w_C, w.before args s = true) (hR : (rmM 1 23).frames + 1 ≤ R.frames ∧ 8 + (2 + 11) + (rmM 1 23).locals ≤ R.locals) : CallW R s args "WordSmith$Reader" R_Me 223 y_Me_append b_Me_append 2 none (.code y_Me_append b_Me_append 2 none :: w_C) (rmM 1 23) 0 0 1 := ⟨callB_of 1 hts (good_C k_C_511) rfl rfl rfl (hts _ k_C_8) (hts _ k_C_508) ⟨by decide +kernel, by decide +kernel, by decide +kernel⟩ hR, hts _ k_C_509, hts _ k_C_510⟩
theorem qC_87 {R : Room} {s : State} {args : Array Value} (hts : ∀ w ∈ w_C, w.before args s = true) (hR : (rmM 0 0).frames + 1 ≤ R.frames ∧ 8 + (1 + 11) + (rmM 0 0).locals ≤ R.locals) : CallW R s args "WordSmith$Reader" R_N 227 y_N_pop b_N_pop 1 (some .int) (.code y_N_pop b_N_pop 1 (some .int) :: w_C) (rmM 0 0) 0 0 0 := ⟨callB_of 0 hts (good_C k_C_516) rfl rfl rfl (hts _ k_C_7) (hts _ k_C_513) ⟨by decide +kernel, by decide +kernel, by decide +kernel⟩ hR, hts _ k_C_514, hts _ k_C_515⟩
theorem qA_41 {R : Room} {s : State} {args : Array Value} {mc1 ms1 : Nat} (hts : ∀ w ∈ w_C, w.before args s = true) (hR : (rmA 2 41 mc1 ms1).frames + 1 ≤ R.frames ∧ 8 + (2 + 11) + (rmA 2 41 mc1 ms1).locals ≤ R.locals) : CallW R s args "WordSmith$Reader" R_Co 230 y_Co_begin b_Co_begin 2 none (.code y_Co_begin b_Co_begin 2 none :: w_C) (rmA 2 41 mc1 ms1) mc1 ms1 1 := ⟨callB_of 1 hts (good_C k_C_520) rfl rfl rfl (hts _ k_C_11) (hts _ k_C_517) ⟨by decide +kernel, by decide +kernel, by decide +kernel⟩ hR, hts _ k_C_518, hts _ k_C_519⟩
theorem d_Rd_makeWord_0 : decode b_Rd_makeWord 0 = .ok (.aload_n 0, 1) := by decide +kernel
theorem d_Rd_makeWord_1 : decode b_Rd_makeWord 1 = .ok (.getfield 12, 3) := by decide +kernel
theorem d_Rd_makeWord_4 : decode b_Rd_makeWord 4 = .ok (.getfield 183, 3) := by decide +kernel
theorem d_Rd_makeWord_7 : decode b_Rd_makeWord 7 = .ok (.astore_n 3, 1) := by decide +kernel
theorem d_Rd_makeWord_8 : decode b_Rd_makeWord 8 = .ok (.aload_n 0, 1) := by decide +kernel
theorem d_Rd_makeWord_9 : decode b_Rd_makeWord 9 = .ok (.getfield 12, 3) := by decide +kernel
theorem d_Rd_makeWord_12 : decode b_Rd_makeWord 12 = .ok (.getfield 187, 3) := by decide +kernel
theorem d_Rd_makeWord_15 : decode b_Rd_makeWord 15 = .ok (.getfield 191, 3) := by decide +kernel
theorem d_Rd_makeWord_18 : decode b_Rd_makeWord 18 = .ok (.aload_n 1, 1) := by decide +kernel
theorem d_Rd_makeWord_19 : decode b_Rd_makeWord 19 = .ok (.getfield 196, 3) := by decide +kernel
theorem d_Rd_makeWord_22 : decode b_Rd_makeWord 22 = .ok (.if_icmp .ge 5, 3) := by decide +kernel
theorem d_Rd_makeWord_25 : decode b_Rd_makeWord 25 = .ok (.iconst 2, 1) := by decide +kernel
theorem d_Rd_makeWord_26 : decode b_Rd_makeWord 26 = .ok (.ireturn, 1) := by decide +kernel
theorem d_Rd_makeWord_27 : decode b_Rd_makeWord 27 = .ok (.aload_n 0, 1) := by decide +kernel
theorem d_Rd_makeWord_28 : decode b_Rd_makeWord 28 = .ok (.getfield 12, 3) := by decide +kernel
theorem d_Rd_makeWord_31 : decode b_Rd_makeWord 31 = .ok (.getfield 94, 3) := by decide +kernel
theorem d_Rd_makeWord_34 : decode b_Rd_makeWord 34 = .ok (.invokevirtual 199, 3) := by decide +kernel
theorem d_Rd_makeWord_37 : decode b_Rd_makeWord 37 = .ok (.ifCond .eq 5, 3) := by decide +kernel
theorem d_Rd_makeWord_40 : decode b_Rd_makeWord 40 = .ok (.iconst 3, 1) := by decide +kernel
theorem d_Rd_makeWord_41 : decode b_Rd_makeWord 41 = .ok (.ireturn, 1) := by decide +kernel
theorem d_Rd_makeWord_42 : decode b_Rd_makeWord 42 = .ok (.getstatic 202, 3) := by decide +kernel
theorem d_Rd_makeWord_45 : decode b_Rd_makeWord 45 = .ok (.aload_n 1, 1) := by decide +kernel
theorem d_Rd_makeWord_46 : decode b_Rd_makeWord 46 = .ok (.invokevirtual 208, 3) := by decide +kernel
theorem d_Rd_makeWord_49 : decode b_Rd_makeWord 49 = .ok (.iaload, 1) := by decide +kernel
theorem d_Rd_makeWord_50 : decode b_Rd_makeWord 50 = .ok (.lookupswitch 69 #[(45, 26), (46, 52)], 26) := by decide +kernel
theorem d_Rd_makeWord_76 : decode b_Rd_makeWord 76 = .ok (.aload_n 3, 1) := by decide +kernel
theorem d_Rd_makeWord_77 : decode b_Rd_makeWord 77 = .ok (.iconst 1, 1) := by decide +kernel
theorem d_Rd_makeWord_78 : decode b_Rd_makeWord 78 = .ok (.invokevirtual 211, 3) := by decide +kernel
theorem d_Rd_makeWord_81 : decode b_Rd_makeWord 81 = .ok (.ifCond .ne 5, 3) := by decide +kernel
theorem d_Rd_makeWord_84 : decode b_Rd_makeWord 84 = .ok (.iconst 3, 1) := by decide +kernel
theorem d_Rd_makeWord_85 : decode b_Rd_makeWord 85 = .ok (.ireturn, 1) := by decide +kernel
theorem d_Rd_makeWord_86 : decode b_Rd_makeWord 86 = .ok (.aload_n 0, 1) := by decide +kernel
theorem d_Rd_makeWord_87 : decode b_Rd_makeWord 87 = .ok (.aload_n 2, 1) := by decide +kernel
theorem d_Rd_makeWord_88 : decode b_Rd_makeWord 88 = .ok (.aload_n 3, 1) := by decide +kernel
theorem d_Rd_makeWord_89 : decode b_Rd_makeWord 89 = .ok (.getfield 216, 3) := by decide +kernel
theorem d_Rd_makeWord_92 : decode b_Rd_makeWord 92 = .ok (.invokevirtual 219, 3) := by decide +kernel
theorem d_Rd_makeWord_95 : decode b_Rd_makeWord 95 = .ok (.aload_n 3, 1) := by decide +kernel
theorem d_Rd_makeWord_96 : decode b_Rd_makeWord 96 = .ok (.iconst 0, 1) := by decide +kernel
theorem d_Rd_makeWord_97 : decode b_Rd_makeWord 97 = .ok (.invokevirtual 223, 3) := by decide +kernel
theorem d_Rd_makeWord_100 : decode b_Rd_makeWord 100 = .ok (.iconst 0, 1) := by decide +kernel
theorem d_Rd_makeWord_101 : decode b_Rd_makeWord 101 = .ok (.ireturn, 1) := by decide +kernel
theorem d_Rd_makeWord_102 : decode b_Rd_makeWord 102 = .ok (.aload_n 0, 1) := by decide +kernel
theorem d_Rd_makeWord_103 : decode b_Rd_makeWord 103 = .ok (.aload_n 2, 1) := by decide +kernel
theorem d_Rd_makeWord_104 : decode b_Rd_makeWord 104 = .ok (.aload_n 0, 1) := by decide +kernel
theorem d_Rd_makeWord_105 : decode b_Rd_makeWord 105 = .ok (.getfield 12, 3) := by decide +kernel
theorem d_Rd_makeWord_108 : decode b_Rd_makeWord 108 = .ok (.getfield 187, 3) := by decide +kernel
theorem d_Rd_makeWord_111 : decode b_Rd_makeWord 111 = .ok (.invokevirtual 227, 3) := by decide +kernel
theorem d_Rd_makeWord_114 : decode b_Rd_makeWord 114 = .ok (.invokevirtual 219, 3) := by decide +kernel
theorem d_Rd_makeWord_117 : decode b_Rd_makeWord 117 = .ok (.iconst 0, 1) := by decide +kernel
theorem d_Rd_makeWord_118 : decode b_Rd_makeWord 118 = .ok (.ireturn, 1) := by decide +kernel
theorem d_Rd_makeWord_119 : decode b_Rd_makeWord 119 = .ok (.aload_n 0, 1) := by decide +kernel
theorem d_Rd_makeWord_120 : decode b_Rd_makeWord 120 = .ok (.getfield 21, 3) := by decide +kernel
theorem d_Rd_makeWord_123 : decode b_Rd_makeWord 123 = .ok (.aload_n 2, 1) := by decide +kernel
theorem d_Rd_makeWord_124 : decode b_Rd_makeWord 124 = .ok (.invokevirtual 230, 3) := by decide +kernel
theorem d_Rd_makeWord_127 : decode b_Rd_makeWord 127 = .ok (.iconst 0, 1) := by decide +kernel
theorem d_Rd_makeWord_128 : decode b_Rd_makeWord 128 = .ok (.ireturn, 1) := by decide +kernel
def wp_Rd_makeWord (g : Gm) (post : Int32 → StC → Prop) (mc ms : Nat) (S : StC) (a0 : Nat) (a1 : Nat) : Prop :=
  ∃ (i1 : Nat), (i1 < 52) ∧ (a0 = g.2.2 (100 + i1)) ∧ ((((takE.getD i1 0) ≤ (S.1 8)) → wp_Di_isFull g (fun (r5 : Int32) (S4 : StC) => (((r5 = 0) → ∃ (i6 : Nat), (i6 < 52) ∧ (a0 = g.2.2 (100 + i6)) ∧ (wp_En_ordinal g (fun (r10 : Int32) (S9 : StC) => ((vp_in r10 52) ∧ ((((swE.getD (Int32.toNatClampNeg (r10)) 0) = 45) → wp_Me_canGrow g (fun (r13 : Int32) (S12 : StC) => (((r13 = 0) → post (3) S12) ∧ (¬ (r13 = 0) → ∃ (mc14 : Nat) (ms15 : Nat), (0 + mc14 ≤ mc) ∧ (0 + ms15 ≤ ms) ∧ (wp_Rd_makeNumberWord g (fun S16 : StC => (wp_Me_append g (fun S17 : StC => (post (0) S17)) S16 (0))) mc14 ms15 S12 (a1) ((S12.1 10)))))) S9 (1)) ∧ (¬ ((swE.getD (Int32.toNatClampNeg (r10)) 0) = 45) → (((swE.getD (Int32.toNatClampNeg (r10)) 0) = 46) → wp_Nd_pop g (fun (r20 : Int32) (S19 : StC) => (∃ (mc21 : Nat) (ms22 : Nat), (0 + mc21 ≤ mc) ∧ (0 + ms22 ≤ ms) ∧ (wp_Rd_makeNumberWord g (fun S23 : StC => (post (0) S23)) mc21 ms22 S19 (a1) (r20)))) S9 ) ∧ (¬ ((swE.getD (Int32.toNatClampNeg (r10)) 0) = 46) → ∃ (mc24 : Nat) (ms25 : Nat), (0 + mc24 ≤ mc) ∧ (0 + ms25 ≤ ms) ∧ (wp_Co_begin g (fun S26 : StC => (post (0) S26)) mc24 ms25 S9 (a1))))))) S4 (a0))) ∧ (¬ (r5 = 0) → post (3) S4))) S ) ∧ (¬ ((takE.getD i1 0) ≤ (S.1 8)) → post (2) S))
set_option maxRecDepth 100000 in
set_option maxHeartbeats 4000000 in
theorem c_Rd_makeWord (l : Launch) (g : Gm) (sz : Nat) (S : StC) (a0 : Nat) (a1 : Nat) (post : Int32 → StC → Prop) (mc ms : Nat) (hw : wp_Rd_makeWord g post mc ms S a0 a1) : Met l y_Rd_makeWord (.code y_Rd_makeWord b_Rd_makeWord 4 (some .int) :: w_C) (rmA 3 64 mc ms) (va_Pc [.ref (g.2.2 2), .ref (a0), .ref (a1)] (PC g sz S)) (va_Qi post (BC g (AC g sz S)) (AC g sz S)) mc ms (AC g sz S) := by
  refine ofA_i (by decide) (Nat.le_of_ble_eq_true rfl) (fun p e s m args below meth c Q A H locs ls hx hb hml hts hown hK hA hC hN hmn kr hl hP hD hS => ?_)
  have hl : lv_has ls 4 [(0, .ref (g.2.2 2)), (1, .ref (a0)), (2, .ref (a1))] := hl
  unfold wp_Rd_makeWord at hw
  have hcm : 0 ≤ mc := Nat.zero_le _
  have hzm : 0 ≤ ms := Nat.zero_le _
  refine lv_aload_n hx hb d_Rd_makeWord_0 rfl (lv_at hl 0 rfl) ?_
  refine va_get (D := g.1) (ci := 4) (v := .ref (g.2.2 3)) (C := R_Rd) (T := F_Rd) (N := 6) hx hb hts hin_Rd hown hK hP 2 rfl rfl 0 (by decide) (hts _ k_C_127) (fun _ h9 => h9) rfl d_Rd_makeWord_1 ?_
  refine va_getN (D := g.1) (ci := 5) (v := .ref (g.2.2 8)) (C := R_Ma) (T := F_Ma) (N := 9) hx hb hts hin_Ma hown hK hP 3 rfl rfl 2 (by decide) (va_Nw.use rfl (hN.1 _ kn_C_19)) (fun _ h9 => h9) rfl d_Rd_makeWord_4 ?_
  refine lv_astore_n (lv' := [(3, .ref (g.2.2 8)), (0, .ref (g.2.2 2)), (1, .ref (a0)), (2, .ref (a1))]) hx hb d_Rd_makeWord_7 rfl hl (by decide) rfl (fun ls hl => ?_)
  refine lv_aload_n hx hb d_Rd_makeWord_8 rfl (lv_at hl 1 rfl) ?_
  refine va_get (D := g.1) (ci := 4) (v := .ref (g.2.2 3)) (C := R_Rd) (T := F_Rd) (N := 6) hx hb hts hin_Rd hown hK hP 2 rfl rfl 0 (by decide) (hts _ k_C_127) (fun _ h9 => h9) rfl d_Rd_makeWord_9 ?_
  refine va_getN (D := g.1) (ci := 5) (v := .ref (g.2.2 4)) (C := R_Ma) (T := F_Ma) (N := 9) hx hb hts hin_Ma hown hK hP 3 rfl rfl 0 (by decide) (va_Nw.use rfl (hN.1 _ kn_C_16)) (fun _ h9 => h9) rfl d_Rd_makeWord_12 ?_
  refine va_getN (D := g.1) (ci := 6) (v := .int ((S.1 8))) (C := R_N) (T := F_N) (N := 2) hx hb hts hin_N hown hK hP 4 rfl rfl 1 (by decide) (va_Nw.use rfl (hN.1 _ kn_C_4)) (fun _ h9 => h9) rfl d_Rd_makeWord_15 ?_
  refine lv_aload_n hx hb d_Rd_makeWord_18 rfl (lv_at hl 2 rfl) ?_
  obtain ⟨i1, hi2, he3, hw⟩ := hw
  refine ge_C (i := i1) (q := fe_takes) hx hb hts hC hS hown he3 hi2 fe_takes_in k_C_774 d_Rd_makeWord_19 ?_
  refine lv_icmp_ge hx hb d_Rd_makeWord_22 (tgt := 27) (by decide) (fun hc => ?_) (fun hc => ?_)
  · have hw := hw.1 hc
    refine lv_aload_n hx hb d_Rd_makeWord_27 rfl (lv_at hl 1 rfl) ?_
    refine va_get (D := g.1) (ci := 4) (v := .ref (g.2.2 3)) (C := R_Rd) (T := F_Rd) (N := 6) hx hb hts hin_Rd hown hK hP 2 rfl rfl 0 (by decide) (hts _ k_C_127) (fun _ h9 => h9) rfl d_Rd_makeWord_28 ?_
    refine va_getN (D := g.1) (ci := 5) (v := .ref (g.2.2 13)) (C := R_Ma) (T := F_Ma) (N := 9) hx hb hts hin_Ma hown hK hP 3 rfl rfl 3 (by decide) (va_Nw.use rfl (hN.1 _ kn_C_21)) (fun _ h9 => h9) rfl d_Rd_makeWord_31 ?_
    refine cC_iV (As := []) (rest := []) hx hb hml hown hts hK hC hN hP hD hS hA hcm hzm hl.1 (va_recv (q0 := 13) (ci := 8) (q := (R_Di, F_Di, 2)) hK hP rfl rfl) (qC_83 hts ⟨Nat.le_of_ble_eq_true rfl, Nat.le_of_ble_eq_true rfl⟩) (c_Di_isFull l g H.size _  _ hw) rfl rfl (Nat.le_of_ble_eq_true rfl) d_Rd_makeWord_34 (fun r5 S4 H locs hw hP hD hS => ?_)
    refine lv_if_eq hx hb d_Rd_makeWord_37 (tgt := 42) (by decide) (fun hc => ?_) (fun hc => ?_)
    · have hw := hw.1 hc
      refine va_gets (C := "WordSmith$1") (n := "$SwitchMap$WordSmith$BuiltIn") (d := "[I") (v := .ref (g.2.2 90)) hx hb hC.1.2.1 hS hown (hts _ k_C_478) (fun _ h9 => h9) d_Rd_makeWord_42 ?_
      refine lv_aload_n hx hb d_Rd_makeWord_45 rfl (lv_at hl 2 rfl) ?_
      obtain ⟨i6, hi7, he8, hw⟩ := hw
      refine cC_iU (As := []) (rest := [.ref (g.2.2 90)]) hx hb hml hown hts hK hC hN hP hD hS hA hcm hzm hl.1 (erecv_C hC hS he8 hi7) (qC_84 hts ⟨Nat.le_of_ble_eq_true rfl, Nat.le_of_ble_eq_true rfl⟩) (c_En_ordinal l g H.size _ (a0) _ hw) rfl rfl (Nat.le_of_ble_eq_true rfl) d_Rd_makeWord_46 (fun r10 S9 H locs hw hP hD hS => ?_)
      obtain ⟨hi, hw⟩ := hw
      refine va_ti (v := .int (swE.getD (Int32.toNatClampNeg (r10)) 0)) hx hb hC.1.2.2.1 hS hi rfl d_Rd_makeWord_49 ?_
      by_cases hk11 : (swE.getD (Int32.toNatClampNeg (r10)) 0) = 45
      · have hw := hw.1 hk11
        refine lk_in hx hb d_Rd_makeWord_50 hk11 (tgt := 76) (off := 26) (by decide) rfl (by decide) ?_
        refine lv_aload_n hx hb d_Rd_makeWord_76 rfl (lv_at hl 0 rfl) ?_
        refine lv_iconst (v := 1) hx hb d_Rd_makeWord_77 (by decide) ?_
        refine cC_iV (As := [.int (1)]) (rest := []) hx hb hml hown hts hK hC hN hP hD hS hA hcm hzm hl.1 (va_recv (q0 := 8) (ci := 7) (q := (R_Me, F_Me, 6)) hK hP rfl rfl) (qC_85 hts ⟨Nat.le_of_ble_eq_true rfl, Nat.le_of_ble_eq_true rfl⟩) (c_Me_canGrow l g H.size _ (1) _ hw) rfl rfl (Nat.le_of_ble_eq_true rfl) d_Rd_makeWord_78 (fun r13 S12 H locs hw hP hD hS => ?_)
        refine lv_if_ne hx hb d_Rd_makeWord_81 (tgt := 86) (by decide) (fun hc => ?_) (fun hc => ?_)
        · have hw := hw.2 hc
          refine lv_aload_n hx hb d_Rd_makeWord_86 rfl (lv_at hl 1 rfl) ?_
          refine lv_aload_n hx hb d_Rd_makeWord_87 rfl (lv_at hl 3 rfl) ?_
          refine lv_aload_n hx hb d_Rd_makeWord_88 rfl (lv_at hl 0 rfl) ?_
          refine va_getN (D := g.1) (ci := 7) (v := .int ((S12.1 10))) (C := R_Me) (T := F_Me) (N := 6) hx hb hts hin_Me hown hK hP 8 rfl rfl 1 (by decide) (va_Nw.use rfl (hN.1 _ kn_C_7)) (fun _ h9 => h9) rfl d_Rd_makeWord_89 ?_
          obtain ⟨mc14, ms15, hcm, hzm, hw⟩ := hw
          refine cA_vV (As := [.ref (a1), .int ((S12.1 10))]) (rest := []) hx hb hml hown hts hK hC hN hP hD hS hA hcm hzm hl.1 (va_recv (q0 := 2) (ci := 4) (q := (R_Rd, F_Rd, 6)) hK hP rfl rfl) (qA_40 hts ⟨Nat.le_of_ble_eq_true rfl, Nat.le_of_ble_eq_true rfl⟩) (c_Rd_makeNumberWord l g H.size _ (a1) ((S12.1 10)) _ _ _ hw) rfl rfl (Nat.le_of_ble_eq_true rfl) d_Rd_makeWord_92 (fun S16 H locs hw hP hD hS => ?_)
          refine lv_aload_n hx hb d_Rd_makeWord_95 rfl (lv_at hl 0 rfl) ?_
          refine lv_iconst (v := 0) hx hb d_Rd_makeWord_96 (by decide) ?_
          refine cC_vV (As := [.int (0)]) (rest := []) hx hb hml hown hts hK hC hN hP hD hS hA hcm hzm hl.1 (va_recv (q0 := 8) (ci := 7) (q := (R_Me, F_Me, 6)) hK hP rfl rfl) (qC_86 hts ⟨Nat.le_of_ble_eq_true rfl, Nat.le_of_ble_eq_true rfl⟩) (c_Me_append l g H.size _ (0) _ hw) rfl rfl (Nat.le_of_ble_eq_true rfl) d_Rd_makeWord_97 (fun S17 H locs hw hP hD hS => ?_)
          refine lv_iconst (v := 0) hx hb d_Rd_makeWord_100 (by decide) ?_
          exact kr (0) S17 _ _ _ _ _ _ hcm hzm hw hP hD hS d_Rd_makeWord_101
        · have hw := hw.1 hc
          refine lv_iconst (v := 3) hx hb d_Rd_makeWord_84 (by decide) ?_
          exact kr (3) S12 _ _ _ _ _ _ hcm hzm hw hP hD hS d_Rd_makeWord_85
      · have hw := hw.2 hk11
        by_cases hk18 : (swE.getD (Int32.toNatClampNeg (r10)) 0) = 46
        · have hw := hw.1 hk18
          refine lk_in hx hb d_Rd_makeWord_50 hk18 (tgt := 102) (off := 52) (by decide) rfl (by decide) ?_
          refine lv_aload_n hx hb d_Rd_makeWord_102 rfl (lv_at hl 1 rfl) ?_
          refine lv_aload_n hx hb d_Rd_makeWord_103 rfl (lv_at hl 3 rfl) ?_
          refine lv_aload_n hx hb d_Rd_makeWord_104 rfl (lv_at hl 1 rfl) ?_
          refine va_get (D := g.1) (ci := 4) (v := .ref (g.2.2 3)) (C := R_Rd) (T := F_Rd) (N := 6) hx hb hts hin_Rd hown hK hP 2 rfl rfl 0 (by decide) (hts _ k_C_127) (fun _ h9 => h9) rfl d_Rd_makeWord_105 ?_
          refine va_getN (D := g.1) (ci := 5) (v := .ref (g.2.2 4)) (C := R_Ma) (T := F_Ma) (N := 9) hx hb hts hin_Ma hown hK hP 3 rfl rfl 0 (by decide) (va_Nw.use rfl (hN.1 _ kn_C_16)) (fun _ h9 => h9) rfl d_Rd_makeWord_108 ?_
          refine cC_iV (As := []) (rest := [.ref (a1), .ref (g.2.2 2)]) hx hb hml hown hts hK hC hN hP hD hS hA hcm hzm hl.1 (va_recv (q0 := 4) (ci := 6) (q := (R_N, F_N, 2)) hK hP rfl rfl) (qC_87 hts ⟨Nat.le_of_ble_eq_true rfl, Nat.le_of_ble_eq_true rfl⟩) (c_Nd_pop l g H.size _  _ hw) rfl rfl (Nat.le_of_ble_eq_true rfl) d_Rd_makeWord_111 (fun r20 S19 H locs hw hP hD hS => ?_)
          obtain ⟨mc21, ms22, hcm, hzm, hw⟩ := hw
          refine cA_vV (As := [.ref (a1), .int (r20)]) (rest := []) hx hb hml hown hts hK hC hN hP hD hS hA hcm hzm hl.1 (va_recv (q0 := 2) (ci := 4) (q := (R_Rd, F_Rd, 6)) hK hP rfl rfl) (qA_40 hts ⟨Nat.le_of_ble_eq_true rfl, Nat.le_of_ble_eq_true rfl⟩) (c_Rd_makeNumberWord l g H.size _ (a1) (r20) _ _ _ hw) rfl rfl (Nat.le_of_ble_eq_true rfl) d_Rd_makeWord_114 (fun S23 H locs hw hP hD hS => ?_)
          refine lv_iconst (v := 0) hx hb d_Rd_makeWord_117 (by decide) ?_
          exact kr (0) S23 _ _ _ _ _ _ hcm hzm hw hP hD hS d_Rd_makeWord_118
        · have hw := hw.2 hk18
          refine lv_lookup hx hb d_Rd_makeWord_50 (off := 69) (tgt := 119) (by decide) (by rw [show (_ : List (Int × Int)) = (45, _) :: _ from rfl, lv_osw hk11 (by decide)]; rw [show (_ : List (Int × Int)) = (46, _) :: _ from rfl, lv_osw hk18 (by decide)]; rfl) (by decide) ?_
          refine lv_aload_n hx hb d_Rd_makeWord_119 rfl (lv_at hl 1 rfl) ?_
          refine va_get (D := g.1) (ci := 4) (v := .ref (g.2.2 17)) (C := R_Rd) (T := F_Rd) (N := 6) hx hb hts hin_Rd hown hK hP 2 rfl rfl 1 (by decide) (hts _ k_C_128) (fun _ h9 => h9) rfl d_Rd_makeWord_120 ?_
          refine lv_aload_n hx hb d_Rd_makeWord_123 rfl (lv_at hl 3 rfl) ?_
          obtain ⟨mc24, ms25, hcm, hzm, hw⟩ := hw
          refine cA_vV (As := [.ref (a1)]) (rest := []) hx hb hml hown hts hK hC hN hP hD hS hA hcm hzm hl.1 (va_recv (q0 := 17) (ci := 10) (q := (R_Co, F_Co, 4)) hK hP rfl rfl) (qA_41 hts ⟨Nat.le_of_ble_eq_true rfl, Nat.le_of_ble_eq_true rfl⟩) (c_Co_begin l g H.size _ (a1) _ _ _ hw) rfl rfl (Nat.le_of_ble_eq_true rfl) d_Rd_makeWord_124 (fun S26 H locs hw hP hD hS => ?_)
          refine lv_iconst (v := 0) hx hb d_Rd_makeWord_127 (by decide) ?_
          exact kr (0) S26 _ _ _ _ _ _ hcm hzm hw hP hD hS d_Rd_makeWord_128
    · have hw := hw.2 hc
      refine lv_iconst (v := 3) hx hb d_Rd_makeWord_40 (by decide) ?_
      exact kr (3) S4 _ _ _ _ _ _ hcm hzm hw hP hD hS d_Rd_makeWord_41
  · have hw := hw.2 hc
    refine lv_iconst (v := 2) hx hb d_Rd_makeWord_25 (by decide) ?_
    exact kr (2) S _ _ _ _ _ _ hcm hzm hw hP hD hS d_Rd_makeWord_26
theorem qA_42 {R : Room} {s : State} {args : Array Value} {mc1 ms1 : Nat} (hts : ∀ w ∈ w_C, w.before args s = true) (hR : (rmA 5 108 mc1 ms1).frames + 1 ≤ R.frames ∧ 8 + (1 + 11) + (rmA 5 108 mc1 ms1).locals ≤ R.locals) : CallB R s args "WordSmith$Reader" 91 y_Rd_isName b_Rd_isName 1 (some .boolean) (.code y_Rd_isName b_Rd_isName 1 (some .boolean) :: w_C) (rmA 5 108 mc1 ms1) mc1 ms1 1 ∧ (Cond.static y_Rd_isName).before args s = true := ⟨callB_of 1 hts (good_C k_C_425) rfl rfl rfl (hts _ k_C_5) (hts _ k_C_423) ⟨by decide +kernel, by decide +kernel, by decide +kernel⟩ hR, hts _ k_C_424⟩
theorem qA_43 {R : Room} {s : State} {args : Array Value} {mc1 ms1 : Nat} (hts : ∀ w ∈ w_C, w.before args s = true) (hR : (rmA 3 64 mc1 ms1).frames + 1 ≤ R.frames ∧ 8 + (4 + 11) + (rmA 3 64 mc1 ms1).locals ≤ R.locals) : CallW R s args "WordSmith$Reader" R_Rd 169 y_Rd_makeWord b_Rd_makeWord 4 (some .int) (.code y_Rd_makeWord b_Rd_makeWord 4 (some .int) :: w_C) (rmA 3 64 mc1 ms1) mc1 ms1 2 := ⟨callB_of 2 hts (good_C k_C_473) rfl rfl rfl (hts _ k_C_5) (hts _ k_C_471) ⟨by decide +kernel, by decide +kernel, by decide +kernel⟩ hR, hts _ k_C_472, hts _ k_C_787⟩
theorem qA_44 {R : Room} {s : State} {args : Array Value} {mc1 ms1 : Nat} (hts : ∀ w ∈ w_C, w.before args s = true) (hR : (rmA 4 88 mc1 ms1).frames + 1 ≤ R.frames ∧ 8 + (3 + 11) + (rmA 4 88 mc1 ms1).locals ≤ R.locals) : CallW R s args "WordSmith$Reader" R_Rd 166 y_Rd_putNumberOfWord b_Rd_putNumberOfWord 3 (some .int) (.code y_Rd_putNumberOfWord b_Rd_putNumberOfWord 3 (some .int) :: w_C) (rmA 4 88 mc1 ms1) mc1 ms1 1 := ⟨callB_of 1 hts (good_C k_C_470) rfl rfl rfl (hts _ k_C_5) (hts _ k_C_468) ⟨by decide +kernel, by decide +kernel, by decide +kernel⟩ hR, hts _ k_C_469, hts _ k_C_786⟩
theorem qC_88 {R : Room} {s : State} {args : Array Value} (hts : ∀ w ∈ w_C, w.before args s = true) (hR : (rmM 1 22).frames + 1 ≤ R.frames ∧ 8 + (2 + 11) + (rmM 1 22).locals ≤ R.locals) : CallW R s args "WordSmith$Reader" R_Rd 160 y_Rd_makeImmediate b_Rd_makeImmediate 2 (some .int) (.code y_Rd_makeImmediate b_Rd_makeImmediate 2 (some .int) :: w_C) (rmM 1 22) 0 0 0 := ⟨callB_of 0 hts (good_C k_C_458) rfl rfl rfl (hts _ k_C_5) (hts _ k_C_456) ⟨by decide +kernel, by decide +kernel, by decide +kernel⟩ hR, hts _ k_C_457, hts _ k_C_785⟩
theorem d_Rd_define_0 : decode b_Rd_define 0 = .ok (.aload_n 0, 1) := by decide +kernel
theorem d_Rd_define_1 : decode b_Rd_define 1 = .ok (.getfield 21, 3) := by decide +kernel
theorem d_Rd_define_4 : decode b_Rd_define 4 = .ok (.invokevirtual 122, 3) := by decide +kernel
theorem d_Rd_define_7 : decode b_Rd_define 7 = .ok (.ifCond .eq 6, 3) := by decide +kernel
theorem d_Rd_define_10 : decode b_Rd_define 10 = .ok (.bipush 6, 2) := by decide +kernel
theorem d_Rd_define_12 : decode b_Rd_define 12 = .ok (.ireturn, 1) := by decide +kernel
theorem d_Rd_define_13 : decode b_Rd_define 13 = .ok (.aload_n 1, 1) := by decide +kernel
theorem d_Rd_define_14 : decode b_Rd_define 14 = .ok (.getstatic 157, 3) := by decide +kernel
theorem d_Rd_define_17 : decode b_Rd_define 17 = .ok (.if_acmp .ne 8, 3) := by decide +kernel
theorem d_Rd_define_20 : decode b_Rd_define 20 = .ok (.aload_n 0, 1) := by decide +kernel
theorem d_Rd_define_21 : decode b_Rd_define 21 = .ok (.invokevirtual 160, 3) := by decide +kernel
theorem d_Rd_define_24 : decode b_Rd_define 24 = .ok (.ireturn, 1) := by decide +kernel
theorem d_Rd_define_25 : decode b_Rd_define 25 = .ok (.aload_n 0, 1) := by decide +kernel
theorem d_Rd_define_26 : decode b_Rd_define 26 = .ok (.invokevirtual 41, 3) := by decide +kernel
theorem d_Rd_define_29 : decode b_Rd_define 29 = .ok (.aload_n 0, 1) := by decide +kernel
theorem d_Rd_define_30 : decode b_Rd_define 30 = .ok (.invokevirtual 47, 3) := by decide +kernel
theorem d_Rd_define_33 : decode b_Rd_define 33 = .ok (.astore_n 2, 1) := by decide +kernel
theorem d_Rd_define_34 : decode b_Rd_define 34 = .ok (.aload_n 2, 1) := by decide +kernel
theorem d_Rd_define_35 : decode b_Rd_define 35 = .ok (.invokestatic 91, 3) := by decide +kernel
theorem d_Rd_define_38 : decode b_Rd_define 38 = .ok (.ifCond .ne 6, 3) := by decide +kernel
theorem d_Rd_define_41 : decode b_Rd_define 41 = .ok (.bipush 6, 2) := by decide +kernel
theorem d_Rd_define_43 : decode b_Rd_define 43 = .ok (.ireturn, 1) := by decide +kernel
theorem d_Rd_define_44 : decode b_Rd_define 44 = .ok (.aload_n 1, 1) := by decide +kernel
theorem d_Rd_define_45 : decode b_Rd_define 45 = .ok (.getstatic 163, 3) := by decide +kernel
theorem d_Rd_define_48 : decode b_Rd_define 48 = .ok (.if_acmp .ne 9, 3) := by decide +kernel
theorem d_Rd_define_51 : decode b_Rd_define 51 = .ok (.aload_n 0, 1) := by decide +kernel
theorem d_Rd_define_52 : decode b_Rd_define 52 = .ok (.aload_n 2, 1) := by decide +kernel
theorem d_Rd_define_53 : decode b_Rd_define 53 = .ok (.invokevirtual 166, 3) := by decide +kernel
theorem d_Rd_define_56 : decode b_Rd_define 56 = .ok (.ireturn, 1) := by decide +kernel
theorem d_Rd_define_57 : decode b_Rd_define 57 = .ok (.aload_n 0, 1) := by decide +kernel
theorem d_Rd_define_58 : decode b_Rd_define 58 = .ok (.aload_n 1, 1) := by decide +kernel
theorem d_Rd_define_59 : decode b_Rd_define 59 = .ok (.aload_n 2, 1) := by decide +kernel
theorem d_Rd_define_60 : decode b_Rd_define 60 = .ok (.invokevirtual 169, 3) := by decide +kernel
theorem d_Rd_define_63 : decode b_Rd_define 63 = .ok (.ireturn, 1) := by decide +kernel
def wp_Rd_define (g : Gm) (post : Int32 → StC → Prop) (mc ms : Nat) (S : StC) (a0 : Nat) : Prop :=
  wp_Co_isCompiling g (fun (r2 : Int32) (S1 : StC) => (((r2 = 0) → (((some (a0)) = (some ((g.2.2 136)))) → wp_Rd_makeImmediate g (fun (r29 : Int32) (S28 : StC) => (post (r29) S28)) S1 ) ∧ (¬ ((some (a0)) = (some ((g.2.2 136)))) → ∃ (mc3 : Nat) (ms4 : Nat), (0 + mc3 ≤ mc) ∧ (0 + ms4 ≤ ms) ∧ (wp_Rd_skipSpaces g (fun S5 : StC => (∃ (mc6 : Nat) (ms7 : Nat), ((0 + mc3) + mc6 ≤ mc) ∧ ((0 + ms4) + ms7 ≤ ms) ∧ (wp_Rd_cutToken g (fun (r9 : Option Nat) (S8 : StC) => (∃ (y10 : Nat), (r9 = some y10) ∧ (∃ (mc12 : Nat) (ms13 : Nat), (((0 + mc3) + mc6) + mc12 ≤ mc) ∧ (((0 + ms4) + ms7) + ms13 ≤ ms) ∧ (wp_Rd_isName g (fun (r15 : Int32) (S14 : StC) => (((r15 = 0) → post (6) S14) ∧ (¬ (r15 = 0) → (((some (a0)) = (some ((g.2.2 132)))) → ∃ (y22 : Nat), (r9 = some y22) ∧ (∃ (mc24 : Nat) (ms25 : Nat), ((((0 + mc3) + mc6) + mc12) + mc24 ≤ mc) ∧ ((((0 + ms4) + ms7) + ms13) + ms25 ≤ ms) ∧ (wp_Rd_putNumberOfWord g (fun (r27 : Int32) (S26 : StC) => (post (r27) S26)) mc24 ms25 S14 (y22)))) ∧ (¬ ((some (a0)) = (some ((g.2.2 132)))) → ∃ (y16 : Nat), (r9 = some y16) ∧ (∃ (mc18 : Nat) (ms19 : Nat), ((((0 + mc3) + mc6) + mc12) + mc18 ≤ mc) ∧ ((((0 + ms4) + ms7) + ms13) + ms19 ≤ ms) ∧ (wp_Rd_makeWord g (fun (r21 : Int32) (S20 : StC) => (post (r21) S20)) mc18 ms19 S14 (a0) (y16))))))) mc12 ms13 S8 (y10))))) mc6 ms7 S5 ))) mc3 ms4 S1 ))) ∧ (¬ (r2 = 0) → post (6) S1))) S 
set_option maxRecDepth 100000 in
set_option maxHeartbeats 4000000 in
theorem c_Rd_define (l : Launch) (g : Gm) (sz : Nat) (S : StC) (a0 : Nat) (post : Int32 → StC → Prop) (mc ms : Nat) (hw : wp_Rd_define g post mc ms S a0) : Met l y_Rd_define (.code y_Rd_define b_Rd_define 3 (some .int) :: w_C) (rmA 6 153 mc ms) (va_Pc [.ref (g.2.2 2), .ref (a0)] (PC g sz S)) (va_Qi post (BC g (AC g sz S)) (AC g sz S)) mc ms (AC g sz S) := by
  refine ofA_i (by decide) (Nat.le_of_ble_eq_true rfl) (fun p e s m args below meth c Q A H locs ls hx hb hml hts hown hK hA hC hN hmn kr hl hP hD hS => ?_)
  have hl : lv_has ls 3 [(0, .ref (g.2.2 2)), (1, .ref (a0))] := hl
  unfold wp_Rd_define at hw
  have hcm : 0 ≤ mc := Nat.zero_le _
  have hzm : 0 ≤ ms := Nat.zero_le _
  refine lv_aload_n hx hb d_Rd_define_0 rfl (lv_at hl 0 rfl) ?_
  refine va_get (D := g.1) (ci := 4) (v := .ref (g.2.2 17)) (C := R_Rd) (T := F_Rd) (N := 6) hx hb hts hin_Rd hown hK hP 2 rfl rfl 1 (by decide) (hts _ k_C_128) (fun _ h9 => h9) rfl d_Rd_define_1 ?_
  refine cC_iV (As := []) (rest := []) hx hb hml hown hts hK hC hN hP hD hS hA hcm hzm hl.1 (va_recv (q0 := 17) (ci := 10) (q := (R_Co, F_Co, 4)) hK hP rfl rfl) (qC_68 hts ⟨Nat.le_of_ble_eq_true rfl, Nat.le_of_ble_eq_true rfl⟩) (c_Co_isCompiling l g H.size _  _ hw) rfl rfl (Nat.le_of_ble_eq_true rfl) d_Rd_define_4 (fun r2 S1 H locs hw hP hD hS => ?_)
  refine lv_if_eq hx hb d_Rd_define_7 (tgt := 13) (by decide) (fun hc => ?_) (fun hc => ?_)
  · have hw := hw.1 hc
    refine lv_aload_n hx hb d_Rd_define_13 rfl (lv_at hl 1 rfl) ?_
    refine va_gets (C := "WordSmith$BuiltIn") (n := "IMMEDIATE") (d := "LWordSmith$BuiltIn;") (v := .ref ((g.2.2 136))) hx hb (hC.1.1.1 36 (by decide)).1 hS hown (hts _ k_C_455) (fun _ h9 => h9) d_Rd_define_14 ?_
    refine lv_acmp_ne (rx := (some (a0))) (ry := (some ((g.2.2 136)))) hx hb d_Rd_define_17 (tgt := 25) (by decide) (fun hc => ?_) (fun hc => ?_)
    · have hw := hw.2 hc
      refine lv_aload_n hx hb d_Rd_define_25 rfl (lv_at hl 0 rfl) ?_
      obtain ⟨mc3, ms4, hcm, hzm, hw⟩ := hw
      refine cA_vV (As := []) (rest := []) hx hb hml hown hts hK hC hN hP hD hS hA hcm hzm hl.1 (va_recv (q0 := 2) (ci := 4) (q := (R_Rd, F_Rd, 6)) hK hP rfl rfl) (qA_28 hts ⟨Nat.le_of_ble_eq_true rfl, Nat.le_of_ble_eq_true rfl⟩) (c_Rd_skipSpaces l g H.size _  _ _ _ hw) rfl rfl (Nat.le_of_ble_eq_true rfl) d_Rd_define_26 (fun S5 H locs hw hP hD hS => ?_)
      refine lv_aload_n hx hb d_Rd_define_29 rfl (lv_at hl 0 rfl) ?_
      obtain ⟨mc6, ms7, hcm, hzm, hw⟩ := hw
      refine cA_qV (As := []) (rest := []) hx hb hml hown hts hK hC hN hP hD hS hA hcm hzm hl.1 (va_recv (q0 := 2) (ci := 4) (q := (R_Rd, F_Rd, 6)) hK hP rfl rfl) (qA_29 hts ⟨Nat.le_of_ble_eq_true rfl, Nat.le_of_ble_eq_true rfl⟩) (c_Rd_cutToken l g H.size _  _ _ _ hw) rfl rfl (Nat.le_of_ble_eq_true rfl) d_Rd_define_30 (fun r9 S8 H locs hw hP hD hS => ?_)
      refine lv_astore_nq (lv' := [(2, va_rf (r9)), (0, .ref (g.2.2 2)), (1, .ref (a0))]) hx hb d_Rd_define_33 rfl hl (by decide) rfl (fun ls hl => ?_)
      refine lv_aload_nq hx hb d_Rd_define_34 rfl (lv_at hl 0 rfl) ?_
      obtain ⟨y10, hy11, hw⟩ := hw
      refine W_rf hy11 ?_
      obtain ⟨mc12, ms13, hcm, hzm, hw⟩ := hw
      refine cA_iS (As := [.ref (y10)]) (rest := []) hx hb hml hown hts hK hC hN hP hD hS hA hcm hzm hl.1  (qA_42 hts ⟨Nat.le_of_ble_eq_true rfl, Nat.le_of_ble_eq_true rfl⟩) (c_Rd_isName l g H.size _ (y10) _ _ _ hw) rfl rfl (Nat.le_of_ble_eq_true rfl) d_Rd_define_35 (fun r15 S14 H locs hw hP hD hS => ?_)
      refine lv_if_ne hx hb d_Rd_define_38 (tgt := 44) (by decide) (fun hc => ?_) (fun hc => ?_)
      · have hw := hw.2 hc
        refine lv_aload_n hx hb d_Rd_define_44 rfl (lv_at hl 2 rfl) ?_
        refine va_gets (C := "WordSmith$BuiltIn") (n := "TICK") (d := "LWordSmith$BuiltIn;") (v := .ref ((g.2.2 132))) hx hb (hC.1.1.1 32 (by decide)).1 hS hown (hts _ k_C_467) (fun _ h9 => h9) d_Rd_define_45 ?_
        refine lv_acmp_ne (rx := (some (a0))) (ry := (some ((g.2.2 132)))) hx hb d_Rd_define_48 (tgt := 57) (by decide) (fun hc => ?_) (fun hc => ?_)
        · have hw := hw.2 hc
          refine lv_aload_n hx hb d_Rd_define_57 rfl (lv_at hl 1 rfl) ?_
          refine lv_aload_n hx hb d_Rd_define_58 rfl (lv_at hl 2 rfl) ?_
          refine lv_aload_nq hx hb d_Rd_define_59 rfl (lv_at hl 0 rfl) ?_
          obtain ⟨y16, hy17, hw⟩ := hw
          refine W_rf hy17 ?_
          obtain ⟨mc18, ms19, hcm, hzm, hw⟩ := hw
          refine cA_iV (As := [.ref (a0), .ref (y16)]) (rest := []) hx hb hml hown hts hK hC hN hP hD hS hA hcm hzm hl.1 (va_recv (q0 := 2) (ci := 4) (q := (R_Rd, F_Rd, 6)) hK hP rfl rfl) (qA_43 hts ⟨Nat.le_of_ble_eq_true rfl, Nat.le_of_ble_eq_true rfl⟩) (c_Rd_makeWord l g H.size _ (a0) (y16) _ _ _ hw) rfl rfl (Nat.le_of_ble_eq_true rfl) d_Rd_define_60 (fun r21 S20 H locs hw hP hD hS => ?_)
          exact kr (r21) S20 _ _ _ _ _ _ hcm hzm hw hP hD hS d_Rd_define_63
        · have hw := hw.1 hc
          refine lv_aload_n hx hb d_Rd_define_51 rfl (lv_at hl 1 rfl) ?_
          refine lv_aload_nq hx hb d_Rd_define_52 rfl (lv_at hl 0 rfl) ?_
          obtain ⟨y22, hy23, hw⟩ := hw
          refine W_rf hy23 ?_
          obtain ⟨mc24, ms25, hcm, hzm, hw⟩ := hw
          refine cA_iV (As := [.ref (y22)]) (rest := []) hx hb hml hown hts hK hC hN hP hD hS hA hcm hzm hl.1 (va_recv (q0 := 2) (ci := 4) (q := (R_Rd, F_Rd, 6)) hK hP rfl rfl) (qA_44 hts ⟨Nat.le_of_ble_eq_true rfl, Nat.le_of_ble_eq_true rfl⟩) (c_Rd_putNumberOfWord l g H.size _ (y22) _ _ _ hw) rfl rfl (Nat.le_of_ble_eq_true rfl) d_Rd_define_53 (fun r27 S26 H locs hw hP hD hS => ?_)
          exact kr (r27) S26 _ _ _ _ _ _ hcm hzm hw hP hD hS d_Rd_define_56
      · have hw := hw.1 hc
        refine lv_bipush (v := 6) hx hb d_Rd_define_41 (by decide) ?_
        exact kr (6) S14 _ _ _ _ _ _ hcm hzm hw hP hD hS d_Rd_define_43
    · have hw := hw.1 hc
      refine lv_aload_n hx hb d_Rd_define_20 rfl (lv_at hl 0 rfl) ?_
      refine cC_iV (As := []) (rest := []) hx hb hml hown hts hK hC hN hP hD hS hA hcm hzm hl.1 (va_recv (q0 := 2) (ci := 4) (q := (R_Rd, F_Rd, 6)) hK hP rfl rfl) (qC_88 hts ⟨Nat.le_of_ble_eq_true rfl, Nat.le_of_ble_eq_true rfl⟩) (c_Rd_makeImmediate l g H.size _  _ hw) rfl rfl (Nat.le_of_ble_eq_true rfl) d_Rd_define_21 (fun r29 S28 H locs hw hP hD hS => ?_)
      exact kr (r29) S28 _ _ _ _ _ _ hcm hzm hw hP hD hS d_Rd_define_24
  · have hw := hw.2 hc
    refine lv_bipush (v := 6) hx hb d_Rd_define_10 (by decide) ?_
    exact kr (6) S1 _ _ _ _ _ _ hcm hzm hw hP hD hS d_Rd_define_12
theorem qC_89 {R : Room} {s : State} {args : Array Value} (hts : ∀ w ∈ w_C, w.before args s = true) (hR : (rmM 5 132).frames + 1 ≤ R.frames ∧ 8 + (5 + 11) + (rmM 5 132).locals ≤ R.locals) : CallW R s args "WordSmith$Reader" R_Ma 131 y_Ma_start b_Ma_start 5 (some .int) (.code y_Ma_start b_Ma_start 5 (some .int) :: w_C) (rmM 5 132) 0 0 1 := ⟨callB_of 1 hts (good_C k_C_584) rfl rfl rfl (hts _ k_C_6) (hts _ k_C_581) ⟨by decide +kernel, by decide +kernel, by decide +kernel⟩ hR, hts _ k_C_582, hts _ k_C_583⟩
theorem qC_90 {R : Room} {s : State} {args : Array Value} (hts : ∀ w ∈ w_C, w.before args s = true) (hR : (rmM 1 22).frames + 1 ≤ R.frames ∧ 8 + (3 + 11) + (rmM 1 22).locals ≤ R.locals) : CallW R s args "WordSmith$Reader" R_Di 123 y_Di_isImmediate b_Di_isImmediate 3 (some .boolean) (.code y_Di_isImmediate b_Di_isImmediate 3 (some .boolean) :: w_C) (rmM 1 22) 0 0 1 := ⟨callB_of 1 hts (good_C k_C_579) rfl rfl rfl (hts _ k_C_9) (hts _ k_C_576) ⟨by decide +kernel, by decide +kernel, by decide +kernel⟩ hR, hts _ k_C_577, hts _ k_C_578⟩
theorem qC_91 {R : Room} {s : State} {args : Array Value} (hts : ∀ w ∈ w_C, w.before args s = true) (hR : (rmM 0 0).frames + 1 ≤ R.frames ∧ 8 + (1 + 11) + (rmM 0 0).locals ≤ R.locals) : CallW R s args "WordSmith$Reader" R_Bi 116 y_Bi_isCompiling b_Bi_isCompiling 1 (some .boolean) (.code y_Bi_isCompiling b_Bi_isCompiling 1 (some .boolean) :: w_C) (rmM 0 0) 0 0 0 := ⟨callB_of 0 hts (good_C k_C_526) rfl rfl rfl (hts _ k_C_19) (hts _ k_C_523) ⟨by decide +kernel, by decide +kernel, by decide +kernel⟩ hR, hts _ k_C_524, hts _ k_C_525⟩
theorem qC_92 {R : Room} {s : State} {args : Array Value} (hts : ∀ w ∈ w_C, w.before args s = true) (hR : (rmM 3 65).frames + 1 ≤ R.frames ∧ 8 + (3 + 11) + (rmM 3 65).locals ≤ R.locals) : CallW R s args "WordSmith$Reader" R_Rd 119 y_Rd_compile b_Rd_compile 3 (some .int) (.code y_Rd_compile b_Rd_compile 3 (some .int) :: w_C) (rmM 3 65) 0 0 1 := ⟨callB_of 1 hts (good_C k_C_530) rfl rfl rfl (hts _ k_C_5) (hts _ k_C_528) ⟨by decide +kernel, by decide +kernel, by decide +kernel⟩ hR, hts _ k_C_529, hts _ k_C_789⟩
theorem qC_93 {R : Room} {s : State} {args : Array Value} (hts : ∀ w ∈ w_C, w.before args s = true) (hR : (rmM 0 0).frames + 1 ≤ R.frames ∧ 8 + (1 + 11) + (rmM 0 0).locals ≤ R.locals) : CallB R s args "WordSmith$Reader" 103 y_Bi_numbered b_Bi_numbered 1 (some (.object "WordSmith$BuiltIn")) (.code y_Bi_numbered b_Bi_numbered 1 (some (.object "WordSmith$BuiltIn")) :: w_C) (rmM 0 0) 0 0 1 ∧ (Cond.static y_Bi_numbered).before args s = true := ⟨callB_of 1 hts (good_C k_C_445) rfl rfl rfl (hts _ k_C_19) (hts _ k_C_443) ⟨by decide +kernel, by decide +kernel, by decide +kernel⟩ hR, hts _ k_C_444⟩
theorem qC_94 {R : Room} {s : State} {args : Array Value} (hts : ∀ w ∈ w_C, w.before args s = true) (hR : (rmM 0 0).frames + 1 ≤ R.frames ∧ 8 + (1 + 11) + (rmM 0 0).locals ≤ R.locals) : CallW R s args "WordSmith$Reader" R_Bi 109 y_Bi_isDefining b_Bi_isDefining 1 (some .boolean) (.code y_Bi_isDefining b_Bi_isDefining 1 (some .boolean) :: w_C) (rmM 0 0) 0 0 0 := ⟨callB_of 0 hts (good_C k_C_449) rfl rfl rfl (hts _ k_C_19) (hts _ k_C_446) ⟨by decide +kernel, by decide +kernel, by decide +kernel⟩ hR, hts _ k_C_447, hts _ k_C_448⟩
theorem qA_45 {R : Room} {s : State} {args : Array Value} {mc1 ms1 : Nat} (hts : ∀ w ∈ w_C, w.before args s = true) (hR : (rmA 6 153 mc1 ms1).frames + 1 ≤ R.frames ∧ 8 + (3 + 11) + (rmA 6 153 mc1 ms1).locals ≤ R.locals) : CallW R s args "WordSmith$Reader" R_Rd 112 y_Rd_define b_Rd_define 3 (some .int) (.code y_Rd_define b_Rd_define 3 (some .int) :: w_C) (rmA 6 153 mc1 ms1) mc1 ms1 1 := ⟨callB_of 1 hts (good_C k_C_454) rfl rfl rfl (hts _ k_C_5) (hts _ k_C_452) ⟨by decide +kernel, by decide +kernel, by decide +kernel⟩ hR, hts _ k_C_453, hts _ k_C_784⟩
theorem qC_95 {R : Room} {s : State} {args : Array Value} (hts : ∀ w ∈ w_C, w.before args s = true) (hR : (rmM 0 0).frames + 1 ≤ R.frames ∧ 8 + (1 + 11) + (rmM 0 0).locals ≤ R.locals) : CallW R s args "WordSmith$Reader" R_Ma 76 y_Ma_burn b_Ma_burn 1 (some .boolean) (.code y_Ma_burn b_Ma_burn 1 (some .boolean) :: w_C) (rmM 0 0) 0 0 0 := ⟨callB_of 0 hts (good_C k_C_385) rfl rfl rfl (hts _ k_C_6) (hts _ k_C_382) ⟨by decide +kernel, by decide +kernel, by decide +kernel⟩ hR, hts _ k_C_383, hts _ k_C_384⟩
theorem qA_46 {R : Room} {s : State} {args : Array Value} {mc1 ms1 : Nat} (hts : ∀ w ∈ w_C, w.before args s = true) (hR : (rmA 4 85 mc1 ms1).frames + 1 ≤ R.frames ∧ 8 + (4 + 11) + (rmA 4 85 mc1 ms1).locals ≤ R.locals) : CallB R s args "WordSmith$Reader" 83 y_Rd_numberOf b_Rd_numberOf 4 (some .int) (.code y_Rd_numberOf b_Rd_numberOf 4 (some .int) :: w_C) (rmA 4 85 mc1 ms1) mc1 ms1 1 ∧ (Cond.static y_Rd_numberOf).before args s = true := ⟨callB_of 1 hts (good_C k_C_391) rfl rfl rfl (hts _ k_C_5) (hts _ k_C_389) ⟨by decide +kernel, by decide +kernel, by decide +kernel⟩ hR, hts _ k_C_390⟩
theorem qC_96 {R : Room} {s : State} {args : Array Value} (hts : ∀ w ∈ w_C, w.before args s = true) (hR : (rmM 2 44).frames + 1 ≤ R.frames ∧ 8 + (2 + 11) + (rmM 2 44).locals ≤ R.locals) : CallW R s args "WordSmith$Reader" R_Rd 87 y_Rd_readNumber b_Rd_readNumber 2 (some .int) (.code y_Rd_readNumber b_Rd_readNumber 2 (some .int) :: w_C) (rmM 2 44) 0 0 1 := ⟨callB_of 1 hts (good_C k_C_394) rfl rfl rfl (hts _ k_C_5) (hts _ k_C_392) ⟨by decide +kernel, by decide +kernel, by decide +kernel⟩ hR, hts _ k_C_393, hts _ k_C_783⟩
theorem d_Rd_readToken_0 : decode b_Rd_readToken 0 = .ok (.aload_n 0, 1) := by decide +kernel
theorem d_Rd_readToken_1 : decode b_Rd_readToken 1 = .ok (.getfield 12, 3) := by decide +kernel
theorem d_Rd_readToken_4 : decode b_Rd_readToken 4 = .ok (.invokevirtual 76, 3) := by decide +kernel
theorem d_Rd_readToken_7 : decode b_Rd_readToken 7 = .ok (.ifCond .ne 6, 3) := by decide +kernel
theorem d_Rd_readToken_10 : decode b_Rd_readToken 10 = .ok (.bipush 7, 2) := by decide +kernel
theorem d_Rd_readToken_12 : decode b_Rd_readToken 12 = .ok (.ireturn, 1) := by decide +kernel
theorem d_Rd_readToken_13 : decode b_Rd_readToken 13 = .ok (.aload_n 0, 1) := by decide +kernel
theorem d_Rd_readToken_14 : decode b_Rd_readToken 14 = .ok (.getfield 31, 3) := by decide +kernel
theorem d_Rd_readToken_17 : decode b_Rd_readToken 17 = .ok (.invokestatic 79, 3) := by decide +kernel
theorem d_Rd_readToken_20 : decode b_Rd_readToken 20 = .ok (.ifCond .eq 15, 3) := by decide +kernel
theorem d_Rd_readToken_23 : decode b_Rd_readToken 23 = .ok (.aload_n 0, 1) := by decide +kernel
theorem d_Rd_readToken_24 : decode b_Rd_readToken 24 = .ok (.aload_n 0, 1) := by decide +kernel
theorem d_Rd_readToken_25 : decode b_Rd_readToken 25 = .ok (.getfield 31, 3) := by decide +kernel
theorem d_Rd_readToken_28 : decode b_Rd_readToken 28 = .ok (.invokestatic 83, 3) := by decide +kernel
theorem d_Rd_readToken_31 : decode b_Rd_readToken 31 = .ok (.invokevirtual 87, 3) := by decide +kernel
theorem d_Rd_readToken_34 : decode b_Rd_readToken 34 = .ok (.ireturn, 1) := by decide +kernel
theorem d_Rd_readToken_35 : decode b_Rd_readToken 35 = .ok (.aload_n 0, 1) := by decide +kernel
theorem d_Rd_readToken_36 : decode b_Rd_readToken 36 = .ok (.getfield 31, 3) := by decide +kernel
theorem d_Rd_readToken_39 : decode b_Rd_readToken 39 = .ok (.invokestatic 91, 3) := by decide +kernel
theorem d_Rd_readToken_42 : decode b_Rd_readToken 42 = .ok (.ifCond .eq 20, 3) := by decide +kernel
theorem d_Rd_readToken_45 : decode b_Rd_readToken 45 = .ok (.aload_n 0, 1) := by decide +kernel
theorem d_Rd_readToken_46 : decode b_Rd_readToken 46 = .ok (.getfield 12, 3) := by decide +kernel
theorem d_Rd_readToken_49 : decode b_Rd_readToken 49 = .ok (.getfield 94, 3) := by decide +kernel
theorem d_Rd_readToken_52 : decode b_Rd_readToken 52 = .ok (.aload_n 0, 1) := by decide +kernel
theorem d_Rd_readToken_53 : decode b_Rd_readToken 53 = .ok (.getfield 31, 3) := by decide +kernel
theorem d_Rd_readToken_56 : decode b_Rd_readToken 56 = .ok (.invokevirtual 98, 3) := by decide +kernel
theorem d_Rd_readToken_59 : decode b_Rd_readToken 59 = .ok (.goto 4, 3) := by decide +kernel
theorem d_Rd_readToken_62 : decode b_Rd_readToken 62 = .ok (.iconst (-1), 1) := by decide +kernel
theorem d_Rd_readToken_63 : decode b_Rd_readToken 63 = .ok (.istore_n 1, 1) := by decide +kernel
theorem d_Rd_readToken_64 : decode b_Rd_readToken 64 = .ok (.iload_n 1, 1) := by decide +kernel
theorem d_Rd_readToken_65 : decode b_Rd_readToken 65 = .ok (.iconst (-1), 1) := by decide +kernel
theorem d_Rd_readToken_66 : decode b_Rd_readToken 66 = .ok (.if_icmp .ne 5, 3) := by decide +kernel
theorem d_Rd_readToken_69 : decode b_Rd_readToken 69 = .ok (.iconst 1, 1) := by decide +kernel
theorem d_Rd_readToken_70 : decode b_Rd_readToken 70 = .ok (.ireturn, 1) := by decide +kernel
theorem d_Rd_readToken_71 : decode b_Rd_readToken 71 = .ok (.iload_n 1, 1) := by decide +kernel
theorem d_Rd_readToken_72 : decode b_Rd_readToken 72 = .ok (.invokestatic 103, 3) := by decide +kernel
theorem d_Rd_readToken_75 : decode b_Rd_readToken 75 = .ok (.astore_n 2, 1) := by decide +kernel
theorem d_Rd_readToken_76 : decode b_Rd_readToken 76 = .ok (.aload_n 2, 1) := by decide +kernel
theorem d_Rd_readToken_77 : decode b_Rd_readToken 77 = .ok (.ifnull 16, 3) := by decide +kernel
theorem d_Rd_readToken_80 : decode b_Rd_readToken 80 = .ok (.aload_n 2, 1) := by decide +kernel
theorem d_Rd_readToken_81 : decode b_Rd_readToken 81 = .ok (.invokevirtual 109, 3) := by decide +kernel
theorem d_Rd_readToken_84 : decode b_Rd_readToken 84 = .ok (.ifCond .eq 9, 3) := by decide +kernel
theorem d_Rd_readToken_87 : decode b_Rd_readToken 87 = .ok (.aload_n 0, 1) := by decide +kernel
theorem d_Rd_readToken_88 : decode b_Rd_readToken 88 = .ok (.aload_n 2, 1) := by decide +kernel
theorem d_Rd_readToken_89 : decode b_Rd_readToken 89 = .ok (.invokevirtual 112, 3) := by decide +kernel
theorem d_Rd_readToken_92 : decode b_Rd_readToken 92 = .ok (.ireturn, 1) := by decide +kernel
theorem d_Rd_readToken_93 : decode b_Rd_readToken 93 = .ok (.aload_n 2, 1) := by decide +kernel
theorem d_Rd_readToken_94 : decode b_Rd_readToken 94 = .ok (.ifnull 16, 3) := by decide +kernel
theorem d_Rd_readToken_97 : decode b_Rd_readToken 97 = .ok (.aload_n 2, 1) := by decide +kernel
theorem d_Rd_readToken_98 : decode b_Rd_readToken 98 = .ok (.invokevirtual 116, 3) := by decide +kernel
theorem d_Rd_readToken_101 : decode b_Rd_readToken 101 = .ok (.ifCond .eq 9, 3) := by decide +kernel
theorem d_Rd_readToken_104 : decode b_Rd_readToken 104 = .ok (.aload_n 0, 1) := by decide +kernel
theorem d_Rd_readToken_105 : decode b_Rd_readToken 105 = .ok (.aload_n 2, 1) := by decide +kernel
theorem d_Rd_readToken_106 : decode b_Rd_readToken 106 = .ok (.invokevirtual 119, 3) := by decide +kernel
theorem d_Rd_readToken_109 : decode b_Rd_readToken 109 = .ok (.ireturn, 1) := by decide +kernel
theorem d_Rd_readToken_110 : decode b_Rd_readToken 110 = .ok (.aload_n 0, 1) := by decide +kernel
theorem d_Rd_readToken_111 : decode b_Rd_readToken 111 = .ok (.getfield 21, 3) := by decide +kernel
theorem d_Rd_readToken_114 : decode b_Rd_readToken 114 = .ok (.invokevirtual 122, 3) := by decide +kernel
theorem d_Rd_readToken_117 : decode b_Rd_readToken 117 = .ok (.ifCond .eq 27, 3) := by decide +kernel
theorem d_Rd_readToken_120 : decode b_Rd_readToken 120 = .ok (.aload_n 0, 1) := by decide +kernel
theorem d_Rd_readToken_121 : decode b_Rd_readToken 121 = .ok (.getfield 12, 3) := by decide +kernel
theorem d_Rd_readToken_124 : decode b_Rd_readToken 124 = .ok (.getfield 94, 3) := by decide +kernel
theorem d_Rd_readToken_127 : decode b_Rd_readToken 127 = .ok (.iload_n 1, 1) := by decide +kernel
theorem d_Rd_readToken_128 : decode b_Rd_readToken 128 = .ok (.invokevirtual 123, 3) := by decide +kernel
theorem d_Rd_readToken_131 : decode b_Rd_readToken 131 = .ok (.ifCond .ne 13, 3) := by decide +kernel
theorem d_Rd_readToken_134 : decode b_Rd_readToken 134 = .ok (.aload_n 0, 1) := by decide +kernel
theorem d_Rd_readToken_135 : decode b_Rd_readToken 135 = .ok (.getfield 21, 3) := by decide +kernel
theorem d_Rd_readToken_138 : decode b_Rd_readToken 138 = .ok (.iconst 1, 1) := by decide +kernel
theorem d_Rd_readToken_139 : decode b_Rd_readToken 139 = .ok (.iload_n 1, 1) := by decide +kernel
theorem d_Rd_readToken_140 : decode b_Rd_readToken 140 = .ok (.invokevirtual 127, 3) := by decide +kernel
theorem d_Rd_readToken_143 : decode b_Rd_readToken 143 = .ok (.ireturn, 1) := by decide +kernel
theorem d_Rd_readToken_144 : decode b_Rd_readToken 144 = .ok (.aload_n 0, 1) := by decide +kernel
theorem d_Rd_readToken_145 : decode b_Rd_readToken 145 = .ok (.getfield 12, 3) := by decide +kernel
theorem d_Rd_readToken_148 : decode b_Rd_readToken 148 = .ok (.iload_n 1, 1) := by decide +kernel
theorem d_Rd_readToken_149 : decode b_Rd_readToken 149 = .ok (.invokevirtual 131, 3) := by decide +kernel
theorem d_Rd_readToken_152 : decode b_Rd_readToken 152 = .ok (.ireturn, 1) := by decide +kernel
def wq_Rd_readToken_144 (g : Gm) (post : Int32 → StC → Prop) (mc ms : Nat)  (S : StC) (x1 : Int32) (c0 : Nat) (z0 : Nat) : Prop :=
  wp_Ma_start g (fun (r2 : Int32) (S1 : StC) => (post (r2) S1)) S (x1)
def wq_Rd_readToken_110 (g : Gm) (post : Int32 → StC → Prop) (mc ms : Nat)  (S : StC) (x1 : Int32) (c0 : Nat) (z0 : Nat) : Prop :=
  wp_Co_isCompiling g (fun (r4 : Int32) (S3 : StC) => (((r4 = 0) → wq_Rd_readToken_144 g post mc ms  S3 (x1) (c0) (z0)) ∧ (¬ (r4 = 0) → wp_Di_isImmediate g (fun (r6 : Int32) (S5 : StC) => (((r6 = 0) → wp_Co_addItem g (fun (r8 : Int32) (S7 : StC) => (post (r8) S7)) S5 (1) (x1)) ∧ (¬ (r6 = 0) → wq_Rd_readToken_144 g post mc ms  S5 (x1) (c0) (z0)))) S3 (x1)))) S 
def wq_Rd_readToken_93 (g : Gm) (post : Int32 → StC → Prop) (mc ms : Nat)  (S : StC) (x1 : Int32) (x2 : Option Nat) (c0 : Nat) (z0 : Nat) : Prop :=
  ((x2) = none → wq_Rd_readToken_110 g post mc ms  S (x1) (c0) (z0)) ∧ (∀ y9 : Nat, (x2) = some y9 → ∃ (i11 : Nat), (i11 < 52) ∧ (y9 = g.2.2 (100 + i11)) ∧ (wp_Bi_isCompiling g (fun (r15 : Int32) (S14 : StC) => (((r15 = 0) → wq_Rd_readToken_110 g post mc ms  S14 (x1) (c0) (z0)) ∧ (¬ (r15 = 0) → wp_Rd_compile g (fun (r17 : Int32) (S16 : StC) => (post (r17) S16)) S14 (y9)))) S (y9)))
def wq_Rd_readToken_63 (g : Gm) (post : Int32 → StC → Prop) (mc ms : Nat)  (S : StC) (t0 : Int32) (c0 : Nat) (z0 : Nat) : Prop :=
  ((t0 = (-1)) → post (1) S) ∧ (¬ (t0 = (-1)) → wp_Bi_numbered g (fun (r19 : Option Nat) (S18 : StC) => (((r19) = none → wq_Rd_readToken_93 g post mc ms  S18 (t0) (none) (c0) (z0)) ∧ (∀ y20 : Nat, (r19) = some y20 → ∃ (i22 : Nat), (i22 < 52) ∧ (y20 = g.2.2 (100 + i22)) ∧ (wp_Bi_isDefining g (fun (r26 : Int32) (S25 : StC) => (((r26 = 0) → wq_Rd_readToken_93 g post mc ms  S25 (t0) (some (y20)) (c0) (z0)) ∧ (¬ (r26 = 0) → ∃ (mc27 : Nat) (ms28 : Nat), (c0 + mc27 ≤ mc) ∧ (z0 + ms28 ≤ ms) ∧ (wp_Rd_define g (fun (r30 : Int32) (S29 : StC) => (post (r30) S29)) mc27 ms28 S25 (y20))))) S18 (y20))))) S (t0))
def wp_Rd_readToken (g : Gm) (post : Int32 → StC → Prop) (mc ms : Nat) (S : StC)  : Prop :=
  wp_Ma_burn g (fun (r32 : Int32) (S31 : StC) => (((r32 = 0) → post (7) S31) ∧ (¬ (r32 = 0) → ∃ (mc33 : Nat) (ms34 : Nat), (0 + mc33 ≤ mc) ∧ (0 + ms34 ≤ ms) ∧ (wp_Rd_isNumber g (fun (r36 : Int32) (S35 : StC) => (((r36 = 0) → ∃ (mc37 : Nat) (ms38 : Nat), ((0 + mc33) + mc37 ≤ mc) ∧ ((0 + ms34) + ms38 ≤ ms) ∧ (wp_Rd_isName g (fun (r40 : Int32) (S39 : StC) => (((r40 = 0) → wq_Rd_readToken_63 g post mc ms  S39 ((-1)) (((0 + mc33) + mc37)) (((0 + ms34) + ms38))) ∧ (¬ (r40 = 0) → ∃ (mc41 : Nat) (ms42 : Nat), (((0 + mc33) + mc37) + mc41 ≤ mc) ∧ (((0 + ms34) + ms38) + ms42 ≤ ms) ∧ (wp_Di_find g (fun (r44 : Int32) (S43 : StC) => (wq_Rd_readToken_63 g post mc ms  S43 (r44) ((((0 + mc33) + mc37) + mc41)) ((((0 + ms34) + ms38) + ms42)))) mc41 ms42 S39 ((S39.2.2.1 2)))))) mc37 ms38 S35 ((S35.2.2.1 2)))) ∧ (¬ (r36 = 0) → ∃ (mc45 : Nat) (ms46 : Nat), ((0 + mc33) + mc45 ≤ mc) ∧ ((0 + ms34) + ms46 ≤ ms) ∧ (wp_Rd_numberOf g (fun (r48 : Int32) (S47 : StC) => (wp_Rd_readNumber g (fun (r50 : Int32) (S49 : StC) => (post (r50) S49)) S47 (r48))) mc45 ms46 S35 ((S35.2.2.1 2)))))) mc33 ms34 S31 ((S31.2.2.1 2)))))) S 
set_option maxRecDepth 100000 in
set_option maxHeartbeats 4000000 in
theorem c_Rd_readToken (l : Launch) (g : Gm) (sz : Nat) (S : StC)  (post : Int32 → StC → Prop) (mc ms : Nat) (hw : wp_Rd_readToken g post mc ms S ) : Met l y_Rd_readToken (.code y_Rd_readToken b_Rd_readToken 3 (some .int) :: w_C) (rmA 7 175 mc ms) (va_Pc [.ref (g.2.2 2)] (PC g sz S)) (va_Qi post (BC g (AC g sz S)) (AC g sz S)) mc ms (AC g sz S) := by
  refine ofA_i (by decide) (Nat.le_of_ble_eq_true rfl) (fun p e s m args below meth c Q A H locs ls hx hb hml hts hown hK hA hC hN hmn kr hl hP hD hS => ?_)
  have hl : lv_has ls 3 [(0, .ref (g.2.2 2))] := hl
  unfold wp_Rd_readToken at hw
  have hcm : 0 ≤ mc := Nat.zero_le _
  have hzm : 0 ≤ ms := Nat.zero_le _
  have J144 : ∀ (S : StC) (x1 : Int32) (c0 : Nat) (z0 : Nat) (H : Heap) (locs : List Loc) (ls : Array Slot), c0 ≤ mc → z0 ≤ ms → wq_Rd_readToken_144 g post mc ms  S x1 c0 z0 → lv_has ls 3 [(0, .ref (g.2.2 2)), (1, .int (x1))] → va_P g.1 classes (wC g S) H → va_D A (wC g S) → va_S A s.heap H locs → W p l e (rmA 7 175 mc ms) s m args below meth c H locs c0 z0 Q (F0 m 144 ls []) := by
    intro S x1 c0 z0 H locs ls hcm hzm hw hl hP hD hS
    unfold wq_Rd_readToken_144 at hw
    refine lv_aload_n hx hb d_Rd_readToken_144 rfl (lv_at hl 0 rfl) ?_
    refine va_get (D := g.1) (ci := 4) (v := .ref (g.2.2 3)) (C := R_Rd) (T := F_Rd) (N := 6) hx hb hts hin_Rd hown hK hP 2 rfl rfl 0 (by decide) (hts _ k_C_127) (fun _ h9 => h9) rfl d_Rd_readToken_145 ?_
    refine lv_iload_n hx hb d_Rd_readToken_148 rfl (lv_at hl 1 rfl) ?_
    refine cC_iV (As := [.int (x1)]) (rest := []) hx hb hml hown hts hK hC hN hP hD hS hA hcm hzm hl.1 (va_recv (q0 := 3) (ci := 5) (q := (R_Ma, F_Ma, 9)) hK hP rfl rfl) (qC_89 hts ⟨Nat.le_of_ble_eq_true rfl, Nat.le_of_ble_eq_true rfl⟩) (c_Ma_start l g H.size _ (x1) _ hw) rfl rfl (Nat.le_of_ble_eq_true rfl) d_Rd_readToken_149 (fun r2 S1 H locs hw hP hD hS => ?_)
    exact kr (r2) S1 _ _ _ _ _ _ hcm hzm hw hP hD hS d_Rd_readToken_152
  have J110 : ∀ (S : StC) (x1 : Int32) (c0 : Nat) (z0 : Nat) (H : Heap) (locs : List Loc) (ls : Array Slot), c0 ≤ mc → z0 ≤ ms → wq_Rd_readToken_110 g post mc ms  S x1 c0 z0 → lv_has ls 3 [(0, .ref (g.2.2 2)), (1, .int (x1))] → va_P g.1 classes (wC g S) H → va_D A (wC g S) → va_S A s.heap H locs → W p l e (rmA 7 175 mc ms) s m args below meth c H locs c0 z0 Q (F0 m 110 ls []) := by
    intro S x1 c0 z0 H locs ls hcm hzm hw hl hP hD hS
    unfold wq_Rd_readToken_110 at hw
    refine lv_aload_n hx hb d_Rd_readToken_110 rfl (lv_at hl 0 rfl) ?_
    refine va_get (D := g.1) (ci := 4) (v := .ref (g.2.2 17)) (C := R_Rd) (T := F_Rd) (N := 6) hx hb hts hin_Rd hown hK hP 2 rfl rfl 1 (by decide) (hts _ k_C_128) (fun _ h9 => h9) rfl d_Rd_readToken_111 ?_
    refine cC_iV (As := []) (rest := []) hx hb hml hown hts hK hC hN hP hD hS hA hcm hzm hl.1 (va_recv (q0 := 17) (ci := 10) (q := (R_Co, F_Co, 4)) hK hP rfl rfl) (qC_68 hts ⟨Nat.le_of_ble_eq_true rfl, Nat.le_of_ble_eq_true rfl⟩) (c_Co_isCompiling l g H.size _  _ hw) rfl rfl (Nat.le_of_ble_eq_true rfl) d_Rd_readToken_114 (fun r4 S3 H locs hw hP hD hS => ?_)
    refine lv_if_eq hx hb d_Rd_readToken_117 (tgt := 144) (by decide) (fun hc => ?_) (fun hc => ?_)
    · have hw := hw.1 hc
      exact J144 S3 (x1) (c0) (z0) _ _ _ hcm hzm hw (lv_sub hl [0, 1] rfl) hP hD hS
    · have hw := hw.2 hc
      refine lv_aload_n hx hb d_Rd_readToken_120 rfl (lv_at hl 0 rfl) ?_
      refine va_get (D := g.1) (ci := 4) (v := .ref (g.2.2 3)) (C := R_Rd) (T := F_Rd) (N := 6) hx hb hts hin_Rd hown hK hP 2 rfl rfl 0 (by decide) (hts _ k_C_127) (fun _ h9 => h9) rfl d_Rd_readToken_121 ?_
      refine va_getN (D := g.1) (ci := 5) (v := .ref (g.2.2 13)) (C := R_Ma) (T := F_Ma) (N := 9) hx hb hts hin_Ma hown hK hP 3 rfl rfl 3 (by decide) (va_Nw.use rfl (hN.1 _ kn_C_21)) (fun _ h9 => h9) rfl d_Rd_readToken_124 ?_
      refine lv_iload_n hx hb d_Rd_readToken_127 rfl (lv_at hl 1 rfl) ?_
      refine cC_iV (As := [.int (x1)]) (rest := []) hx hb hml hown hts hK hC hN hP hD hS hA hcm hzm hl.1 (va_recv (q0 := 13) (ci := 8) (q := (R_Di, F_Di, 2)) hK hP rfl rfl) (qC_90 hts ⟨Nat.le_of_ble_eq_true rfl, Nat.le_of_ble_eq_true rfl⟩) (c_Di_isImmediate l g H.size _ (x1) _ hw) rfl rfl (Nat.le_of_ble_eq_true rfl) d_Rd_readToken_128 (fun r6 S5 H locs hw hP hD hS => ?_)
      refine lv_if_ne hx hb d_Rd_readToken_131 (tgt := 144) (by decide) (fun hc => ?_) (fun hc => ?_)
      · have hw := hw.2 hc
        exact J144 S5 (x1) (c0) (z0) _ _ _ hcm hzm hw (lv_sub hl [0, 1] rfl) hP hD hS
      · have hw := hw.1 hc
        refine lv_aload_n hx hb d_Rd_readToken_134 rfl (lv_at hl 0 rfl) ?_
        refine va_get (D := g.1) (ci := 4) (v := .ref (g.2.2 17)) (C := R_Rd) (T := F_Rd) (N := 6) hx hb hts hin_Rd hown hK hP 2 rfl rfl 1 (by decide) (hts _ k_C_128) (fun _ h9 => h9) rfl d_Rd_readToken_135 ?_
        refine lv_iconst (v := 1) hx hb d_Rd_readToken_138 (by decide) ?_
        refine lv_iload_n hx hb d_Rd_readToken_139 rfl (lv_at hl 1 rfl) ?_
        refine cC_iV (As := [.int (1), .int (x1)]) (rest := []) hx hb hml hown hts hK hC hN hP hD hS hA hcm hzm hl.1 (va_recv (q0 := 17) (ci := 10) (q := (R_Co, F_Co, 4)) hK hP rfl rfl) (qC_70 hts ⟨Nat.le_of_ble_eq_true rfl, Nat.le_of_ble_eq_true rfl⟩) (c_Co_addItem l g H.size _ (1) (x1) _ hw) rfl rfl (Nat.le_of_ble_eq_true rfl) d_Rd_readToken_140 (fun r8 S7 H locs hw hP hD hS => ?_)
        exact kr (r8) S7 _ _ _ _ _ _ hcm hzm hw hP hD hS d_Rd_readToken_143
  have J93 : ∀ (S : StC) (x1 : Int32) (x2 : Option Nat) (c0 : Nat) (z0 : Nat) (H : Heap) (locs : List Loc) (ls : Array Slot), c0 ≤ mc → z0 ≤ ms → wq_Rd_readToken_93 g post mc ms  S x1 x2 c0 z0 → lv_has ls 3 [(0, .ref (g.2.2 2)), (1, .int (x1)), (2, va_rf (x2))] → va_P g.1 classes (wC g S) H → va_D A (wC g S) → va_S A s.heap H locs → W p l e (rmA 7 175 mc ms) s m args below meth c H locs c0 z0 Q (F0 m 93 ls []) := by
    intro S x1 x2 c0 z0 H locs ls hcm hzm hw hl hP hD hS
    unfold wq_Rd_readToken_93 at hw
    refine lv_aload_nq hx hb d_Rd_readToken_93 rfl (lv_at hl 2 rfl) ?_
    refine lv_ifnullq hx hb d_Rd_readToken_94 (tgt := 110) (by decide) (fun hq10 => ?_) (fun y9 hq10 => ?_)
    · have hw := hw.1 hq10
      have hl : lv_has ls 3 [(0, .ref (g.2.2 2)), (1, .int (x1)), (2, .null)] := by rw [hq10] at hl; exact hl
      exact J110 S (x1) (c0) (z0) _ _ _ hcm hzm hw (lv_sub hl [0, 1] rfl) hP hD hS
    · have hw := hw.2 y9 hq10
      have hl : lv_has ls 3 [(0, .ref (g.2.2 2)), (1, .int (x1)), (2, .ref (y9))] := by rw [hq10] at hl; exact hl
      refine lv_aload_n hx hb d_Rd_readToken_97 rfl (lv_at hl 2 rfl) ?_
      obtain ⟨i11, hi12, he13, hw⟩ := hw
      refine cC_iV (As := []) (rest := []) hx hb hml hown hts hK hC hN hP hD hS hA hcm hzm hl.1 (erecv_C hC hS he13 hi12) (qC_91 hts ⟨Nat.le_of_ble_eq_true rfl, Nat.le_of_ble_eq_true rfl⟩) (c_Bi_isCompiling l g H.size _ (y9) _ hw) rfl rfl (Nat.le_of_ble_eq_true rfl) d_Rd_readToken_98 (fun r15 S14 H locs hw hP hD hS => ?_)
      refine lv_if_eq hx hb d_Rd_readToken_101 (tgt := 110) (by decide) (fun hc => ?_) (fun hc => ?_)
      · have hw := hw.1 hc
        exact J110 S14 (x1) (c0) (z0) _ _ _ hcm hzm hw (lv_sub hl [0, 1] rfl) hP hD hS
      · have hw := hw.2 hc
        refine lv_aload_n hx hb d_Rd_readToken_104 rfl (lv_at hl 0 rfl) ?_
        refine lv_aload_n hx hb d_Rd_readToken_105 rfl (lv_at hl 2 rfl) ?_
        refine cC_iV (As := [.ref (y9)]) (rest := []) hx hb hml hown hts hK hC hN hP hD hS hA hcm hzm hl.1 (va_recv (q0 := 2) (ci := 4) (q := (R_Rd, F_Rd, 6)) hK hP rfl rfl) (qC_92 hts ⟨Nat.le_of_ble_eq_true rfl, Nat.le_of_ble_eq_true rfl⟩) (c_Rd_compile l g H.size _ (y9) _ hw) rfl rfl (Nat.le_of_ble_eq_true rfl) d_Rd_readToken_106 (fun r17 S16 H locs hw hP hD hS => ?_)
        exact kr (r17) S16 _ _ _ _ _ _ hcm hzm hw hP hD hS d_Rd_readToken_109
  have J63 : ∀ (S : StC) (t0 : Int32) (c0 : Nat) (z0 : Nat) (H : Heap) (locs : List Loc) (ls : Array Slot), c0 ≤ mc → z0 ≤ ms → wq_Rd_readToken_63 g post mc ms  S t0 c0 z0 → lv_has ls 3 [(0, .ref (g.2.2 2))] → va_P g.1 classes (wC g S) H → va_D A (wC g S) → va_S A s.heap H locs → W p l e (rmA 7 175 mc ms) s m args below meth c H locs c0 z0 Q (F0 m 63 ls [.int (t0)]) := by
    intro S t0 c0 z0 H locs ls hcm hzm hw hl hP hD hS
    unfold wq_Rd_readToken_63 at hw
    refine lv_istore_n (lv' := [(1, .int (t0)), (0, .ref (g.2.2 2))]) hx hb d_Rd_readToken_63 rfl hl (by decide) rfl (fun ls hl => ?_)
    refine lv_iload_n hx hb d_Rd_readToken_64 rfl (lv_at hl 0 rfl) ?_
    refine lv_iconst (v := -1) hx hb d_Rd_readToken_65 (by decide) ?_
    refine lv_icmp_ne hx hb d_Rd_readToken_66 (tgt := 71) (by decide) (fun hc => ?_) (fun hc => ?_)
    · have hw := hw.2 hc
      refine lv_iload_n hx hb d_Rd_readToken_71 rfl (lv_at hl 0 rfl) ?_
      refine cC_qS (As := [.int (t0)]) (rest := []) hx hb hml hown hts hK hC hN hP hD hS hA hcm hzm hl.1  (qC_93 hts ⟨Nat.le_of_ble_eq_true rfl, Nat.le_of_ble_eq_true rfl⟩) (c_Bi_numbered l g H.size _ (t0) _ hw) rfl rfl (Nat.le_of_ble_eq_true rfl) d_Rd_readToken_72 (fun r19 S18 H locs hw hP hD hS => ?_)
      refine lv_astore_nq (lv' := [(2, va_rf (r19)), (1, .int (t0)), (0, .ref (g.2.2 2))]) hx hb d_Rd_readToken_75 rfl hl (by decide) rfl (fun ls hl => ?_)
      refine lv_aload_nq hx hb d_Rd_readToken_76 rfl (lv_at hl 0 rfl) ?_
      refine lv_ifnullq hx hb d_Rd_readToken_77 (tgt := 93) (by decide) (fun hq21 => ?_) (fun y20 hq21 => ?_)
      · have hw := hw.1 hq21
        have hl : lv_has ls 3 [(2, .null), (1, .int (t0)), (0, .ref (g.2.2 2))] := by rw [hq21] at hl; exact hl
        exact J93 S18 (t0) (none) (c0) (z0) _ _ _ hcm hzm hw (lv_sub hl [2, 1, 0] rfl) hP hD hS
      · have hw := hw.2 y20 hq21
        have hl : lv_has ls 3 [(2, .ref (y20)), (1, .int (t0)), (0, .ref (g.2.2 2))] := by rw [hq21] at hl; exact hl
        refine lv_aload_n hx hb d_Rd_readToken_80 rfl (lv_at hl 0 rfl) ?_
        obtain ⟨i22, hi23, he24, hw⟩ := hw
        refine cC_iV (As := []) (rest := []) hx hb hml hown hts hK hC hN hP hD hS hA hcm hzm hl.1 (erecv_C hC hS he24 hi23) (qC_94 hts ⟨Nat.le_of_ble_eq_true rfl, Nat.le_of_ble_eq_true rfl⟩) (c_Bi_isDefining l g H.size _ (y20) _ hw) rfl rfl (Nat.le_of_ble_eq_true rfl) d_Rd_readToken_81 (fun r26 S25 H locs hw hP hD hS => ?_)
        refine lv_if_eq hx hb d_Rd_readToken_84 (tgt := 93) (by decide) (fun hc => ?_) (fun hc => ?_)
        · have hw := hw.1 hc
          exact J93 S25 (t0) (some (y20)) (c0) (z0) _ _ _ hcm hzm hw (lv_sub hl [2, 1, 0] rfl) hP hD hS
        · have hw := hw.2 hc
          refine lv_aload_n hx hb d_Rd_readToken_87 rfl (lv_at hl 2 rfl) ?_
          refine lv_aload_n hx hb d_Rd_readToken_88 rfl (lv_at hl 0 rfl) ?_
          obtain ⟨mc27, ms28, hcm, hzm, hw⟩ := hw
          refine cA_iV (As := [.ref (y20)]) (rest := []) hx hb hml hown hts hK hC hN hP hD hS hA hcm hzm hl.1 (va_recv (q0 := 2) (ci := 4) (q := (R_Rd, F_Rd, 6)) hK hP rfl rfl) (qA_45 hts ⟨Nat.le_of_ble_eq_true rfl, Nat.le_of_ble_eq_true rfl⟩) (c_Rd_define l g H.size _ (y20) _ _ _ hw) rfl rfl (Nat.le_of_ble_eq_true rfl) d_Rd_readToken_89 (fun r30 S29 H locs hw hP hD hS => ?_)
          exact kr (r30) S29 _ _ _ _ _ _ hcm hzm hw hP hD hS d_Rd_readToken_92
    · have hw := hw.1 hc
      refine lv_iconst (v := 1) hx hb d_Rd_readToken_69 (by decide) ?_
      exact kr (1) S _ _ _ _ _ _ hcm hzm hw hP hD hS d_Rd_readToken_70
  refine lv_aload_n hx hb d_Rd_readToken_0 rfl (lv_at hl 0 rfl) ?_
  refine va_get (D := g.1) (ci := 4) (v := .ref (g.2.2 3)) (C := R_Rd) (T := F_Rd) (N := 6) hx hb hts hin_Rd hown hK hP 2 rfl rfl 0 (by decide) (hts _ k_C_127) (fun _ h9 => h9) rfl d_Rd_readToken_1 ?_
  refine cC_iV (As := []) (rest := []) hx hb hml hown hts hK hC hN hP hD hS hA hcm hzm hl.1 (va_recv (q0 := 3) (ci := 5) (q := (R_Ma, F_Ma, 9)) hK hP rfl rfl) (qC_95 hts ⟨Nat.le_of_ble_eq_true rfl, Nat.le_of_ble_eq_true rfl⟩) (c_Ma_burn l g H.size _  _ hw) rfl rfl (Nat.le_of_ble_eq_true rfl) d_Rd_readToken_4 (fun r32 S31 H locs hw hP hD hS => ?_)
  refine lv_if_ne hx hb d_Rd_readToken_7 (tgt := 13) (by decide) (fun hc => ?_) (fun hc => ?_)
  · have hw := hw.2 hc
    refine lv_aload_n hx hb d_Rd_readToken_13 rfl (lv_at hl 0 rfl) ?_
    refine va_get (D := g.1) (ci := 4) (v := .ref ((S31.2.2.1 2))) (C := R_Rd) (T := F_Rd) (N := 6) hx hb hts hin_Rd hown hK hP 2 rfl rfl 5 (by decide) (hts _ k_C_132) (fun _ h9 => h9) rfl d_Rd_readToken_14 ?_
    obtain ⟨mc33, ms34, hcm, hzm, hw⟩ := hw
    refine cA_iS (As := [.ref ((S31.2.2.1 2))]) (rest := []) hx hb hml hown hts hK hC hN hP hD hS hA hcm hzm hl.1  (qA_31 hts ⟨Nat.le_of_ble_eq_true rfl, Nat.le_of_ble_eq_true rfl⟩) (c_Rd_isNumber l g H.size _ ((S31.2.2.1 2)) _ _ _ hw) rfl rfl (Nat.le_of_ble_eq_true rfl) d_Rd_readToken_17 (fun r36 S35 H locs hw hP hD hS => ?_)
    refine lv_if_eq hx hb d_Rd_readToken_20 (tgt := 35) (by decide) (fun hc => ?_) (fun hc => ?_)
    · have hw := hw.1 hc
      refine lv_aload_n hx hb d_Rd_readToken_35 rfl (lv_at hl 0 rfl) ?_
      refine va_get (D := g.1) (ci := 4) (v := .ref ((S35.2.2.1 2))) (C := R_Rd) (T := F_Rd) (N := 6) hx hb hts hin_Rd hown hK hP 2 rfl rfl 5 (by decide) (hts _ k_C_132) (fun _ h9 => h9) rfl d_Rd_readToken_36 ?_
      obtain ⟨mc37, ms38, hcm, hzm, hw⟩ := hw
      refine cA_iS (As := [.ref ((S35.2.2.1 2))]) (rest := []) hx hb hml hown hts hK hC hN hP hD hS hA hcm hzm hl.1  (qA_42 hts ⟨Nat.le_of_ble_eq_true rfl, Nat.le_of_ble_eq_true rfl⟩) (c_Rd_isName l g H.size _ ((S35.2.2.1 2)) _ _ _ hw) rfl rfl (Nat.le_of_ble_eq_true rfl) d_Rd_readToken_39 (fun r40 S39 H locs hw hP hD hS => ?_)
      refine lv_if_eq hx hb d_Rd_readToken_42 (tgt := 62) (by decide) (fun hc => ?_) (fun hc => ?_)
      · have hw := hw.1 hc
        refine lv_iconst (v := -1) hx hb d_Rd_readToken_62 (by decide) ?_
        exact J63 S39 ((-1)) (((0 + mc33) + mc37)) (((0 + ms34) + ms38)) _ _ _ hcm hzm hw (lv_sub hl [0] rfl) hP hD hS
      · have hw := hw.2 hc
        refine lv_aload_n hx hb d_Rd_readToken_45 rfl (lv_at hl 0 rfl) ?_
        refine va_get (D := g.1) (ci := 4) (v := .ref (g.2.2 3)) (C := R_Rd) (T := F_Rd) (N := 6) hx hb hts hin_Rd hown hK hP 2 rfl rfl 0 (by decide) (hts _ k_C_127) (fun _ h9 => h9) rfl d_Rd_readToken_46 ?_
        refine va_getN (D := g.1) (ci := 5) (v := .ref (g.2.2 13)) (C := R_Ma) (T := F_Ma) (N := 9) hx hb hts hin_Ma hown hK hP 3 rfl rfl 3 (by decide) (va_Nw.use rfl (hN.1 _ kn_C_21)) (fun _ h9 => h9) rfl d_Rd_readToken_49 ?_
        refine lv_aload_n hx hb d_Rd_readToken_52 rfl (lv_at hl 0 rfl) ?_
        refine va_get (D := g.1) (ci := 4) (v := .ref ((S39.2.2.1 2))) (C := R_Rd) (T := F_Rd) (N := 6) hx hb hts hin_Rd hown hK hP 2 rfl rfl 5 (by decide) (hts _ k_C_132) (fun _ h9 => h9) rfl d_Rd_readToken_53 ?_
        obtain ⟨mc41, ms42, hcm, hzm, hw⟩ := hw
        refine cA_iV (As := [.ref ((S39.2.2.1 2))]) (rest := []) hx hb hml hown hts hK hC hN hP hD hS hA hcm hzm hl.1 (va_recv (q0 := 13) (ci := 8) (q := (R_Di, F_Di, 2)) hK hP rfl rfl) (qA_37 hts ⟨Nat.le_of_ble_eq_true rfl, Nat.le_of_ble_eq_true rfl⟩) (c_Di_find l g H.size _ ((S39.2.2.1 2)) _ _ _ hw) rfl rfl (Nat.le_of_ble_eq_true rfl) d_Rd_readToken_56 (fun r44 S43 H locs hw hP hD hS => ?_)
        refine lv_goto hx hb d_Rd_readToken_59 (tgt := 63) (by decide) ?_
        exact J63 S43 (r44) ((((0 + mc33) + mc37) + mc41)) ((((0 + ms34) + ms38) + ms42)) _ _ _ hcm hzm hw (lv_sub hl [0] rfl) hP hD hS
    · have hw := hw.2 hc
      refine lv_aload_n hx hb d_Rd_readToken_23 rfl (lv_at hl 0 rfl) ?_
      refine lv_aload_n hx hb d_Rd_readToken_24 rfl (lv_at hl 0 rfl) ?_
      refine va_get (D := g.1) (ci := 4) (v := .ref ((S35.2.2.1 2))) (C := R_Rd) (T := F_Rd) (N := 6) hx hb hts hin_Rd hown hK hP 2 rfl rfl 5 (by decide) (hts _ k_C_132) (fun _ h9 => h9) rfl d_Rd_readToken_25 ?_
      obtain ⟨mc45, ms46, hcm, hzm, hw⟩ := hw
      refine cA_iS (As := [.ref ((S35.2.2.1 2))]) (rest := [.ref (g.2.2 2)]) hx hb hml hown hts hK hC hN hP hD hS hA hcm hzm hl.1  (qA_46 hts ⟨Nat.le_of_ble_eq_true rfl, Nat.le_of_ble_eq_true rfl⟩) (c_Rd_numberOf l g H.size _ ((S35.2.2.1 2)) _ _ _ hw) rfl rfl (Nat.le_of_ble_eq_true rfl) d_Rd_readToken_28 (fun r48 S47 H locs hw hP hD hS => ?_)
      refine cC_iV (As := [.int (r48)]) (rest := []) hx hb hml hown hts hK hC hN hP hD hS hA hcm hzm hl.1 (va_recv (q0 := 2) (ci := 4) (q := (R_Rd, F_Rd, 6)) hK hP rfl rfl) (qC_96 hts ⟨Nat.le_of_ble_eq_true rfl, Nat.le_of_ble_eq_true rfl⟩) (c_Rd_readNumber l g H.size _ (r48) _ hw) rfl rfl (Nat.le_of_ble_eq_true rfl) d_Rd_readToken_31 (fun r50 S49 H locs hw hP hD hS => ?_)
      exact kr (r50) S49 _ _ _ _ _ _ hcm hzm hw hP hD hS d_Rd_readToken_34
  · have hw := hw.1 hc
    refine lv_bipush (v := 7) hx hb d_Rd_readToken_10 (by decide) ?_
    exact kr (7) S31 _ _ _ _ _ _ hcm hzm hw hP hD hS d_Rd_readToken_12
theorem qC_97 {R : Room} {s : State} {args : Array Value} (hts : ∀ w ∈ w_C, w.before args s = true) (hR : (rmM 2 40).frames + 1 ≤ R.frames ∧ 8 + (1 + 11) + (rmM 2 40).locals ≤ R.locals) : CallW R s args "WordSmith" R_Rd 63 y_Rd_clear b_Rd_clear 1 none (.code y_Rd_clear b_Rd_clear 1 none :: w_C) (rmM 2 40) 0 0 0 := ⟨callB_of 0 hts (good_C k_C_721) rfl rfl rfl (hts _ k_C_5) (hts _ k_C_718) ⟨by decide +kernel, by decide +kernel, by decide +kernel⟩ hR, hts _ k_C_719, hts _ k_C_720⟩
theorem qA_47 {R : Room} {s : State} {args : Array Value} {mc1 ms1 : Nat} (hts : ∀ w ∈ w_C, w.before args s = true) (hR : (rmA 6 153 mc1 ms1).frames + 1 ≤ R.frames ∧ 8 + (1 + 11) + (rmA 6 153 mc1 ms1).locals ≤ R.locals) : CallW R s args "WordSmith" R_Rd 47 y_Rd_advance b_Rd_advance 1 (some .boolean) (.code y_Rd_advance b_Rd_advance 1 (some .boolean) :: w_C) (rmA 6 153 mc1 ms1) mc1 ms1 0 := ⟨callB_of 0 hts (good_C k_C_317) rfl rfl rfl (hts _ k_C_5) (hts _ k_C_314) ⟨by decide +kernel, by decide +kernel, by decide +kernel⟩ hR, hts _ k_C_315, hts _ k_C_316⟩
theorem qA_48 {R : Room} {s : State} {args : Array Value} {mc1 ms1 : Nat} (hts : ∀ w ∈ w_C, w.before args s = true) (hR : (rmA 7 175 mc1 ms1).frames + 1 ≤ R.frames ∧ 8 + (3 + 11) + (rmA 7 175 mc1 ms1).locals ≤ R.locals) : CallW R s args "WordSmith" R_Rd 51 y_Rd_readToken b_Rd_readToken 3 (some .int) (.code y_Rd_readToken b_Rd_readToken 3 (some .int) :: w_C) (rmA 7 175 mc1 ms1) mc1 ms1 0 := ⟨callB_of 0 hts (good_C k_C_381) rfl rfl rfl (hts _ k_C_5) (hts _ k_C_378) ⟨by decide +kernel, by decide +kernel, by decide +kernel⟩ hR, hts _ k_C_379, hts _ k_C_380⟩
theorem qC_98 {R : Room} {s : State} {args : Array Value} (hts : ∀ w ∈ w_C, w.before args s = true) (hR : (rmM 6 156).frames + 1 ≤ R.frames ∧ 8 + (6 + 11) + (rmM 6 156).locals ≤ R.locals) : CallW R s args "WordSmith" R_Ma 58 y_Ma_finishCalls b_Ma_finishCalls 6 (some .int) (.code y_Ma_finishCalls b_Ma_finishCalls 6 (some .int) :: w_C) (rmM 6 156) 0 0 0 := ⟨callB_of 0 hts (good_C k_C_700) rfl rfl rfl (hts _ k_C_6) (hts _ k_C_697) ⟨by decide +kernel, by decide +kernel, by decide +kernel⟩ hR, hts _ k_C_698, hts _ k_C_699⟩
theorem qA_49 {R : Room} {s : State} {args : Array Value} {mc1 ms1 : Nat} (hts : ∀ w ∈ w_C, w.before args s = true) (hR : (rmA 5 131 mc1 ms1).frames + 1 ≤ R.frames ∧ 8 + (1 + 11) + (rmA 5 131 mc1 ms1).locals ≤ R.locals) : CallW R s args "WordSmith" R_SB 35 y_SB_toString b_SB_toString 1 (some (.object "java/lang/String")) (.code y_SB_toString b_SB_toString 1 (some (.object "java/lang/String")) :: w_C) (rmA 5 131 mc1 ms1) mc1 ms1 0 := ⟨callB_of 0 hts (good_C k_C_243) rfl rfl rfl (hts _ k_C_2) (hts _ k_C_240) ⟨by decide +kernel, by decide +kernel, by decide +kernel⟩ hR, hts _ k_C_241, hts _ k_C_242⟩
theorem qC_99 {R : Room} {s : State} {args : Array Value} (hts : ∀ w ∈ w_C, w.before args s = true) (hR : (rmM 1 20).frames + 1 ≤ R.frames ∧ 8 + (2 + 11) + (rmM 1 20).locals ≤ R.locals) : CallW R s args "WordSmith" R_Rd 39 y_Rd_take b_Rd_take 2 none (.code y_Rd_take b_Rd_take 2 none :: w_C) (rmM 1 20) 0 0 1 := ⟨callB_of 1 hts (good_C k_C_289) rfl rfl rfl (hts _ k_C_5) (hts _ k_C_286) ⟨by decide +kernel, by decide +kernel, by decide +kernel⟩ hR, hts _ k_C_287, hts _ k_C_288⟩
theorem qA_50 {R : Room} {s : State} {args : Array Value} {mc1 ms1 : Nat} (hts : ∀ w ∈ w_C, w.before args s = true) (hR : (rmA 5 112 mc1 ms1).frames + 1 ≤ R.frames ∧ 8 + (2 + 11) + (rmA 5 112 mc1 ms1).locals ≤ R.locals) : CallW R s args "WordSmith" R_SB 43 y_SB_setLength b_SB_setLength 2 none (.code y_SB_setLength b_SB_setLength 2 none :: w_C) (rmA 5 112 mc1 ms1) mc1 ms1 1 := ⟨callB_of 1 hts (good_C k_C_297) rfl rfl rfl (hts _ k_C_2) (hts _ k_C_294) ⟨by decide +kernel, by decide +kernel, by decide +kernel⟩ hR, hts _ k_C_295, hts _ k_C_296⟩
theorem d_W_run_0 : decode b_W_run 0 = .ok (.aload_n 0, 1) := by decide +kernel
theorem d_W_run_1 : decode b_W_run 1 = .ok (.getfield 19, 3) := by decide +kernel
theorem d_W_run_4 : decode b_W_run 4 = .ok (.aload_n 0, 1) := by decide +kernel
theorem d_W_run_5 : decode b_W_run 5 = .ok (.getfield 10, 3) := by decide +kernel
theorem d_W_run_8 : decode b_W_run 8 = .ok (.invokevirtual 35, 3) := by decide +kernel
theorem d_W_run_11 : decode b_W_run 11 = .ok (.invokevirtual 39, 3) := by decide +kernel
theorem d_W_run_14 : decode b_W_run 14 = .ok (.aload_n 0, 1) := by decide +kernel
theorem d_W_run_15 : decode b_W_run 15 = .ok (.getfield 10, 3) := by decide +kernel
theorem d_W_run_18 : decode b_W_run 18 = .ok (.iconst 0, 1) := by decide +kernel
theorem d_W_run_19 : decode b_W_run 19 = .ok (.invokevirtual 43, 3) := by decide +kernel
theorem d_W_run_22 : decode b_W_run 22 = .ok (.iconst 0, 1) := by decide +kernel
theorem d_W_run_23 : decode b_W_run 23 = .ok (.istore_n 1, 1) := by decide +kernel
theorem d_W_run_24 : decode b_W_run 24 = .ok (.iconst 0, 1) := by decide +kernel
theorem d_W_run_25 : decode b_W_run 25 = .ok (.istore_n 2, 1) := by decide +kernel
theorem d_W_run_26 : decode b_W_run 26 = .ok (.iload_n 2, 1) := by decide +kernel
theorem d_W_run_27 : decode b_W_run 27 = .ok (.bipush 120, 2) := by decide +kernel
theorem d_W_run_29 : decode b_W_run 29 = .ok (.if_icmp .ge 46, 3) := by decide +kernel
theorem d_W_run_32 : decode b_W_run 32 = .ok (.iload_n 1, 1) := by decide +kernel
theorem d_W_run_33 : decode b_W_run 33 = .ok (.ifCond .ne 42, 3) := by decide +kernel
theorem d_W_run_36 : decode b_W_run 36 = .ok (.aload_n 0, 1) := by decide +kernel
theorem d_W_run_37 : decode b_W_run 37 = .ok (.getfield 19, 3) := by decide +kernel
theorem d_W_run_40 : decode b_W_run 40 = .ok (.invokevirtual 47, 3) := by decide +kernel
theorem d_W_run_43 : decode b_W_run 43 = .ok (.ifCond .eq 32, 3) := by decide +kernel
theorem d_W_run_46 : decode b_W_run 46 = .ok (.aload_n 0, 1) := by decide +kernel
theorem d_W_run_47 : decode b_W_run 47 = .ok (.getfield 19, 3) := by decide +kernel
theorem d_W_run_50 : decode b_W_run 50 = .ok (.invokevirtual 51, 3) := by decide +kernel
theorem d_W_run_53 : decode b_W_run 53 = .ok (.istore_n 1, 1) := by decide +kernel
theorem d_W_run_54 : decode b_W_run 54 = .ok (.iload_n 1, 1) := by decide +kernel
theorem d_W_run_55 : decode b_W_run 55 = .ok (.ifCond .ne 14, 3) := by decide +kernel
theorem d_W_run_58 : decode b_W_run 58 = .ok (.aload_n 0, 1) := by decide +kernel
theorem d_W_run_59 : decode b_W_run 59 = .ok (.getfield 19, 3) := by decide +kernel
theorem d_W_run_62 : decode b_W_run 62 = .ok (.getfield 54, 3) := by decide +kernel
theorem d_W_run_65 : decode b_W_run 65 = .ok (.invokevirtual 58, 3) := by decide +kernel
theorem d_W_run_68 : decode b_W_run 68 = .ok (.istore_n 1, 1) := by decide +kernel
theorem d_W_run_69 : decode b_W_run 69 = .ok (.iinc 2 1, 3) := by decide +kernel
theorem d_W_run_72 : decode b_W_run 72 = .ok (.goto (-46), 3) := by decide +kernel
theorem d_W_run_75 : decode b_W_run 75 = .ok (.iload_n 1, 1) := by decide +kernel
theorem d_W_run_76 : decode b_W_run 76 = .ok (.ifCond .ne 5, 3) := by decide +kernel
theorem d_W_run_79 : decode b_W_run 79 = .ok (.iconst 0, 1) := by decide +kernel
theorem d_W_run_80 : decode b_W_run 80 = .ok (.ireturn, 1) := by decide +kernel
theorem d_W_run_81 : decode b_W_run 81 = .ok (.aload_n 0, 1) := by decide +kernel
theorem d_W_run_82 : decode b_W_run 82 = .ok (.getfield 19, 3) := by decide +kernel
theorem d_W_run_85 : decode b_W_run 85 = .ok (.invokevirtual 63, 3) := by decide +kernel
theorem d_W_run_88 : decode b_W_run 88 = .ok (.sipush (-1000), 3) := by decide +kernel
theorem d_W_run_91 : decode b_W_run 91 = .ok (.iload_n 1, 1) := by decide +kernel
theorem d_W_run_92 : decode b_W_run 92 = .ok (.imul, 1) := by decide +kernel
theorem d_W_run_93 : decode b_W_run 93 = .ok (.aload_n 0, 1) := by decide +kernel
theorem d_W_run_94 : decode b_W_run 94 = .ok (.getfield 19, 3) := by decide +kernel
theorem d_W_run_97 : decode b_W_run 97 = .ok (.getfield 66, 3) := by decide +kernel
theorem d_W_run_100 : decode b_W_run 100 = .ok (.isub, 1) := by decide +kernel
theorem d_W_run_101 : decode b_W_run 101 = .ok (.ireturn, 1) := by decide +kernel
def wq_W_run_75 (g : Gm) (post : Int32 → StC → Prop) (mc ms : Nat)  (S : StC) (x1 : Int32) (c0 : Nat) (z0 : Nat) : Prop :=
  ((x1 = 0) → post (0) S) ∧ (¬ (x1 = 0) → wp_Rd_clear g (fun S1 : StC => (post ((((-1000) * x1) - (S1.1 4))) S1)) S )
def wq_W_run_69 (g : Gm) (post : Int32 → StC → Prop) (mc ms : Nat) (k26 : StC → Int32 → Int32 → Nat → Nat → Prop) (S : StC) (x1 : Int32) (x2 : Int32) (c0 : Nat) (z0 : Nat) : Prop :=
  k26 S (x1) ((x2 + 1)) (c0) (z0)
def wq_W_run_26 (g : Gm) (post : Int32 → StC → Prop) (mc ms : Nat)  : Nat → StC → Int32 → Int32 → Nat → Nat → Prop
  | 0, _, _, _, _, _ => False
  | n26 + 1, S, x1, x2, c0, z0 =>
    ((120 ≤ x2) → wq_W_run_75 g post mc ms  S (x1) (c0) (z0)) ∧ (¬ (120 ≤ x2) → ((x1 = 0) → ∃ (mc2 : Nat) (ms3 : Nat), (c0 + mc2 ≤ mc) ∧ (z0 + ms3 ≤ ms) ∧ (wp_Rd_advance g (fun (r5 : Int32) (S4 : StC) => (((r5 = 0) → wq_W_run_75 g post mc ms  S4 (x1) ((c0 + mc2)) ((z0 + ms3))) ∧ (¬ (r5 = 0) → ∃ (mc6 : Nat) (ms7 : Nat), ((c0 + mc2) + mc6 ≤ mc) ∧ ((z0 + ms3) + ms7 ≤ ms) ∧ (wp_Rd_readToken g (fun (r9 : Int32) (S8 : StC) => (((r9 = 0) → wp_Ma_finishCalls g (fun (r11 : Int32) (S10 : StC) => (wq_W_run_69 g post mc ms (wq_W_run_26 g post mc ms  n26) S10 (r11) (x2) (((c0 + mc2) + mc6)) (((z0 + ms3) + ms7)))) S8 ) ∧ (¬ (r9 = 0) → wq_W_run_69 g post mc ms (wq_W_run_26 g post mc ms  n26) S8 (r9) (x2) (((c0 + mc2) + mc6)) (((z0 + ms3) + ms7))))) mc6 ms7 S4 )))) mc2 ms3 S )) ∧ (¬ (x1 = 0) → wq_W_run_75 g post mc ms  S (x1) (c0) (z0)))
def wp_W_run (g : Gm) (post : Int32 → StC → Prop) (mc ms : Nat) (S : StC)  : Prop :=
  ∃ (mc12 : Nat) (ms13 : Nat), (0 + mc12 ≤ mc) ∧ (0 + ms13 ≤ ms) ∧ (wp_SB_toString g (fun (r15 : Option Nat) (S14 : StC) => (∃ (y16 : Nat), (r15 = some y16) ∧ (wp_Rd_take g (fun S18 : StC => (∃ (mc19 : Nat) (ms20 : Nat), ((0 + mc12) + mc19 ≤ mc) ∧ ((0 + ms13) + ms20 ≤ ms) ∧ (wp_SB_setLength g (fun S21 : StC => (∃ nn : Nat, wq_W_run_26 g post mc ms  nn S21 (0) (0) (((0 + mc12) + mc19)) (((0 + ms13) + ms20)))) mc19 ms20 S18 (0)))) S14 (y16)))) mc12 ms13 S )
set_option maxRecDepth 100000 in
set_option maxHeartbeats 4000000 in
theorem c_W_run (l : Launch) (g : Gm) (sz : Nat) (S : StC)  (post : Int32 → StC → Prop) (mc ms : Nat) (hw : wp_W_run g post mc ms S ) : Met l y_W_run (.code y_W_run b_W_run 3 (some .int) :: w_C) (rmA 8 197 mc ms) (va_Pc [.ref (g.2.2 0)] (PC g sz S)) (va_Qi post (BC g (AC g sz S)) (AC g sz S)) mc ms (AC g sz S) := by
  refine ofA_i (by decide) (Nat.le_of_ble_eq_true rfl) (fun p e s m args below meth c Q A H locs ls hx hb hml hts hown hK hA hC hN hmn kr hl hP hD hS => ?_)
  have hl : lv_has ls 3 [(0, .ref (g.2.2 0))] := hl
  unfold wp_W_run at hw
  have hcm : 0 ≤ mc := Nat.zero_le _
  have hzm : 0 ≤ ms := Nat.zero_le _
  have J75 : ∀ (S : StC) (x1 : Int32) (c0 : Nat) (z0 : Nat) (H : Heap) (locs : List Loc) (ls : Array Slot), c0 ≤ mc → z0 ≤ ms → wq_W_run_75 g post mc ms  S x1 c0 z0 → lv_has ls 3 [(0, .ref (g.2.2 0)), (1, .int (x1))] → va_P g.1 classes (wC g S) H → va_D A (wC g S) → va_S A s.heap H locs → W p l e (rmA 8 197 mc ms) s m args below meth c H locs c0 z0 Q (F0 m 75 ls []) := by
    intro S x1 c0 z0 H locs ls hcm hzm hw hl hP hD hS
    unfold wq_W_run_75 at hw
    refine lv_iload_n hx hb d_W_run_75 rfl (lv_at hl 1 rfl) ?_
    refine lv_if_ne hx hb d_W_run_76 (tgt := 81) (by decide) (fun hc => ?_) (fun hc => ?_)
    · have hw := hw.2 hc
      refine lv_aload_n hx hb d_W_run_81 rfl (lv_at hl 0 rfl) ?_
      refine va_get (D := g.1) (ci := 1) (v := .ref (g.2.2 2)) (C := R_W) (T := F_W) (N := 2) hx hb hts hin_W hown hK hP 0 rfl rfl 1 (by decide) (hts _ k_C_135) (fun _ h9 => h9) rfl d_W_run_82 ?_
      refine cC_vV (As := []) (rest := []) hx hb hml hown hts hK hC hN hP hD hS hA hcm hzm hl.1 (va_recv (q0 := 2) (ci := 4) (q := (R_Rd, F_Rd, 6)) hK hP rfl rfl) (qC_97 hts ⟨Nat.le_of_ble_eq_true rfl, Nat.le_of_ble_eq_true rfl⟩) (c_Rd_clear l g H.size _  _ hw) rfl rfl (Nat.le_of_ble_eq_true rfl) d_W_run_85 (fun S1 H locs hw hP hD hS => ?_)
      refine lv_sipush (v := -1000) hx hb d_W_run_88 (by decide) ?_
      refine lv_iload_n hx hb d_W_run_91 rfl (lv_at hl 1 rfl) ?_
      refine lv_imul hx hb d_W_run_92 ?_
      refine lv_aload_n hx hb d_W_run_93 rfl (lv_at hl 0 rfl) ?_
      refine va_get (D := g.1) (ci := 1) (v := .ref (g.2.2 2)) (C := R_W) (T := F_W) (N := 2) hx hb hts hin_W hown hK hP 0 rfl rfl 1 (by decide) (hts _ k_C_135) (fun _ h9 => h9) rfl d_W_run_94 ?_
      refine va_getN (D := g.1) (ci := 4) (v := .int ((S1.1 4))) (C := R_Rd) (T := F_Rd) (N := 6) hx hb hts hin_Rd hown hK hP 2 rfl rfl 4 (by decide) (va_Nw.use rfl (hN.1 _ kn_C_28)) (fun _ h9 => h9) rfl d_W_run_97 ?_
      refine lv_isub hx hb d_W_run_100 ?_
      exact kr ((((-1000) * x1) - (S1.1 4))) S1 _ _ _ _ _ _ hcm hzm hw hP hD hS d_W_run_101
    · have hw := hw.1 hc
      refine lv_iconst (v := 0) hx hb d_W_run_79 (by decide) ?_
      exact kr (0) S _ _ _ _ _ _ hcm hzm hw hP hD hS d_W_run_80
  have J26 : ∀ (n26 : Nat), ∀ (S : StC) (x1 : Int32) (x2 : Int32) (c0 : Nat) (z0 : Nat) (H : Heap) (locs : List Loc) (ls : Array Slot), c0 ≤ mc → z0 ≤ ms → wq_W_run_26 g post mc ms  n26 S x1 x2 c0 z0 → lv_has ls 3 [(0, .ref (g.2.2 0)), (1, .int (x1)), (2, .int (x2))] → va_P g.1 classes (wC g S) H → va_D A (wC g S) → va_S A s.heap H locs → W p l e (rmA 8 197 mc ms) s m args below meth c H locs c0 z0 Q (F0 m 26 ls []) := by
    intro n26
    induction n26 with
    | zero => intro S x1 x2 c0 z0 H locs ls hcm hzm hw; exact hw.elim
    | succ n26 ih26 =>
      have J69 : ∀ (S : StC) (x1 : Int32) (x2 : Int32) (c0 : Nat) (z0 : Nat) (H : Heap) (locs : List Loc) (ls : Array Slot), c0 ≤ mc → z0 ≤ ms → wq_W_run_69 g post mc ms (wq_W_run_26 g post mc ms  n26) S x1 x2 c0 z0 → lv_has ls 3 [(0, .ref (g.2.2 0)), (1, .int (x1)), (2, .int (x2))] → va_P g.1 classes (wC g S) H → va_D A (wC g S) → va_S A s.heap H locs → W p l e (rmA 8 197 mc ms) s m args below meth c H locs c0 z0 Q (F0 m 69 ls []) := by
        intro S x1 x2 c0 z0 H locs ls hcm hzm hw hl hP hD hS
        unfold wq_W_run_69 at hw
        refine lv_iinc (k := 2) (v := (x2 + 1)) (lv' := [(2, .int ((x2 + 1))), (0, .ref (g.2.2 0)), (1, .int (x1))]) hx hb d_W_run_69 hl rfl rfl (by decide) rfl (fun ls hl => ?_)
        refine lv_goto hx hb d_W_run_72 (tgt := 26) (by decide) ?_
        exact ih26 S (x1) ((x2 + 1)) (c0) (z0) _ _ _ hcm hzm hw (lv_sub hl [1, 2, 0] rfl) hP hD hS
      intro S x1 x2 c0 z0 H locs ls hcm hzm hw hl hP hD hS
      unfold wq_W_run_26 at hw
      refine lv_iload_n hx hb d_W_run_26 rfl (lv_at hl 2 rfl) ?_
      refine lv_bipush (v := 120) hx hb d_W_run_27 (by decide) ?_
      refine lv_icmp_ge hx hb d_W_run_29 (tgt := 75) (by decide) (fun hc => ?_) (fun hc => ?_)
      · have hw := hw.1 hc
        exact J75 S (x1) (c0) (z0) _ _ _ hcm hzm hw (lv_sub hl [0, 1] rfl) hP hD hS
      · have hw := hw.2 hc
        refine lv_iload_n hx hb d_W_run_32 rfl (lv_at hl 1 rfl) ?_
        refine lv_if_ne hx hb d_W_run_33 (tgt := 75) (by decide) (fun hc => ?_) (fun hc => ?_)
        · have hw := hw.2 hc
          exact J75 S (x1) (c0) (z0) _ _ _ hcm hzm hw (lv_sub hl [0, 1] rfl) hP hD hS
        · have hw := hw.1 hc
          refine lv_aload_n hx hb d_W_run_36 rfl (lv_at hl 0 rfl) ?_
          refine va_get (D := g.1) (ci := 1) (v := .ref (g.2.2 2)) (C := R_W) (T := F_W) (N := 2) hx hb hts hin_W hown hK hP 0 rfl rfl 1 (by decide) (hts _ k_C_135) (fun _ h9 => h9) rfl d_W_run_37 ?_
          obtain ⟨mc2, ms3, hcm, hzm, hw⟩ := hw
          refine cA_iV (As := []) (rest := []) hx hb hml hown hts hK hC hN hP hD hS hA hcm hzm hl.1 (va_recv (q0 := 2) (ci := 4) (q := (R_Rd, F_Rd, 6)) hK hP rfl rfl) (qA_47 hts ⟨Nat.le_of_ble_eq_true rfl, Nat.le_of_ble_eq_true rfl⟩) (c_Rd_advance l g H.size _  _ _ _ hw) rfl rfl (Nat.le_of_ble_eq_true rfl) d_W_run_40 (fun r5 S4 H locs hw hP hD hS => ?_)
          refine lv_if_eq hx hb d_W_run_43 (tgt := 75) (by decide) (fun hc => ?_) (fun hc => ?_)
          · have hw := hw.1 hc
            exact J75 S4 (x1) ((c0 + mc2)) ((z0 + ms3)) _ _ _ hcm hzm hw (lv_sub hl [0, 1] rfl) hP hD hS
          · have hw := hw.2 hc
            refine lv_aload_n hx hb d_W_run_46 rfl (lv_at hl 0 rfl) ?_
            refine va_get (D := g.1) (ci := 1) (v := .ref (g.2.2 2)) (C := R_W) (T := F_W) (N := 2) hx hb hts hin_W hown hK hP 0 rfl rfl 1 (by decide) (hts _ k_C_135) (fun _ h9 => h9) rfl d_W_run_47 ?_
            obtain ⟨mc6, ms7, hcm, hzm, hw⟩ := hw
            refine cA_iV (As := []) (rest := []) hx hb hml hown hts hK hC hN hP hD hS hA hcm hzm hl.1 (va_recv (q0 := 2) (ci := 4) (q := (R_Rd, F_Rd, 6)) hK hP rfl rfl) (qA_48 hts ⟨Nat.le_of_ble_eq_true rfl, Nat.le_of_ble_eq_true rfl⟩) (c_Rd_readToken l g H.size _  _ _ _ hw) rfl rfl (Nat.le_of_ble_eq_true rfl) d_W_run_50 (fun r9 S8 H locs hw hP hD hS => ?_)
            refine lv_istore_n (lv' := [(1, .int (r9)), (0, .ref (g.2.2 0)), (2, .int (x2))]) hx hb d_W_run_53 rfl hl (by decide) rfl (fun ls hl => ?_)
            refine lv_iload_n hx hb d_W_run_54 rfl (lv_at hl 0 rfl) ?_
            refine lv_if_ne hx hb d_W_run_55 (tgt := 69) (by decide) (fun hc => ?_) (fun hc => ?_)
            · have hw := hw.2 hc
              exact J69 S8 (r9) (x2) (((c0 + mc2) + mc6)) (((z0 + ms3) + ms7)) _ _ _ hcm hzm hw (lv_sub hl [1, 0, 2] rfl) hP hD hS
            · have hw := hw.1 hc
              refine lv_aload_n hx hb d_W_run_58 rfl (lv_at hl 1 rfl) ?_
              refine va_get (D := g.1) (ci := 1) (v := .ref (g.2.2 2)) (C := R_W) (T := F_W) (N := 2) hx hb hts hin_W hown hK hP 0 rfl rfl 1 (by decide) (hts _ k_C_135) (fun _ h9 => h9) rfl d_W_run_59 ?_
              refine va_getN (D := g.1) (ci := 4) (v := .ref (g.2.2 3)) (C := R_Rd) (T := F_Rd) (N := 6) hx hb hts hin_Rd hown hK hP 2 rfl rfl 0 (by decide) (va_Nw.use rfl (hN.1 _ kn_C_26)) (fun _ h9 => h9) rfl d_W_run_62 ?_
              refine cC_iV (As := []) (rest := []) hx hb hml hown hts hK hC hN hP hD hS hA hcm hzm hl.1 (va_recv (q0 := 3) (ci := 5) (q := (R_Ma, F_Ma, 9)) hK hP rfl rfl) (qC_98 hts ⟨Nat.le_of_ble_eq_true rfl, Nat.le_of_ble_eq_true rfl⟩) (c_Ma_finishCalls l g H.size _  _ hw) rfl rfl (Nat.le_of_ble_eq_true rfl) d_W_run_65 (fun r11 S10 H locs hw hP hD hS => ?_)
              refine lv_istore_n (lv' := [(1, .int (r11)), (0, .ref (g.2.2 0)), (2, .int (x2))]) hx hb d_W_run_68 rfl hl (by decide) rfl (fun ls hl => ?_)
              exact J69 S10 (r11) (x2) (((c0 + mc2) + mc6)) (((z0 + ms3) + ms7)) _ _ _ hcm hzm hw (lv_sub hl [1, 0, 2] rfl) hP hD hS
  refine lv_aload_n hx hb d_W_run_0 rfl (lv_at hl 0 rfl) ?_
  refine va_get (D := g.1) (ci := 1) (v := .ref (g.2.2 2)) (C := R_W) (T := F_W) (N := 2) hx hb hts hin_W hown hK hP 0 rfl rfl 1 (by decide) (hts _ k_C_135) (fun _ h9 => h9) rfl d_W_run_1 ?_
  refine lv_aload_n hx hb d_W_run_4 rfl (lv_at hl 0 rfl) ?_
  refine va_get (D := g.1) (ci := 1) (v := .ref (g.2.2 1)) (C := R_W) (T := F_W) (N := 2) hx hb hts hin_W hown hK hP 0 rfl rfl 0 (by decide) (hts _ k_C_134) (fun _ h9 => h9) rfl d_W_run_5 ?_
  obtain ⟨mc12, ms13, hcm, hzm, hw⟩ := hw
  refine cA_qV (As := []) (rest := [.ref (g.2.2 2)]) hx hb hml hown hts hK hC hN hP hD hS hA hcm hzm hl.1 (va_recv (q0 := 1) (ci := 2) (q := (R_SB, F_SB, 4)) hK hP rfl rfl) (qA_49 hts ⟨Nat.le_of_ble_eq_true rfl, Nat.le_of_ble_eq_true rfl⟩) (c_SB_toString l g H.size _  _ _ _ hw) rfl rfl (Nat.le_of_ble_eq_true rfl) d_W_run_8 (fun r15 S14 H locs hw hP hD hS => ?_)
  obtain ⟨y16, hy17, hw⟩ := hw
  refine W_rf hy17 ?_
  refine cC_vV (As := [.ref (y16)]) (rest := []) hx hb hml hown hts hK hC hN hP hD hS hA hcm hzm hl.1 (va_recv (q0 := 2) (ci := 4) (q := (R_Rd, F_Rd, 6)) hK hP rfl rfl) (qC_99 hts ⟨Nat.le_of_ble_eq_true rfl, Nat.le_of_ble_eq_true rfl⟩) (c_Rd_take l g H.size _ (y16) _ hw) rfl rfl (Nat.le_of_ble_eq_true rfl) d_W_run_11 (fun S18 H locs hw hP hD hS => ?_)
  refine lv_aload_n hx hb d_W_run_14 rfl (lv_at hl 0 rfl) ?_
  refine va_get (D := g.1) (ci := 1) (v := .ref (g.2.2 1)) (C := R_W) (T := F_W) (N := 2) hx hb hts hin_W hown hK hP 0 rfl rfl 0 (by decide) (hts _ k_C_134) (fun _ h9 => h9) rfl d_W_run_15 ?_
  refine lv_iconst (v := 0) hx hb d_W_run_18 (by decide) ?_
  obtain ⟨mc19, ms20, hcm, hzm, hw⟩ := hw
  refine cA_vV (As := [.int (0)]) (rest := []) hx hb hml hown hts hK hC hN hP hD hS hA hcm hzm hl.1 (va_recv (q0 := 1) (ci := 2) (q := (R_SB, F_SB, 4)) hK hP rfl rfl) (qA_50 hts ⟨Nat.le_of_ble_eq_true rfl, Nat.le_of_ble_eq_true rfl⟩) (c_SB_setLength l g H.size _ (0) _ _ _ hw) rfl rfl (Nat.le_of_ble_eq_true rfl) d_W_run_19 (fun S21 H locs hw hP hD hS => ?_)
  refine lv_iconst (v := 0) hx hb d_W_run_22 (by decide) ?_
  refine lv_istore_n (lv' := [(1, .int (0)), (0, .ref (g.2.2 0))]) hx hb d_W_run_23 rfl hl (by decide) rfl (fun ls hl => ?_)
  refine lv_iconst (v := 0) hx hb d_W_run_24 (by decide) ?_
  refine lv_istore_n (lv' := [(2, .int (0)), (1, .int (0)), (0, .ref (g.2.2 0))]) hx hb d_W_run_25 rfl hl (by decide) rfl (fun ls hl => ?_)
  obtain ⟨nn, hw⟩ := hw
  exact J26 nn S21 (0) (0) (((0 + mc12) + mc19)) (((0 + ms13) + ms20)) _ _ _ hcm hzm hw (lv_sub hl [2, 1, 0] rfl) hP hD hS
theorem d_La_canEncode_0 : decode b_La_canEncode 0 = .ok (.iload_n 0, 1) := by decide +kernel
theorem d_La_canEncode_1 : decode b_La_canEncode 1 = .ok (.sipush 255, 3) := by decide +kernel
theorem d_La_canEncode_4 : decode b_La_canEncode 4 = .ok (.if_icmp .gt 7, 3) := by decide +kernel
theorem d_La_canEncode_7 : decode b_La_canEncode 7 = .ok (.iconst 1, 1) := by decide +kernel
theorem d_La_canEncode_8 : decode b_La_canEncode 8 = .ok (.goto 4, 3) := by decide +kernel
theorem d_La_canEncode_11 : decode b_La_canEncode 11 = .ok (.iconst 0, 1) := by decide +kernel
theorem d_La_canEncode_12 : decode b_La_canEncode 12 = .ok (.ireturn, 1) := by decide +kernel
def wq_La_canEncode_12 (g : Gm) (post : Int32 → StC → Prop) (mc ms : Nat)  (S : StC) (t0 : Int32) (c0 : Nat) (z0 : Nat) : Prop :=
  (narrow .boolean (.int (t0)) = .int (t0)) ∧ (post (t0) S)
def wp_La_canEncode (g : Gm) (post : Int32 → StC → Prop) (mc ms : Nat) (S : StC) (a0 : Int32) : Prop :=
  ((255 < a0) → wq_La_canEncode_12 g post mc ms  S (0) (0) (0)) ∧ (¬ (255 < a0) → wq_La_canEncode_12 g post mc ms  S (1) (0) (0))
set_option maxRecDepth 100000 in
set_option maxHeartbeats 4000000 in
theorem c_La_canEncode (l : Launch) (g : Gm) (sz : Nat) (S : StC) (a0 : Int32) (post : Int32 → StC → Prop) (mc ms : Nat) (hw : wp_La_canEncode g post mc ms S a0) : Met l y_La_canEncode (.code y_La_canEncode b_La_canEncode 1 (some .boolean) :: w_C) (rmA 0 0 mc ms) (va_Pc [.int (a0)] (PC g sz S)) (va_Qi post (BC g (AC g sz S)) (AC g sz S)) mc ms (AC g sz S) := by
  refine ofA_z (by decide) (Nat.le_of_ble_eq_true rfl) (fun p e s m args below meth c Q A H locs ls hx hb hml hts hown hK hA hC hN hmn kr hl hP hD hS => ?_)
  have hl : lv_has ls 1 [(0, .int (a0))] := hl
  unfold wp_La_canEncode at hw
  have hcm : 0 ≤ mc := Nat.zero_le _
  have hzm : 0 ≤ ms := Nat.zero_le _
  have J12 : ∀ (S : StC) (t0 : Int32) (c0 : Nat) (z0 : Nat) (H : Heap) (locs : List Loc) (ls : Array Slot), c0 ≤ mc → z0 ≤ ms → wq_La_canEncode_12 g post mc ms  S t0 c0 z0 → lv_has ls 1 [] → va_P g.1 classes (wC g S) H → va_D A (wC g S) → va_S A s.heap H locs → W p l e (rmA 0 0 mc ms) s m args below meth c H locs c0 z0 Q (F0 m 12 ls [.int (t0)]) := by
    intro S t0 c0 z0 H locs ls hcm hzm hw hl hP hD hS
    unfold wq_La_canEncode_12 at hw
    obtain ⟨hnz, hw⟩ := hw
    exact kr (t0) S _ _ _ _ _ _ hcm hzm hnz hw hP hD hS d_La_canEncode_12
  refine lv_iload_n hx hb d_La_canEncode_0 rfl (lv_at hl 0 rfl) ?_
  refine lv_sipush (v := 255) hx hb d_La_canEncode_1 (by decide) ?_
  refine lv_icmp_gt hx hb d_La_canEncode_4 (tgt := 11) (by decide) (fun hc => ?_) (fun hc => ?_)
  · have hw := hw.1 hc
    refine lv_iconst (v := 0) hx hb d_La_canEncode_11 (by decide) ?_
    exact J12 S (0) (0) (0) _ _ _ hcm hzm hw (lv_sub hl [] rfl) hP hD hS
  · have hw := hw.2 hc
    refine lv_iconst (v := 1) hx hb d_La_canEncode_7 (by decide) ?_
    refine lv_goto hx hb d_La_canEncode_8 (tgt := 12) (by decide) ?_
    exact J12 S (1) (0) (0) _ _ _ hcm hzm hw (lv_sub hl [] rfl) hP hD hS
theorem qA_51 {R : Room} {s : State} {args : Array Value} {mc1 ms1 : Nat} (hts : ∀ w ∈ w_C, w.before args s = true) (hR : (rmA 0 0 mc1 ms1).frames + 1 ≤ R.frames ∧ 8 + (1 + 11) + (rmA 0 0 mc1 ms1).locals ≤ R.locals) : va_CU R s args "java/lang/AbstractStringBuilder" "java/lang/StringBuilder" "java/lang/AbstractStringBuilder" 83 y_AB_isLatin1 y_AB_isLatin1 b_AB_isLatin1 1 (some .boolean) (.code y_AB_isLatin1 b_AB_isLatin1 1 (some .boolean) :: w_C) (rmA 0 0 mc1 ms1) mc1 ms1 0 := va_cwU 0 hts (good_U k_C_189 k_C_191 k_C_192 k_C_190 k_C_1 k_C_193) rfl rfl rfl rfl ⟨by decide +kernel, by decide +kernel, by decide +kernel⟩ hR
theorem qA_52 {R : Room} {s : State} {args : Array Value} {mc1 ms1 : Nat} (hts : ∀ w ∈ w_C, w.before args s = true) (hR : (rmA 0 0 mc1 ms1).frames + 1 ≤ R.frames ∧ 8 + (1 + 11) + (rmA 0 0 mc1 ms1).locals ≤ R.locals) : CallB R s args "java/lang/AbstractStringBuilder" 191 y_La_canEncode b_La_canEncode 1 (some .boolean) (.code y_La_canEncode b_La_canEncode 1 (some .boolean) :: w_C) (rmA 0 0 mc1 ms1) mc1 ms1 1 ∧ (Cond.static y_La_canEncode).before args s = true := ⟨callB_of 1 hts (good_C k_C_196) rfl rfl rfl (hts _ k_C_16) (hts _ k_C_194) ⟨by decide +kernel, by decide +kernel, by decide +kernel⟩ hR, hts _ k_C_195⟩
theorem d_AB_append_0 : decode b_AB_append 0 = .ok (.aload_n 0, 1) := by decide +kernel
theorem d_AB_append_1 : decode b_AB_append 1 = .ok (.aload_n 0, 1) := by decide +kernel
theorem d_AB_append_2 : decode b_AB_append 2 = .ok (.getfield 79, 3) := by decide +kernel
theorem d_AB_append_5 : decode b_AB_append 5 = .ok (.iconst 1, 1) := by decide +kernel
theorem d_AB_append_6 : decode b_AB_append 6 = .ok (.iadd, 1) := by decide +kernel
theorem d_AB_append_7 : decode b_AB_append 7 = .ok (.invokevirtual 100, 3) := by decide +kernel
theorem d_AB_append_10 : decode b_AB_append 10 = .ok (.aload_n 0, 1) := by decide +kernel
theorem d_AB_append_11 : decode b_AB_append 11 = .ok (.invokevirtual 83, 3) := by decide +kernel
theorem d_AB_append_14 : decode b_AB_append 14 = .ok (.ifCond .eq 31, 3) := by decide +kernel
theorem d_AB_append_17 : decode b_AB_append 17 = .ok (.iload_n 1, 1) := by decide +kernel
theorem d_AB_append_18 : decode b_AB_append 18 = .ok (.invokestatic 191, 3) := by decide +kernel
theorem d_AB_append_21 : decode b_AB_append 21 = .ok (.ifCond .eq 24, 3) := by decide +kernel
theorem d_AB_append_24 : decode b_AB_append 24 = .ok (.aload_n 0, 1) := by decide +kernel
theorem d_AB_append_25 : decode b_AB_append 25 = .ok (.getfield 15, 3) := by decide +kernel
theorem d_AB_append_28 : decode b_AB_append 28 = .ok (.aload_n 0, 1) := by decide +kernel
theorem d_AB_append_29 : decode b_AB_append 29 = .ok (.dup, 1) := by decide +kernel
theorem d_AB_append_30 : decode b_AB_append 30 = .ok (.getfield 79, 3) := by decide +kernel
theorem d_AB_append_33 : decode b_AB_append 33 = .ok (.dup_x1, 1) := by decide +kernel
theorem d_AB_append_34 : decode b_AB_append 34 = .ok (.iconst 1, 1) := by decide +kernel
theorem d_AB_append_35 : decode b_AB_append 35 = .ok (.iadd, 1) := by decide +kernel
theorem d_AB_append_36 : decode b_AB_append 36 = .ok (.putfield 79, 3) := by decide +kernel
theorem d_AB_append_39 : decode b_AB_append 39 = .ok (.iload_n 1, 1) := by decide +kernel
theorem d_AB_append_40 : decode b_AB_append 40 = .ok (.i2b, 1) := by decide +kernel
theorem d_AB_append_41 : decode b_AB_append 41 = .ok (.bastore, 1) := by decide +kernel
theorem d_AB_append_42 : decode b_AB_append 42 = .ok (.goto 33, 3) := by decide +kernel
theorem d_AB_append_45 : decode b_AB_append 45 = .ok (.aload_n 0, 1) := by decide +kernel
theorem d_AB_append_46 : decode b_AB_append 46 = .ok (.invokevirtual 83, 3) := by decide +kernel
theorem d_AB_append_49 : decode b_AB_append 49 = .ok (.ifCond .eq 7, 3) := by decide +kernel
theorem d_AB_append_52 : decode b_AB_append 52 = .ok (.aload_n 0, 1) := by decide +kernel
theorem d_AB_append_53 : decode b_AB_append 53 = .ok (.invokevirtual 195, 3) := by decide +kernel
theorem d_AB_append_56 : decode b_AB_append 56 = .ok (.aload_n 0, 1) := by decide +kernel
theorem d_AB_append_57 : decode b_AB_append 57 = .ok (.getfield 15, 3) := by decide +kernel
theorem d_AB_append_60 : decode b_AB_append 60 = .ok (.aload_n 0, 1) := by decide +kernel
theorem d_AB_append_61 : decode b_AB_append 61 = .ok (.dup, 1) := by decide +kernel
theorem d_AB_append_62 : decode b_AB_append 62 = .ok (.getfield 79, 3) := by decide +kernel
theorem d_AB_append_65 : decode b_AB_append 65 = .ok (.dup_x1, 1) := by decide +kernel
theorem d_AB_append_66 : decode b_AB_append 66 = .ok (.iconst 1, 1) := by decide +kernel
theorem d_AB_append_67 : decode b_AB_append 67 = .ok (.iadd, 1) := by decide +kernel
theorem d_AB_append_68 : decode b_AB_append 68 = .ok (.putfield 79, 3) := by decide +kernel
theorem d_AB_append_71 : decode b_AB_append 71 = .ok (.iload_n 1, 1) := by decide +kernel
theorem d_AB_append_72 : decode b_AB_append 72 = .ok (.invokestatic 197, 3) := by decide +kernel
theorem d_AB_append_75 : decode b_AB_append 75 = .ok (.aload_n 0, 1) := by decide +kernel
theorem d_AB_append_76 : decode b_AB_append 76 = .ok (.areturn, 1) := by decide +kernel
def wq_AB_append_75 (g : Gm) (post : Option Nat → StC → Prop) (mc ms : Nat)  (S : StC) (c0 : Nat) (z0 : Nat) : Prop :=
  post (some (g.2.2 1)) S
def wp_AB_append (g : Gm) (post : Option Nat → StC → Prop) (mc ms : Nat) (S : StC) (a0 : Int32) : Prop :=
  ∃ (mc1 : Nat) (ms2 : Nat), (0 + mc1 ≤ mc) ∧ (0 + ms2 ≤ ms) ∧ (wp_AB_ensureCapacityInternal g (fun S3 : StC => (∃ (mc4 : Nat) (ms5 : Nat), ((0 + mc1) + mc4 ≤ mc) ∧ ((0 + ms2) + ms5 ≤ ms) ∧ (wp_AB_isLatin1 g (fun (r7 : Int32) (S6 : StC) => ((¬ (r7 = 0)) ∧ (∃ (mc8 : Nat) (ms9 : Nat), (((0 + mc1) + mc4) + mc8 ≤ mc) ∧ (((0 + ms2) + ms5) + ms9 ≤ ms) ∧ (wp_La_canEncode g (fun (r11 : Int32) (S10 : StC) => ((¬ (r11 = 0)) ∧ (∃ (n12 : Nat) (f13 : Nat → Int32), ((S10.2.2.1 0) ∈ S10.2.2.2.2.2.1) ∧ (S10.2.2.2.2.2.2 (S10.2.2.1 0) = .inl (g.2.1 3, n12, .inl f13)) ∧ (vp_in (S10.1 2) n12) ∧ (wq_AB_append_75 g post mc ms  ((upd S10.1 2 (((S10.1 2) + 1))), S10.2.1, S10.2.2.1, S10.2.2.2.1, S10.2.2.2.2.1, S10.2.2.2.2.2.1, (va_up S10.2.2.2.2.2.2 (S10.2.2.1 0) (.inl (g.2.1 3, n12, .inl (upd f13 (Int32.toNatClampNeg ((S10.1 2))) (vp_nar .byte (((Int32.toInt8 a0).toInt32)))))))) ((((0 + mc1) + mc4) + mc8)) ((((0 + ms2) + ms5) + ms9)))))) mc8 ms9 S6 (a0))))) mc4 ms5 S3 ))) mc1 ms2 S (((S.1 2) + 1)))
set_option maxRecDepth 100000 in
set_option maxHeartbeats 4000000 in
theorem c_AB_append (l : Launch) (g : Gm) (sz : Nat) (S : StC) (a0 : Int32) (post : Option Nat → StC → Prop) (mc ms : Nat) (hw : wp_AB_append g post mc ms S a0) : Met l y_AB_append (.code y_AB_append b_AB_append 2 (some (.object "java/lang/AbstractStringBuilder")) :: w_C) (rmA 4 91 mc ms) (va_Pc [.ref (g.2.2 1), .int (a0)] (PC g sz S)) (va_Qq post (BC g (AC g sz S)) (AC g sz S)) mc ms (AC g sz S) := by
  refine ofA_q (Or.inl ⟨_, rfl⟩) (by decide) (Nat.le_of_ble_eq_true rfl) (fun p e s m args below meth c Q A H locs ls hx hb hml hts hown hK hA hC hN hmn kr hl hP hD hS => ?_)
  have hl : lv_has ls 2 [(0, .ref (g.2.2 1)), (1, .int (a0))] := hl
  unfold wp_AB_append at hw
  have hcm : 0 ≤ mc := Nat.zero_le _
  have hzm : 0 ≤ ms := Nat.zero_le _
  have J75 : ∀ (S : StC) (c0 : Nat) (z0 : Nat) (H : Heap) (locs : List Loc) (ls : Array Slot), c0 ≤ mc → z0 ≤ ms → wq_AB_append_75 g post mc ms  S c0 z0 → lv_has ls 2 [(0, .ref (g.2.2 1))] → va_P g.1 classes (wC g S) H → va_D A (wC g S) → va_S A s.heap H locs → W p l e (rmA 4 91 mc ms) s m args below meth c H locs c0 z0 Q (F0 m 75 ls []) := by
    intro S c0 z0 H locs ls hcm hzm hw hl hP hD hS
    unfold wq_AB_append_75 at hw
    refine lv_aload_n hx hb d_AB_append_75 rfl (lv_at hl 0 rfl) ?_
    exact kr (some (g.2.2 1)) S _ _ _ _ _ _ hcm hzm hw hP hD hS d_AB_append_76
  refine lv_aload_n hx hb d_AB_append_0 rfl (lv_at hl 0 rfl) ?_
  refine lv_aload_n hx hb d_AB_append_1 rfl (lv_at hl 0 rfl) ?_
  refine va_get (D := g.1) (ci := 2) (v := .int ((S.1 2))) (C := R_SB) (T := F_SB) (N := 4) hx hb hts hin_SB hown hK hP 1 rfl rfl 3 (by decide) (hts _ k_C_49) (fun _ h9 => h9) rfl d_AB_append_2 ?_
  refine lv_iconst (v := 1) hx hb d_AB_append_5 (by decide) ?_
  refine lv_iadd hx hb d_AB_append_6 ?_
  obtain ⟨mc1, ms2, hcm, hzm, hw⟩ := hw
  refine cA_vU (As := [.int (((S.1 2) + 1))]) (rest := []) hx hb hml hown hts hK hC hN hP hD hS hA hcm hzm hl.1 (va_recv (q0 := 1) (ci := 2) (q := (R_SB, F_SB, 4)) hK hP rfl rfl) (qA_12 hts ⟨Nat.le_of_ble_eq_true rfl, Nat.le_of_ble_eq_true rfl⟩) (c_AB_ensureCapacityInternal l g H.size _ (((S.1 2) + 1)) _ _ _ hw) rfl rfl (Nat.le_of_ble_eq_true rfl) d_AB_append_7 (fun S3 H locs hw hP hD hS => ?_)
  refine lv_aload_n hx hb d_AB_append_10 rfl (lv_at hl 0 rfl) ?_
  obtain ⟨mc4, ms5, hcm, hzm, hw⟩ := hw
  refine cA_iU (As := []) (rest := []) hx hb hml hown hts hK hC hN hP hD hS hA hcm hzm hl.1 (va_recv (q0 := 1) (ci := 2) (q := (R_SB, F_SB, 4)) hK hP rfl rfl) (qA_51 hts ⟨Nat.le_of_ble_eq_true rfl, Nat.le_of_ble_eq_true rfl⟩) (c_AB_isLatin1 l g H.size _  _ _ _ hw) rfl rfl (Nat.le_of_ble_eq_true rfl) d_AB_append_11 (fun r7 S6 H locs hw hP hD hS => ?_)
  obtain ⟨hc9, hw⟩ := hw
  refine lv_if_eq hx hb d_AB_append_14 (tgt := 45) (by decide) (fun hc => absurd hc hc9) (fun hc => ?_)
  refine lv_iload_n hx hb d_AB_append_17 rfl (lv_at hl 1 rfl) ?_
  obtain ⟨mc8, ms9, hcm, hzm, hw⟩ := hw
  refine cA_iS (As := [.int (a0)]) (rest := []) hx hb hml hown hts hK hC hN hP hD hS hA hcm hzm hl.1  (qA_52 hts ⟨Nat.le_of_ble_eq_true rfl, Nat.le_of_ble_eq_true rfl⟩) (c_La_canEncode l g H.size _ (a0) _ _ _ hw) rfl rfl (Nat.le_of_ble_eq_true rfl) d_AB_append_18 (fun r11 S10 H locs hw hP hD hS => ?_)
  obtain ⟨hc9, hw⟩ := hw
  refine lv_if_eq hx hb d_AB_append_21 (tgt := 45) (by decide) (fun hc => absurd hc hc9) (fun hc => ?_)
  refine lv_aload_n hx hb d_AB_append_24 rfl (lv_at hl 0 rfl) ?_
  refine va_get (D := g.1) (ci := 2) (v := .ref ((S10.2.2.1 0))) (C := R_SB) (T := F_SB) (N := 4) hx hb hts hin_SB hown hK hP 1 rfl rfl 0 (by decide) (hts _ k_C_45) (fun _ h9 => h9) rfl d_AB_append_25 ?_
  refine lv_aload_n hx hb d_AB_append_28 rfl (lv_at hl 0 rfl) ?_
  refine lv_dup hx hb d_AB_append_29 rfl ?_
  refine va_get (D := g.1) (ci := 2) (v := .int ((S10.1 2))) (C := R_SB) (T := F_SB) (N := 4) hx hb hts hin_SB hown hK hP 1 rfl rfl 3 (by decide) (hts _ k_C_49) (fun _ h9 => h9) rfl d_AB_append_30 ?_
  refine lv_dup_x1 hx hb d_AB_append_33 rfl rfl ?_
  refine lv_iconst (v := 1) hx hb d_AB_append_34 (by decide) ?_
  refine lv_iadd hx hb d_AB_append_35 ?_
  refine pt_C (S2 := ((upd S10.1 2 (((S10.1 2) + 1))), S10.2)) (v := .int (((S10.1 2) + 1))) (C := R_SB) (F := F_SB) (N := 4) (ci := 2) hx hb hts hin_SB t_SB t_SB_ok n_SB hown hK hP hD hS 1 rfl rfl 3 (by decide) rfl rfl rfl (Nat.le_of_ble_eq_true rfl) (sI_C_2 g _ _) k_C_49 d_AB_append_36 (fun H locs hP hD hS => ?_)
  refine lv_iload_n hx hb d_AB_append_39 rfl (lv_at hl 1 rfl) ?_
  refine lv_i2b (v := (Int32.toInt8 a0).toInt32) hx hb d_AB_append_40 rfl ?_
  obtain ⟨n12, f13, ha14, hf15, hi16, hw⟩ := hw
  refine pbs_C (S := ((upd S10.1 2 (((S10.1 2) + 1))), S10.2)) hx hb hK hP hD hS ha14 hf15 hi16 d_AB_append_41 (fun H locs hP hD hS => ?_)
  have hP : va_P g.1 classes (wC g ((upd S10.1 2 (((S10.1 2) + 1))), S10.2.1, S10.2.2.1, S10.2.2.2.1, S10.2.2.2.2.1, S10.2.2.2.2.2.1, (va_up S10.2.2.2.2.2.2 (S10.2.2.1 0) (.inl (g.2.1 3, n12, .inl (upd f13 (Int32.toNatClampNeg ((S10.1 2))) (vp_nar .byte (((Int32.toInt8 a0).toInt32))))))))) H := hP
  have hD : va_D A (wC g ((upd S10.1 2 (((S10.1 2) + 1))), S10.2.1, S10.2.2.1, S10.2.2.2.1, S10.2.2.2.2.1, S10.2.2.2.2.2.1, (va_up S10.2.2.2.2.2.2 (S10.2.2.1 0) (.inl (g.2.1 3, n12, .inl (upd f13 (Int32.toNatClampNeg ((S10.1 2))) (vp_nar .byte (((Int32.toInt8 a0).toInt32))))))))) := hD
  refine lv_goto hx hb d_AB_append_42 (tgt := 75) (by decide) ?_
  exact J75 ((upd S10.1 2 (((S10.1 2) + 1))), S10.2.1, S10.2.2.1, S10.2.2.2.1, S10.2.2.2.2.1, S10.2.2.2.2.2.1, (va_up S10.2.2.2.2.2.2 (S10.2.2.1 0) (.inl (g.2.1 3, n12, .inl (upd f13 (Int32.toNatClampNeg ((S10.1 2))) (vp_nar .byte (((Int32.toInt8 a0).toInt32)))))))) ((((0 + mc1) + mc4) + mc8)) ((((0 + ms2) + ms5) + ms9)) _ _ _ hcm hzm hw (lv_sub hl [0] rfl) hP hD hS
theorem qA_53 {R : Room} {s : State} {args : Array Value} {mc1 ms1 : Nat} (hts : ∀ w ∈ w_C, w.before args s = true) (hR : (rmA 4 91 mc1 ms1).frames + 1 ≤ R.frames ∧ 8 + (2 + 11) + (rmA 4 91 mc1 ms1).locals ≤ R.locals) : va_CS R s args "java/lang/StringBuilder" 50 y_AB_append b_AB_append 2 (some (.object "java/lang/AbstractStringBuilder")) (.code y_AB_append b_AB_append 2 (some (.object "java/lang/AbstractStringBuilder")) :: w_C) (rmA 4 91 mc1 ms1) mc1 ms1 1 := va_cwSU 1 hts (good_X k_C_154 k_C_766 k_C_50 k_C_155 k_C_1 k_C_156) rfl rfl rfl ⟨by decide +kernel, by decide +kernel⟩ hR
theorem d_SB_append_0 : decode b_SB_append 0 = .ok (.aload_n 0, 1) := by decide +kernel
theorem d_SB_append_1 : decode b_SB_append 1 = .ok (.iload_n 1, 1) := by decide +kernel
theorem d_SB_append_2 : decode b_SB_append 2 = .ok (.invokespecial 50, 3) := by decide +kernel
theorem d_SB_append_5 : decode b_SB_append 5 = .ok (.pop, 1) := by decide +kernel
theorem d_SB_append_6 : decode b_SB_append 6 = .ok (.aload_n 0, 1) := by decide +kernel
theorem d_SB_append_7 : decode b_SB_append 7 = .ok (.areturn, 1) := by decide +kernel
def wp_SB_append (g : Gm) (post : Option Nat → StC → Prop) (mc ms : Nat) (S : StC) (a0 : Int32) : Prop :=
  ∃ (mc1 : Nat) (ms2 : Nat), (0 + mc1 ≤ mc) ∧ (0 + ms2 ≤ ms) ∧ (wp_AB_append g (fun (r4 : Option Nat) (S3 : StC) => (post (some (g.2.2 1)) S3)) mc1 ms2 S (a0))
set_option maxRecDepth 100000 in
set_option maxHeartbeats 4000000 in
theorem c_SB_append (l : Launch) (g : Gm) (sz : Nat) (S : StC) (a0 : Int32) (post : Option Nat → StC → Prop) (mc ms : Nat) (hw : wp_SB_append g post mc ms S a0) : Met l y_SB_append (.code y_SB_append b_SB_append 2 (some (.object "java/lang/StringBuilder")) :: w_C) (rmA 5 112 mc ms) (va_Pc [.ref (g.2.2 1), .int (a0)] (PC g sz S)) (va_Qq post (BC g (AC g sz S)) (AC g sz S)) mc ms (AC g sz S) := by
  refine ofA_q (Or.inl ⟨_, rfl⟩) (by decide) (Nat.le_of_ble_eq_true rfl) (fun p e s m args below meth c Q A H locs ls hx hb hml hts hown hK hA hC hN hmn kr hl hP hD hS => ?_)
  have hl : lv_has ls 2 [(0, .ref (g.2.2 1)), (1, .int (a0))] := hl
  unfold wp_SB_append at hw
  have hcm : 0 ≤ mc := Nat.zero_le _
  have hzm : 0 ≤ ms := Nat.zero_le _
  refine lv_aload_n hx hb d_SB_append_0 rfl (lv_at hl 0 rfl) ?_
  refine lv_iload_n hx hb d_SB_append_1 rfl (lv_at hl 1 rfl) ?_
  obtain ⟨mc1, ms2, hcm, hzm, hw⟩ := hw
  refine cA_qX (As := [.int (a0)]) (rest := []) hx hb hml hown hts hK hC hN hP hD hS hA hcm hzm hl.1 ((hK.1 2 (R_SB, F_SB, 4) rfl).2) (va_recv (q0 := 1) (ci := 2) (q := (R_SB, F_SB, 4)) hK hP rfl rfl) (qA_53 hts ⟨Nat.le_of_ble_eq_true rfl, Nat.le_of_ble_eq_true rfl⟩) (c_AB_append l g H.size _ (a0) _ _ _ hw) rfl rfl (Nat.le_of_ble_eq_true rfl) d_SB_append_2 (fun r4 S3 H locs hw hP hD hS => ?_)
  refine lv_pop hx hb d_SB_append_5 (rf_cat _) ?_
  refine lv_aload_n hx hb d_SB_append_6 rfl (lv_at hl 0 rfl) ?_
  exact kr (some (g.2.2 1)) S3 _ _ _ _ _ _ hcm hzm hw hP hD hS d_SB_append_7
theorem qC_100 {R : Room} {s : State} {args : Array Value} (hts : ∀ w ∈ w_C, w.before args s = true) (hR : (rmM 0 0).frames + 1 ≤ R.frames ∧ 8 + (2 + 11) + (rmM 0 0).locals ≤ R.locals) : CallB R s args "WordSmith" 27 y_W_byteOf b_W_byteOf 2 (some .int) (.code y_W_byteOf b_W_byteOf 2 (some .int) :: w_C) (rmM 0 0) 0 0 2 ∧ (Cond.static y_W_byteOf).before args s = true := ⟨callB_of 2 hts (good_C k_C_149) rfl rfl rfl (hts _ k_C_0) (hts _ k_C_147) ⟨by decide +kernel, by decide +kernel, by decide +kernel⟩ hR, hts _ k_C_148⟩
theorem qA_54 {R : Room} {s : State} {args : Array Value} {mc1 ms1 : Nat} (hts : ∀ w ∈ w_C, w.before args s = true) (hR : (rmA 5 112 mc1 ms1).frames + 1 ≤ R.frames ∧ 8 + (2 + 11) + (rmA 5 112 mc1 ms1).locals ≤ R.locals) : CallW R s args "WordSmith" R_SB 31 y_SB_append b_SB_append 2 (some (.object "java/lang/StringBuilder")) (.code y_SB_append b_SB_append 2 (some (.object "java/lang/StringBuilder")) :: w_C) (rmA 5 112 mc1 ms1) mc1 ms1 1 := ⟨callB_of 1 hts (good_C k_C_153) rfl rfl rfl (hts _ k_C_2) (hts _ k_C_150) ⟨by decide +kernel, by decide +kernel, by decide +kernel⟩ hR, hts _ k_C_151, hts _ k_C_152⟩
theorem qA_55 {R : Room} {s : State} {args : Array Value} {mc1 ms1 : Nat} (hts : ∀ w ∈ w_C, w.before args s = true) (hR : (rmA 1 20 mc1 ms1).frames + 1 ≤ R.frames ∧ 8 + (1 + 11) + (rmA 1 20 mc1 ms1).locals ≤ R.locals) : CallW R s args "WordSmith" R_SB 23 y_SB_length b_SB_length 1 (some .int) (.code y_SB_length b_SB_length 1 (some .int) :: w_C) (rmA 1 20 mc1 ms1) mc1 ms1 0 := ⟨callB_of 0 hts (good_C k_C_143) rfl rfl rfl (hts _ k_C_2) (hts _ k_C_140) ⟨by decide +kernel, by decide +kernel, by decide +kernel⟩ hR, hts _ k_C_141, hts _ k_C_142⟩
theorem d_W_type_0 : decode b_W_type 0 = .ok (.iload_n 2, 1) := by decide +kernel
theorem d_W_type_1 : decode b_W_type 1 = .ok (.iconst 1, 1) := by decide +kernel
theorem d_W_type_2 : decode b_W_type 2 = .ok (.if_icmp .lt 22, 3) := by decide +kernel
theorem d_W_type_5 : decode b_W_type 5 = .ok (.iload_n 2, 1) := by decide +kernel
theorem d_W_type_6 : decode b_W_type 6 = .ok (.iconst 4, 1) := by decide +kernel
theorem d_W_type_7 : decode b_W_type 7 = .ok (.if_icmp .gt 17, 3) := by decide +kernel
theorem d_W_type_10 : decode b_W_type 10 = .ok (.aload_n 0, 1) := by decide +kernel
theorem d_W_type_11 : decode b_W_type 11 = .ok (.getfield 10, 3) := by decide +kernel
theorem d_W_type_14 : decode b_W_type 14 = .ok (.invokevirtual 23, 3) := by decide +kernel
theorem d_W_type_17 : decode b_W_type 17 = .ok (.iload_n 2, 1) := by decide +kernel
theorem d_W_type_18 : decode b_W_type 18 = .ok (.iadd, 1) := by decide +kernel
theorem d_W_type_19 : decode b_W_type 19 = .ok (.bipush 120, 2) := by decide +kernel
theorem d_W_type_21 : decode b_W_type 21 = .ok (.if_icmp .le 5, 3) := by decide +kernel
theorem d_W_type_24 : decode b_W_type 24 = .ok (.iconst 0, 1) := by decide +kernel
theorem d_W_type_25 : decode b_W_type 25 = .ok (.ireturn, 1) := by decide +kernel
theorem d_W_type_26 : decode b_W_type 26 = .ok (.iload_n 2, 1) := by decide +kernel
theorem d_W_type_27 : decode b_W_type 27 = .ok (.iconst 1, 1) := by decide +kernel
theorem d_W_type_28 : decode b_W_type 28 = .ok (.isub, 1) := by decide +kernel
theorem d_W_type_29 : decode b_W_type 29 = .ok (.istore_n 3, 1) := by decide +kernel
theorem d_W_type_30 : decode b_W_type 30 = .ok (.iload_n 3, 1) := by decide +kernel
theorem d_W_type_31 : decode b_W_type 31 = .ok (.ifCond .lt 32, 3) := by decide +kernel
theorem d_W_type_34 : decode b_W_type 34 = .ok (.iload_n 1, 1) := by decide +kernel
theorem d_W_type_35 : decode b_W_type 35 = .ok (.iload_n 3, 1) := by decide +kernel
theorem d_W_type_36 : decode b_W_type 36 = .ok (.invokestatic 27, 3) := by decide +kernel
theorem d_W_type_39 : decode b_W_type 39 = .ok (.istore 4, 2) := by decide +kernel
theorem d_W_type_41 : decode b_W_type 41 = .ok (.iload 4, 2) := by decide +kernel
theorem d_W_type_43 : decode b_W_type 43 = .ok (.bipush 32, 2) := by decide +kernel
theorem d_W_type_45 : decode b_W_type 45 = .ok (.if_icmp .lt 10, 3) := by decide +kernel
theorem d_W_type_48 : decode b_W_type 48 = .ok (.iload 4, 2) := by decide +kernel
theorem d_W_type_50 : decode b_W_type 50 = .ok (.bipush 126, 2) := by decide +kernel
theorem d_W_type_52 : decode b_W_type 52 = .ok (.if_icmp .le 5, 3) := by decide +kernel
theorem d_W_type_55 : decode b_W_type 55 = .ok (.iconst 0, 1) := by decide +kernel
theorem d_W_type_56 : decode b_W_type 56 = .ok (.ireturn, 1) := by decide +kernel
theorem d_W_type_57 : decode b_W_type 57 = .ok (.iinc 3 (-1), 3) := by decide +kernel
theorem d_W_type_60 : decode b_W_type 60 = .ok (.goto (-30), 3) := by decide +kernel
theorem d_W_type_63 : decode b_W_type 63 = .ok (.iload_n 2, 1) := by decide +kernel
theorem d_W_type_64 : decode b_W_type 64 = .ok (.iconst 1, 1) := by decide +kernel
theorem d_W_type_65 : decode b_W_type 65 = .ok (.isub, 1) := by decide +kernel
theorem d_W_type_66 : decode b_W_type 66 = .ok (.istore_n 3, 1) := by decide +kernel
theorem d_W_type_67 : decode b_W_type 67 = .ok (.iload_n 3, 1) := by decide +kernel
theorem d_W_type_68 : decode b_W_type 68 = .ok (.ifCond .lt 23, 3) := by decide +kernel
theorem d_W_type_71 : decode b_W_type 71 = .ok (.aload_n 0, 1) := by decide +kernel
theorem d_W_type_72 : decode b_W_type 72 = .ok (.getfield 10, 3) := by decide +kernel
theorem d_W_type_75 : decode b_W_type 75 = .ok (.iload_n 1, 1) := by decide +kernel
theorem d_W_type_76 : decode b_W_type 76 = .ok (.iload_n 3, 1) := by decide +kernel
theorem d_W_type_77 : decode b_W_type 77 = .ok (.invokestatic 27, 3) := by decide +kernel
theorem d_W_type_80 : decode b_W_type 80 = .ok (.i2c, 1) := by decide +kernel
theorem d_W_type_81 : decode b_W_type 81 = .ok (.invokevirtual 31, 3) := by decide +kernel
theorem d_W_type_84 : decode b_W_type 84 = .ok (.pop, 1) := by decide +kernel
theorem d_W_type_85 : decode b_W_type 85 = .ok (.iinc 3 (-1), 3) := by decide +kernel
theorem d_W_type_88 : decode b_W_type 88 = .ok (.goto (-21), 3) := by decide +kernel
theorem d_W_type_91 : decode b_W_type 91 = .ok (.iconst 1, 1) := by decide +kernel
theorem d_W_type_92 : decode b_W_type 92 = .ok (.ireturn, 1) := by decide +kernel
def wq_W_type_67 (g : Gm) (post : Int32 → StC → Prop) (mc ms : Nat)  : Nat → StC → Int32 → Int32 → Nat → Nat → Prop
  | 0, _, _, _, _, _ => False
  | n67 + 1, S, x1, x3, c0, z0 =>
    ((x3 < 0) → post (1) S) ∧ (¬ (x3 < 0) → wp_W_byteOf g (fun (r2 : Int32) (S1 : StC) => (∃ (mc3 : Nat) (ms4 : Nat), (c0 + mc3 ≤ mc) ∧ (z0 + ms4 ≤ ms) ∧ (wp_SB_append g (fun (r6 : Option Nat) (S5 : StC) => ((wq_W_type_67 g post mc ms  n67) S5 (x1) ((x3 + (-1))) ((c0 + mc3)) ((z0 + ms4)))) mc3 ms4 S1 ((((Int32.toUInt32 r2) % 65536).toInt32))))) S (x1) (x3))
def wq_W_type_55 (g : Gm) (post : Int32 → StC → Prop) (mc ms : Nat) (k30 : StC → Int32 → Int32 → Int32 → Nat → Nat → Prop) (S : StC) (c0 : Nat) (z0 : Nat) : Prop :=
  post (0) S
def wq_W_type_30 (g : Gm) (post : Int32 → StC → Prop) (mc ms : Nat)  : Nat → StC → Int32 → Int32 → Int32 → Nat → Nat → Prop
  | 0, _, _, _, _, _, _ => False
  | n30 + 1, S, x1, x2, x3, c0, z0 =>
    ((x3 < 0) → ∃ nn : Nat, wq_W_type_67 g post mc ms  nn S (x1) ((x2 - 1)) (c0) (z0)) ∧ (¬ (x3 < 0) → wp_W_byteOf g (fun (r8 : Int32) (S7 : StC) => (((r8 < 32) → wq_W_type_55 g post mc ms (wq_W_type_30 g post mc ms  n30) S7 (c0) (z0)) ∧ (¬ (r8 < 32) → ((r8 ≤ 126) → (wq_W_type_30 g post mc ms  n30) S7 (x1) (x2) ((x3 + (-1))) (c0) (z0)) ∧ (¬ (r8 ≤ 126) → wq_W_type_55 g post mc ms (wq_W_type_30 g post mc ms  n30) S7 (c0) (z0))))) S (x1) (x3))
def wq_W_type_24 (g : Gm) (post : Int32 → StC → Prop) (mc ms : Nat)  (S : StC) (c0 : Nat) (z0 : Nat) : Prop :=
  post (0) S
def wp_W_type (g : Gm) (post : Int32 → StC → Prop) (mc ms : Nat) (S : StC) (a0 : Int32) (a1 : Int32) : Prop :=
  ((a1 < 1) → wq_W_type_24 g post mc ms  S (0) (0)) ∧ (¬ (a1 < 1) → ((4 < a1) → wq_W_type_24 g post mc ms  S (0) (0)) ∧ (¬ (4 < a1) → ∃ (mc9 : Nat) (ms10 : Nat), (0 + mc9 ≤ mc) ∧ (0 + ms10 ≤ ms) ∧ (wp_SB_length g (fun (r12 : Int32) (S11 : StC) => ((((r12 + a1) ≤ 120) → ∃ nn : Nat, wq_W_type_30 g post mc ms  nn S11 (a0) (a1) ((a1 - 1)) ((0 + mc9)) ((0 + ms10))) ∧ (¬ ((r12 + a1) ≤ 120) → wq_W_type_24 g post mc ms  S11 ((0 + mc9)) ((0 + ms10))))) mc9 ms10 S )))
set_option maxRecDepth 100000 in
set_option maxHeartbeats 4000000 in
theorem c_W_type (l : Launch) (g : Gm) (sz : Nat) (S : StC) (a0 : Int32) (a1 : Int32) (post : Int32 → StC → Prop) (mc ms : Nat) (hw : wp_W_type g post mc ms S a0 a1) : Met l y_W_type (.code y_W_type b_W_type 5 (some .boolean) :: w_C) (rmA 6 133 mc ms) (va_Pc [.ref (g.2.2 0), .int (a0), .int (a1)] (PC g sz S)) (va_Qi post (BC g (AC g sz S)) (AC g sz S)) mc ms (AC g sz S) := by
  refine ofA_z (by decide) (Nat.le_of_ble_eq_true rfl) (fun p e s m args below meth c Q A H locs ls hx hb hml hts hown hK hA hC hN hmn kr hl hP hD hS => ?_)
  have hl : lv_has ls 5 [(0, .ref (g.2.2 0)), (1, .int (a0)), (2, .int (a1))] := hl
  unfold wp_W_type at hw
  have hcm : 0 ≤ mc := Nat.zero_le _
  have hzm : 0 ≤ ms := Nat.zero_le _
  have J67 : ∀ (n67 : Nat), ∀ (S : StC) (x1 : Int32) (x3 : Int32) (c0 : Nat) (z0 : Nat) (H : Heap) (locs : List Loc) (ls : Array Slot), c0 ≤ mc → z0 ≤ ms → wq_W_type_67 g post mc ms  n67 S x1 x3 c0 z0 → lv_has ls 5 [(0, .ref (g.2.2 0)), (1, .int (x1)), (3, .int (x3))] → va_P g.1 classes (wC g S) H → va_D A (wC g S) → va_S A s.heap H locs → W p l e (rmA 6 133 mc ms) s m args below meth c H locs c0 z0 Q (F0 m 67 ls []) := by
    intro n67
    induction n67 with
    | zero => intro S x1 x3 c0 z0 H locs ls hcm hzm hw; exact hw.elim
    | succ n67 ih67 =>
      intro S x1 x3 c0 z0 H locs ls hcm hzm hw hl hP hD hS
      unfold wq_W_type_67 at hw
      refine lv_iload_n hx hb d_W_type_67 rfl (lv_at hl 2 rfl) ?_
      refine lv_if_lt hx hb d_W_type_68 (tgt := 91) (by decide) (fun hc => ?_) (fun hc => ?_)
      · have hw := hw.1 hc
        refine lv_iconst (v := 1) hx hb d_W_type_91 (by decide) ?_
        exact kr (1) S _ _ _ _ _ _ hcm hzm rfl hw hP hD hS d_W_type_92
      · have hw := hw.2 hc
        refine lv_aload_n hx hb d_W_type_71 rfl (lv_at hl 0 rfl) ?_
        refine va_get (D := g.1) (ci := 1) (v := .ref (g.2.2 1)) (C := R_W) (T := F_W) (N := 2) hx hb hts hin_W hown hK hP 0 rfl rfl 0 (by decide) (hts _ k_C_134) (fun _ h9 => h9) rfl d_W_type_72 ?_
        refine lv_iload_n hx hb d_W_type_75 rfl (lv_at hl 1 rfl) ?_
        refine lv_iload_n hx hb d_W_type_76 rfl (lv_at hl 2 rfl) ?_
        refine cC_iS (As := [.int (x1), .int (x3)]) (rest := [.ref (g.2.2 1)]) hx hb hml hown hts hK hC hN hP hD hS hA hcm hzm hl.1  (qC_100 hts ⟨Nat.le_of_ble_eq_true rfl, Nat.le_of_ble_eq_true rfl⟩) (c_W_byteOf l g H.size _ (x1) (x3) _ hw) rfl rfl (Nat.le_of_ble_eq_true rfl) d_W_type_77 (fun r2 S1 H locs hw hP hD hS => ?_)
        refine lv_i2c (v := ((Int32.toUInt32 r2) % 65536).toInt32) hx hb d_W_type_80 rfl ?_
        obtain ⟨mc3, ms4, hcm, hzm, hw⟩ := hw
        refine cA_qV (As := [.int ((((Int32.toUInt32 r2) % 65536).toInt32))]) (rest := []) hx hb hml hown hts hK hC hN hP hD hS hA hcm hzm hl.1 (va_recv (q0 := 1) (ci := 2) (q := (R_SB, F_SB, 4)) hK hP rfl rfl) (qA_54 hts ⟨Nat.le_of_ble_eq_true rfl, Nat.le_of_ble_eq_true rfl⟩) (c_SB_append l g H.size _ ((((Int32.toUInt32 r2) % 65536).toInt32)) _ _ _ hw) rfl rfl (Nat.le_of_ble_eq_true rfl) d_W_type_81 (fun r6 S5 H locs hw hP hD hS => ?_)
        refine lv_pop hx hb d_W_type_84 (rf_cat _) ?_
        refine lv_iinc (k := 2) (v := (x3 + (-1))) (lv' := [(3, .int ((x3 + (-1)))), (0, .ref (g.2.2 0)), (1, .int (x1))]) hx hb d_W_type_85 hl rfl rfl (by decide) rfl (fun ls hl => ?_)
        refine lv_goto hx hb d_W_type_88 (tgt := 67) (by decide) ?_
        exact ih67 S5 (x1) ((x3 + (-1))) ((c0 + mc3)) ((z0 + ms4)) _ _ _ hcm hzm hw (lv_sub hl [1, 2, 0] rfl) hP hD hS
  have J30 : ∀ (n30 : Nat), ∀ (S : StC) (x1 : Int32) (x2 : Int32) (x3 : Int32) (c0 : Nat) (z0 : Nat) (H : Heap) (locs : List Loc) (ls : Array Slot), c0 ≤ mc → z0 ≤ ms → wq_W_type_30 g post mc ms  n30 S x1 x2 x3 c0 z0 → lv_has ls 5 [(0, .ref (g.2.2 0)), (1, .int (x1)), (2, .int (x2)), (3, .int (x3))] → va_P g.1 classes (wC g S) H → va_D A (wC g S) → va_S A s.heap H locs → W p l e (rmA 6 133 mc ms) s m args below meth c H locs c0 z0 Q (F0 m 30 ls []) := by
    intro n30
    induction n30 with
    | zero => intro S x1 x2 x3 c0 z0 H locs ls hcm hzm hw; exact hw.elim
    | succ n30 ih30 =>
      have J55 : ∀ (S : StC) (c0 : Nat) (z0 : Nat) (H : Heap) (locs : List Loc) (ls : Array Slot), c0 ≤ mc → z0 ≤ ms → wq_W_type_55 g post mc ms (wq_W_type_30 g post mc ms  n30) S c0 z0 → lv_has ls 5 [] → va_P g.1 classes (wC g S) H → va_D A (wC g S) → va_S A s.heap H locs → W p l e (rmA 6 133 mc ms) s m args below meth c H locs c0 z0 Q (F0 m 55 ls []) := by
        intro S c0 z0 H locs ls hcm hzm hw hl hP hD hS
        unfold wq_W_type_55 at hw
        refine lv_iconst (v := 0) hx hb d_W_type_55 (by decide) ?_
        exact kr (0) S _ _ _ _ _ _ hcm hzm rfl hw hP hD hS d_W_type_56
      intro S x1 x2 x3 c0 z0 H locs ls hcm hzm hw hl hP hD hS
      unfold wq_W_type_30 at hw
      refine lv_iload_n hx hb d_W_type_30 rfl (lv_at hl 3 rfl) ?_
      refine lv_if_lt hx hb d_W_type_31 (tgt := 63) (by decide) (fun hc => ?_) (fun hc => ?_)
      · have hw := hw.1 hc
        refine lv_iload_n hx hb d_W_type_63 rfl (lv_at hl 2 rfl) ?_
        refine lv_iconst (v := 1) hx hb d_W_type_64 (by decide) ?_
        refine lv_isub hx hb d_W_type_65 ?_
        refine lv_istore_n (lv' := [(3, .int ((x2 - 1))), (0, .ref (g.2.2 0)), (1, .int (x1)), (2, .int (x2))]) hx hb d_W_type_66 rfl hl (by decide) rfl (fun ls hl => ?_)
        obtain ⟨nn, hw⟩ := hw
        exact J67 nn S (x1) ((x2 - 1)) (c0) (z0) _ _ _ hcm hzm hw (lv_sub hl [1, 2, 0] rfl) hP hD hS
      · have hw := hw.2 hc
        refine lv_iload_n hx hb d_W_type_34 rfl (lv_at hl 1 rfl) ?_
        refine lv_iload_n hx hb d_W_type_35 rfl (lv_at hl 3 rfl) ?_
        refine cC_iS (As := [.int (x1), .int (x3)]) (rest := []) hx hb hml hown hts hK hC hN hP hD hS hA hcm hzm hl.1  (qC_100 hts ⟨Nat.le_of_ble_eq_true rfl, Nat.le_of_ble_eq_true rfl⟩) (c_W_byteOf l g H.size _ (x1) (x3) _ hw) rfl rfl (Nat.le_of_ble_eq_true rfl) d_W_type_36 (fun r8 S7 H locs hw hP hD hS => ?_)
        refine lv_istore (lv' := [(4, .int (r8)), (0, .ref (g.2.2 0)), (1, .int (x1)), (2, .int (x2)), (3, .int (x3))]) hx hb d_W_type_39 hl (by decide) rfl (fun ls hl => ?_)
        refine lv_iload hx hb d_W_type_41 (lv_at hl 0 rfl) ?_
        refine lv_bipush (v := 32) hx hb d_W_type_43 (by decide) ?_
        refine lv_icmp_lt hx hb d_W_type_45 (tgt := 55) (by decide) (fun hc => ?_) (fun hc => ?_)
        · have hw := hw.1 hc
          exact J55 S7 (c0) (z0) _ _ _ hcm hzm hw (lv_sub hl [] rfl) hP hD hS
        · have hw := hw.2 hc
          refine lv_iload hx hb d_W_type_48 (lv_at hl 0 rfl) ?_
          refine lv_bipush (v := 126) hx hb d_W_type_50 (by decide) ?_
          refine lv_icmp_le hx hb d_W_type_52 (tgt := 57) (by decide) (fun hc => ?_) (fun hc => ?_)
          · have hw := hw.1 hc
            refine lv_iinc (k := 4) (v := (x3 + (-1))) (lv' := [(3, .int ((x3 + (-1)))), (4, .int (r8)), (0, .ref (g.2.2 0)), (1, .int (x1)), (2, .int (x2))]) hx hb d_W_type_57 hl rfl rfl (by decide) rfl (fun ls hl => ?_)
            refine lv_goto hx hb d_W_type_60 (tgt := 30) (by decide) ?_
            exact ih30 S7 (x1) (x2) ((x3 + (-1))) (c0) (z0) _ _ _ hcm hzm hw (lv_sub hl [2, 3, 4, 0] rfl) hP hD hS
          · have hw := hw.2 hc
            exact J55 S7 (c0) (z0) _ _ _ hcm hzm hw (lv_sub hl [] rfl) hP hD hS
  have J24 : ∀ (S : StC) (c0 : Nat) (z0 : Nat) (H : Heap) (locs : List Loc) (ls : Array Slot), c0 ≤ mc → z0 ≤ ms → wq_W_type_24 g post mc ms  S c0 z0 → lv_has ls 5 [] → va_P g.1 classes (wC g S) H → va_D A (wC g S) → va_S A s.heap H locs → W p l e (rmA 6 133 mc ms) s m args below meth c H locs c0 z0 Q (F0 m 24 ls []) := by
    intro S c0 z0 H locs ls hcm hzm hw hl hP hD hS
    unfold wq_W_type_24 at hw
    refine lv_iconst (v := 0) hx hb d_W_type_24 (by decide) ?_
    exact kr (0) S _ _ _ _ _ _ hcm hzm rfl hw hP hD hS d_W_type_25
  refine lv_iload_n hx hb d_W_type_0 rfl (lv_at hl 2 rfl) ?_
  refine lv_iconst (v := 1) hx hb d_W_type_1 (by decide) ?_
  refine lv_icmp_lt hx hb d_W_type_2 (tgt := 24) (by decide) (fun hc => ?_) (fun hc => ?_)
  · have hw := hw.1 hc
    exact J24 S (0) (0) _ _ _ hcm hzm hw (lv_sub hl [] rfl) hP hD hS
  · have hw := hw.2 hc
    refine lv_iload_n hx hb d_W_type_5 rfl (lv_at hl 2 rfl) ?_
    refine lv_iconst (v := 4) hx hb d_W_type_6 (by decide) ?_
    refine lv_icmp_gt hx hb d_W_type_7 (tgt := 24) (by decide) (fun hc => ?_) (fun hc => ?_)
    · have hw := hw.1 hc
      exact J24 S (0) (0) _ _ _ hcm hzm hw (lv_sub hl [] rfl) hP hD hS
    · have hw := hw.2 hc
      refine lv_aload_n hx hb d_W_type_10 rfl (lv_at hl 0 rfl) ?_
      refine va_get (D := g.1) (ci := 1) (v := .ref (g.2.2 1)) (C := R_W) (T := F_W) (N := 2) hx hb hts hin_W hown hK hP 0 rfl rfl 0 (by decide) (hts _ k_C_134) (fun _ h9 => h9) rfl d_W_type_11 ?_
      obtain ⟨mc9, ms10, hcm, hzm, hw⟩ := hw
      refine cA_iV (As := []) (rest := []) hx hb hml hown hts hK hC hN hP hD hS hA hcm hzm hl.1 (va_recv (q0 := 1) (ci := 2) (q := (R_SB, F_SB, 4)) hK hP rfl rfl) (qA_55 hts ⟨Nat.le_of_ble_eq_true rfl, Nat.le_of_ble_eq_true rfl⟩) (c_SB_length l g H.size _  _ _ _ hw) rfl rfl (Nat.le_of_ble_eq_true rfl) d_W_type_14 (fun r12 S11 H locs hw hP hD hS => ?_)
      refine lv_iload_n hx hb d_W_type_17 rfl (lv_at hl 2 rfl) ?_
      refine lv_iadd hx hb d_W_type_18 ?_
      refine lv_bipush (v := 120) hx hb d_W_type_19 (by decide) ?_
      refine lv_icmp_le hx hb d_W_type_21 (tgt := 26) (by decide) (fun hc => ?_) (fun hc => ?_)
      · have hw := hw.1 hc
        refine lv_iload_n hx hb d_W_type_26 rfl (lv_at hl 2 rfl) ?_
        refine lv_iconst (v := 1) hx hb d_W_type_27 (by decide) ?_
        refine lv_isub hx hb d_W_type_28 ?_
        refine lv_istore_n (lv' := [(3, .int ((a1 - 1))), (0, .ref (g.2.2 0)), (1, .int (a0)), (2, .int (a1))]) hx hb d_W_type_29 rfl hl (by decide) rfl (fun ls hl => ?_)
        obtain ⟨nn, hw⟩ := hw
        exact J30 nn S11 (a0) (a1) ((a1 - 1)) ((0 + mc9)) ((0 + ms10)) _ _ _ hcm hzm hw (lv_sub hl [1, 2, 3, 0] rfl) hP hD hS
      · have hw := hw.2 hc
        exact J24 S11 ((0 + mc9)) ((0 + ms10)) _ _ _ hcm hzm hw (lv_sub hl [] rfl) hP hD hS
