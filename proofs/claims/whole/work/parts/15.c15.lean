theorem d_Ma_arrange_0 : decode b_Ma_arrange 0 = .ok (.getstatic 167, 3) := by decide +kernel
theorem d_Ma_arrange_3 : decode b_Ma_arrange 3 = .ok (.aload_n 1, 1) := by decide +kernel
theorem d_Ma_arrange_4 : decode b_Ma_arrange 4 = .ok (.invokevirtual 172, 3) := by decide +kernel
theorem d_Ma_arrange_7 : decode b_Ma_arrange 7 = .ok (.iaload, 1) := by decide +kernel
theorem d_Ma_arrange_8 : decode b_Ma_arrange 8 = .ok (.tableswitch 97 14 16 #[28, 49, 69], 28) := by decide +kernel
theorem d_Ma_arrange_36 : decode b_Ma_arrange 36 = .ok (.aload_n 0, 1) := by decide +kernel
theorem d_Ma_arrange_37 : decode b_Ma_arrange 37 = .ok (.getfield 12, 3) := by decide +kernel
theorem d_Ma_arrange_40 : decode b_Ma_arrange 40 = .ok (.iload 4, 2) := by decide +kernel
theorem d_Ma_arrange_42 : decode b_Ma_arrange 42 = .ok (.invokevirtual 60, 3) := by decide +kernel
theorem d_Ma_arrange_45 : decode b_Ma_arrange 45 = .ok (.aload_n 0, 1) := by decide +kernel
theorem d_Ma_arrange_46 : decode b_Ma_arrange 46 = .ok (.getfield 12, 3) := by decide +kernel
theorem d_Ma_arrange_49 : decode b_Ma_arrange 49 = .ok (.iload 4, 2) := by decide +kernel
theorem d_Ma_arrange_51 : decode b_Ma_arrange 51 = .ok (.invokevirtual 60, 3) := by decide +kernel
theorem d_Ma_arrange_54 : decode b_Ma_arrange 54 = .ok (.goto 76, 3) := by decide +kernel
theorem d_Ma_arrange_57 : decode b_Ma_arrange 57 = .ok (.aload_n 0, 1) := by decide +kernel
theorem d_Ma_arrange_58 : decode b_Ma_arrange 58 = .ok (.getfield 12, 3) := by decide +kernel
theorem d_Ma_arrange_61 : decode b_Ma_arrange 61 = .ok (.iload 4, 2) := by decide +kernel
theorem d_Ma_arrange_63 : decode b_Ma_arrange 63 = .ok (.invokevirtual 60, 3) := by decide +kernel
theorem d_Ma_arrange_66 : decode b_Ma_arrange 66 = .ok (.aload_n 0, 1) := by decide +kernel
theorem d_Ma_arrange_67 : decode b_Ma_arrange 67 = .ok (.getfield 12, 3) := by decide +kernel
theorem d_Ma_arrange_70 : decode b_Ma_arrange 70 = .ok (.iload_n 3, 1) := by decide +kernel
theorem d_Ma_arrange_71 : decode b_Ma_arrange 71 = .ok (.invokevirtual 60, 3) := by decide +kernel
theorem d_Ma_arrange_74 : decode b_Ma_arrange 74 = .ok (.goto 56, 3) := by decide +kernel
theorem d_Ma_arrange_77 : decode b_Ma_arrange 77 = .ok (.aload_n 0, 1) := by decide +kernel
theorem d_Ma_arrange_78 : decode b_Ma_arrange 78 = .ok (.getfield 12, 3) := by decide +kernel
theorem d_Ma_arrange_81 : decode b_Ma_arrange 81 = .ok (.iload_n 3, 1) := by decide +kernel
theorem d_Ma_arrange_82 : decode b_Ma_arrange 82 = .ok (.invokevirtual 60, 3) := by decide +kernel
theorem d_Ma_arrange_85 : decode b_Ma_arrange 85 = .ok (.aload_n 0, 1) := by decide +kernel
theorem d_Ma_arrange_86 : decode b_Ma_arrange 86 = .ok (.getfield 12, 3) := by decide +kernel
theorem d_Ma_arrange_89 : decode b_Ma_arrange 89 = .ok (.iload 4, 2) := by decide +kernel
theorem d_Ma_arrange_91 : decode b_Ma_arrange 91 = .ok (.invokevirtual 60, 3) := by decide +kernel
theorem d_Ma_arrange_94 : decode b_Ma_arrange 94 = .ok (.aload_n 0, 1) := by decide +kernel
theorem d_Ma_arrange_95 : decode b_Ma_arrange 95 = .ok (.getfield 12, 3) := by decide +kernel
theorem d_Ma_arrange_98 : decode b_Ma_arrange 98 = .ok (.iload_n 3, 1) := by decide +kernel
theorem d_Ma_arrange_99 : decode b_Ma_arrange 99 = .ok (.invokevirtual 60, 3) := by decide +kernel
theorem d_Ma_arrange_102 : decode b_Ma_arrange 102 = .ok (.goto 28, 3) := by decide +kernel
theorem d_Ma_arrange_105 : decode b_Ma_arrange 105 = .ok (.aload_n 0, 1) := by decide +kernel
theorem d_Ma_arrange_106 : decode b_Ma_arrange 106 = .ok (.getfield 12, 3) := by decide +kernel
theorem d_Ma_arrange_109 : decode b_Ma_arrange 109 = .ok (.iload_n 3, 1) := by decide +kernel
theorem d_Ma_arrange_110 : decode b_Ma_arrange 110 = .ok (.invokevirtual 60, 3) := by decide +kernel
theorem d_Ma_arrange_113 : decode b_Ma_arrange 113 = .ok (.aload_n 0, 1) := by decide +kernel
theorem d_Ma_arrange_114 : decode b_Ma_arrange 114 = .ok (.getfield 12, 3) := by decide +kernel
theorem d_Ma_arrange_117 : decode b_Ma_arrange 117 = .ok (.iload 4, 2) := by decide +kernel
theorem d_Ma_arrange_119 : decode b_Ma_arrange 119 = .ok (.invokevirtual 60, 3) := by decide +kernel
theorem d_Ma_arrange_122 : decode b_Ma_arrange 122 = .ok (.aload_n 0, 1) := by decide +kernel
theorem d_Ma_arrange_123 : decode b_Ma_arrange 123 = .ok (.getfield 12, 3) := by decide +kernel
theorem d_Ma_arrange_126 : decode b_Ma_arrange 126 = .ok (.iload_n 2, 1) := by decide +kernel
theorem d_Ma_arrange_127 : decode b_Ma_arrange 127 = .ok (.invokevirtual 60, 3) := by decide +kernel
theorem d_Ma_arrange_130 : decode b_Ma_arrange 130 = .ok (.return_, 1) := by decide +kernel
def wq_Ma_arrange_130 (g : Gm) (post : StC → Prop)  (S : StC)  : Prop :=
  post S
def wp_Ma_arrange (g : Gm) (post : StC → Prop) (S : StC) (a0 : Nat) (a1 : Int32) (a2 : Int32) (a3 : Int32) : Prop :=
  ∃ (i1 : Nat), (i1 < 52) ∧ (a0 = g.2.2 (100 + i1)) ∧ (wp_En_ordinal g (fun (r5 : Int32) (S4 : StC) => ((vp_in r5 52) ∧ ((((swE.getD (Int32.toNatClampNeg (r5)) 0) = 14) → wp_Nd_push g (fun S7 : StC => (wp_Nd_push g (fun S8 : StC => (wq_Ma_arrange_130 g post  S8 )) S7 (a3))) S4 (a3)) ∧ (¬ ((swE.getD (Int32.toNatClampNeg (r5)) 0) = 14) → (((swE.getD (Int32.toNatClampNeg (r5)) 0) = 15) → wp_Nd_push g (fun S10 : StC => (wp_Nd_push g (fun S11 : StC => (wq_Ma_arrange_130 g post  S11 )) S10 (a2))) S4 (a3)) ∧ (¬ ((swE.getD (Int32.toNatClampNeg (r5)) 0) = 15) → (((swE.getD (Int32.toNatClampNeg (r5)) 0) = 16) → wp_Nd_push g (fun S13 : StC => (wp_Nd_push g (fun S14 : StC => (wp_Nd_push g (fun S15 : StC => (wq_Ma_arrange_130 g post  S15 )) S14 (a2))) S13 (a3))) S4 (a2)) ∧ (¬ ((swE.getD (Int32.toNatClampNeg (r5)) 0) = 16) → wp_Nd_push g (fun S16 : StC => (wp_Nd_push g (fun S17 : StC => (wp_Nd_push g (fun S18 : StC => (wq_Ma_arrange_130 g post  S18 )) S17 (a1))) S16 (a3))) S4 (a2))))))) S (a0))
set_option maxRecDepth 100000 in
set_option maxHeartbeats 4000000 in
theorem c_Ma_arrange (l : Launch) (g : Gm) (sz : Nat) (S : StC) (a0 : Nat) (a1 : Int32) (a2 : Int32) (a3 : Int32) (post : StC → Prop) (hw : wp_Ma_arrange g post S a0 a1 a2 a3) : Met l y_Ma_arrange (.code y_Ma_arrange b_Ma_arrange 5 none :: w_C) (rmM 1 21) (va_Pc [.ref (g.2.2 3), .ref (a0), .int (a1), .int (a2), .int (a3)] (PC g sz S)) (va_Qv post (BC g (AC g sz S)) (AC g sz S)) 0 0 (AC g sz S) := by
  refine ofC_v (by decide) (Nat.le_of_ble_eq_true rfl) (fun p e s m args below meth c Q A H locs ls hx hb hml hts hown hK hA hC hN kr hl hP hD hS => ?_)
  have hl : lv_has ls 5 [(0, .ref (g.2.2 3)), (1, .ref (a0)), (2, .int (a1)), (3, .int (a2)), (4, .int (a3))] := hl
  unfold wp_Ma_arrange at hw
  have J130 : ∀ (S : StC)  (H : Heap) (locs : List Loc) (ls : Array Slot), wq_Ma_arrange_130 g post  S  → lv_has ls 5 [] → va_P g.1 classes (wC g S) H → va_D A (wC g S) → va_S A s.heap H locs → W p l e (rmM 1 21) s m args below meth c H locs 0 0 Q (F0 m 130 ls []) := by
    intro S  H locs ls hw hl hP hD hS
    unfold wq_Ma_arrange_130 at hw
    exact kr S _ _ _ _ hw hP hD hS d_Ma_arrange_130
  refine va_gets (C := "WordSmith$1") (n := "$SwitchMap$WordSmith$BuiltIn") (d := "[I") (v := .ref (g.2.2 90)) hx hb hC.1.2.1 hS hown (hts _ k_C_609) (fun _ h9 => h9) d_Ma_arrange_0 ?_
  refine lv_aload_n hx hb d_Ma_arrange_3 rfl (lv_at hl 1 rfl) ?_
  obtain ⟨i1, hi2, he3, hw⟩ := hw
  refine cC_iU (As := []) (rest := [.ref (g.2.2 90)]) hx hb hml hown hts hK hC hN hP hD hS hA (Nat.zero_le _) (Nat.zero_le _) hl.1 (erecv_C hC hS he3 hi2) (qC_26 hts ⟨Nat.le_of_ble_eq_true rfl, Nat.le_of_ble_eq_true rfl⟩) (c_En_ordinal l g H.size _ (a0) _ hw) rfl rfl (Nat.le_of_ble_eq_true rfl) d_Ma_arrange_4 (fun r5 S4 H locs hw hP hD hS => ?_)
  obtain ⟨hi, hw⟩ := hw
  refine va_ti (v := .int (swE.getD (Int32.toNatClampNeg (r5)) 0)) hx hb hC.1.2.2.1 hS hi rfl d_Ma_arrange_7 ?_
  by_cases hk6 : (swE.getD (Int32.toNatClampNeg (r5)) 0) = 14
  · have hw := hw.1 hk6
    refine sw_in hx hb d_Ma_arrange_8 hk6 (tgt := 36) (off := 28) (by decide) (by decide) rfl (by decide) ?_
    refine lv_aload_n hx hb d_Ma_arrange_36 rfl (lv_at hl 0 rfl) ?_
    refine va_get (D := g.1) (ci := 5) (v := .ref (g.2.2 4)) (C := R_Ma) (T := F_Ma) (N := 9) hx hb hts hin_Ma hown hK hP 3 rfl rfl 0 (by decide) (hts _ k_C_106) (fun _ h9 => h9) rfl d_Ma_arrange_37 ?_
    refine lv_iload hx hb d_Ma_arrange_40 (lv_at hl 4 rfl) ?_
    refine cC_vV (As := [.int (a3)]) (rest := []) hx hb hml hown hts hK hC hN hP hD hS hA (Nat.zero_le _) (Nat.zero_le _) hl.1 (va_recv (q0 := 4) (ci := 6) (q := (R_N, F_N, 2)) hK hP rfl rfl) (qC_20 hts ⟨Nat.le_of_ble_eq_true rfl, Nat.le_of_ble_eq_true rfl⟩) (c_Nd_push l g H.size _ (a3) _ hw) rfl rfl (Nat.le_of_ble_eq_true rfl) d_Ma_arrange_42 (fun S7 H locs hw hP hD hS => ?_)
    refine lv_aload_n hx hb d_Ma_arrange_45 rfl (lv_at hl 0 rfl) ?_
    refine va_get (D := g.1) (ci := 5) (v := .ref (g.2.2 4)) (C := R_Ma) (T := F_Ma) (N := 9) hx hb hts hin_Ma hown hK hP 3 rfl rfl 0 (by decide) (hts _ k_C_106) (fun _ h9 => h9) rfl d_Ma_arrange_46 ?_
    refine lv_iload hx hb d_Ma_arrange_49 (lv_at hl 4 rfl) ?_
    refine cC_vV (As := [.int (a3)]) (rest := []) hx hb hml hown hts hK hC hN hP hD hS hA (Nat.zero_le _) (Nat.zero_le _) hl.1 (va_recv (q0 := 4) (ci := 6) (q := (R_N, F_N, 2)) hK hP rfl rfl) (qC_20 hts ⟨Nat.le_of_ble_eq_true rfl, Nat.le_of_ble_eq_true rfl⟩) (c_Nd_push l g H.size _ (a3) _ hw) rfl rfl (Nat.le_of_ble_eq_true rfl) d_Ma_arrange_51 (fun S8 H locs hw hP hD hS => ?_)
    refine lv_goto hx hb d_Ma_arrange_54 (tgt := 130) (by decide) ?_
    exact J130 S8  _ _ _ hw (lv_sub hl [] rfl) hP hD hS
  · have hw := hw.2 hk6
    by_cases hk9 : (swE.getD (Int32.toNatClampNeg (r5)) 0) = 15
    · have hw := hw.1 hk9
      refine sw_in hx hb d_Ma_arrange_8 hk9 (tgt := 57) (off := 49) (by decide) (by decide) rfl (by decide) ?_
      refine lv_aload_n hx hb d_Ma_arrange_57 rfl (lv_at hl 0 rfl) ?_
      refine va_get (D := g.1) (ci := 5) (v := .ref (g.2.2 4)) (C := R_Ma) (T := F_Ma) (N := 9) hx hb hts hin_Ma hown hK hP 3 rfl rfl 0 (by decide) (hts _ k_C_106) (fun _ h9 => h9) rfl d_Ma_arrange_58 ?_
      refine lv_iload hx hb d_Ma_arrange_61 (lv_at hl 4 rfl) ?_
      refine cC_vV (As := [.int (a3)]) (rest := []) hx hb hml hown hts hK hC hN hP hD hS hA (Nat.zero_le _) (Nat.zero_le _) hl.1 (va_recv (q0 := 4) (ci := 6) (q := (R_N, F_N, 2)) hK hP rfl rfl) (qC_20 hts ⟨Nat.le_of_ble_eq_true rfl, Nat.le_of_ble_eq_true rfl⟩) (c_Nd_push l g H.size _ (a3) _ hw) rfl rfl (Nat.le_of_ble_eq_true rfl) d_Ma_arrange_63 (fun S10 H locs hw hP hD hS => ?_)
      refine lv_aload_n hx hb d_Ma_arrange_66 rfl (lv_at hl 0 rfl) ?_
      refine va_get (D := g.1) (ci := 5) (v := .ref (g.2.2 4)) (C := R_Ma) (T := F_Ma) (N := 9) hx hb hts hin_Ma hown hK hP 3 rfl rfl 0 (by decide) (hts _ k_C_106) (fun _ h9 => h9) rfl d_Ma_arrange_67 ?_
      refine lv_iload_n hx hb d_Ma_arrange_70 rfl (lv_at hl 3 rfl) ?_
      refine cC_vV (As := [.int (a2)]) (rest := []) hx hb hml hown hts hK hC hN hP hD hS hA (Nat.zero_le _) (Nat.zero_le _) hl.1 (va_recv (q0 := 4) (ci := 6) (q := (R_N, F_N, 2)) hK hP rfl rfl) (qC_20 hts ⟨Nat.le_of_ble_eq_true rfl, Nat.le_of_ble_eq_true rfl⟩) (c_Nd_push l g H.size _ (a2) _ hw) rfl rfl (Nat.le_of_ble_eq_true rfl) d_Ma_arrange_71 (fun S11 H locs hw hP hD hS => ?_)
      refine lv_goto hx hb d_Ma_arrange_74 (tgt := 130) (by decide) ?_
      exact J130 S11  _ _ _ hw (lv_sub hl [] rfl) hP hD hS
    · have hw := hw.2 hk9
      by_cases hk12 : (swE.getD (Int32.toNatClampNeg (r5)) 0) = 16
      · have hw := hw.1 hk12
        refine sw_in hx hb d_Ma_arrange_8 hk12 (tgt := 77) (off := 69) (by decide) (by decide) rfl (by decide) ?_
        refine lv_aload_n hx hb d_Ma_arrange_77 rfl (lv_at hl 0 rfl) ?_
        refine va_get (D := g.1) (ci := 5) (v := .ref (g.2.2 4)) (C := R_Ma) (T := F_Ma) (N := 9) hx hb hts hin_Ma hown hK hP 3 rfl rfl 0 (by decide) (hts _ k_C_106) (fun _ h9 => h9) rfl d_Ma_arrange_78 ?_
        refine lv_iload_n hx hb d_Ma_arrange_81 rfl (lv_at hl 3 rfl) ?_
        refine cC_vV (As := [.int (a2)]) (rest := []) hx hb hml hown hts hK hC hN hP hD hS hA (Nat.zero_le _) (Nat.zero_le _) hl.1 (va_recv (q0 := 4) (ci := 6) (q := (R_N, F_N, 2)) hK hP rfl rfl) (qC_20 hts ⟨Nat.le_of_ble_eq_true rfl, Nat.le_of_ble_eq_true rfl⟩) (c_Nd_push l g H.size _ (a2) _ hw) rfl rfl (Nat.le_of_ble_eq_true rfl) d_Ma_arrange_82 (fun S13 H locs hw hP hD hS => ?_)
        refine lv_aload_n hx hb d_Ma_arrange_85 rfl (lv_at hl 0 rfl) ?_
        refine va_get (D := g.1) (ci := 5) (v := .ref (g.2.2 4)) (C := R_Ma) (T := F_Ma) (N := 9) hx hb hts hin_Ma hown hK hP 3 rfl rfl 0 (by decide) (hts _ k_C_106) (fun _ h9 => h9) rfl d_Ma_arrange_86 ?_
        refine lv_iload hx hb d_Ma_arrange_89 (lv_at hl 4 rfl) ?_
        refine cC_vV (As := [.int (a3)]) (rest := []) hx hb hml hown hts hK hC hN hP hD hS hA (Nat.zero_le _) (Nat.zero_le _) hl.1 (va_recv (q0 := 4) (ci := 6) (q := (R_N, F_N, 2)) hK hP rfl rfl) (qC_20 hts ⟨Nat.le_of_ble_eq_true rfl, Nat.le_of_ble_eq_true rfl⟩) (c_Nd_push l g H.size _ (a3) _ hw) rfl rfl (Nat.le_of_ble_eq_true rfl) d_Ma_arrange_91 (fun S14 H locs hw hP hD hS => ?_)
        refine lv_aload_n hx hb d_Ma_arrange_94 rfl (lv_at hl 0 rfl) ?_
        refine va_get (D := g.1) (ci := 5) (v := .ref (g.2.2 4)) (C := R_Ma) (T := F_Ma) (N := 9) hx hb hts hin_Ma hown hK hP 3 rfl rfl 0 (by decide) (hts _ k_C_106) (fun _ h9 => h9) rfl d_Ma_arrange_95 ?_
        refine lv_iload_n hx hb d_Ma_arrange_98 rfl (lv_at hl 3 rfl) ?_
        refine cC_vV (As := [.int (a2)]) (rest := []) hx hb hml hown hts hK hC hN hP hD hS hA (Nat.zero_le _) (Nat.zero_le _) hl.1 (va_recv (q0 := 4) (ci := 6) (q := (R_N, F_N, 2)) hK hP rfl rfl) (qC_20 hts ⟨Nat.le_of_ble_eq_true rfl, Nat.le_of_ble_eq_true rfl⟩) (c_Nd_push l g H.size _ (a2) _ hw) rfl rfl (Nat.le_of_ble_eq_true rfl) d_Ma_arrange_99 (fun S15 H locs hw hP hD hS => ?_)
        refine lv_goto hx hb d_Ma_arrange_102 (tgt := 130) (by decide) ?_
        exact J130 S15  _ _ _ hw (lv_sub hl [] rfl) hP hD hS
      · have hw := hw.2 hk12
        have n0 := lv_neT hk6 (by decide : (14 : Int32).toInt = 14)
        have n1 := lv_neT hk9 (by decide : (15 : Int32).toInt = 15)
        have n2 := lv_neT hk12 (by decide : (16 : Int32).toInt = 16)
        refine lv_tableOut hx hb d_Ma_arrange_8 (tgt := 105) (by omega) (by decide) ?_
        refine lv_aload_n hx hb d_Ma_arrange_105 rfl (lv_at hl 0 rfl) ?_
        refine va_get (D := g.1) (ci := 5) (v := .ref (g.2.2 4)) (C := R_Ma) (T := F_Ma) (N := 9) hx hb hts hin_Ma hown hK hP 3 rfl rfl 0 (by decide) (hts _ k_C_106) (fun _ h9 => h9) rfl d_Ma_arrange_106 ?_
        refine lv_iload_n hx hb d_Ma_arrange_109 rfl (lv_at hl 3 rfl) ?_
        refine cC_vV (As := [.int (a2)]) (rest := []) hx hb hml hown hts hK hC hN hP hD hS hA (Nat.zero_le _) (Nat.zero_le _) hl.1 (va_recv (q0 := 4) (ci := 6) (q := (R_N, F_N, 2)) hK hP rfl rfl) (qC_20 hts ⟨Nat.le_of_ble_eq_true rfl, Nat.le_of_ble_eq_true rfl⟩) (c_Nd_push l g H.size _ (a2) _ hw) rfl rfl (Nat.le_of_ble_eq_true rfl) d_Ma_arrange_110 (fun S16 H locs hw hP hD hS => ?_)
        refine lv_aload_n hx hb d_Ma_arrange_113 rfl (lv_at hl 0 rfl) ?_
        refine va_get (D := g.1) (ci := 5) (v := .ref (g.2.2 4)) (C := R_Ma) (T := F_Ma) (N := 9) hx hb hts hin_Ma hown hK hP 3 rfl rfl 0 (by decide) (hts _ k_C_106) (fun _ h9 => h9) rfl d_Ma_arrange_114 ?_
        refine lv_iload hx hb d_Ma_arrange_117 (lv_at hl 4 rfl) ?_
        refine cC_vV (As := [.int (a3)]) (rest := []) hx hb hml hown hts hK hC hN hP hD hS hA (Nat.zero_le _) (Nat.zero_le _) hl.1 (va_recv (q0 := 4) (ci := 6) (q := (R_N, F_N, 2)) hK hP rfl rfl) (qC_20 hts ⟨Nat.le_of_ble_eq_true rfl, Nat.le_of_ble_eq_true rfl⟩) (c_Nd_push l g H.size _ (a3) _ hw) rfl rfl (Nat.le_of_ble_eq_true rfl) d_Ma_arrange_119 (fun S17 H locs hw hP hD hS => ?_)
        refine lv_aload_n hx hb d_Ma_arrange_122 rfl (lv_at hl 0 rfl) ?_
        refine va_get (D := g.1) (ci := 5) (v := .ref (g.2.2 4)) (C := R_Ma) (T := F_Ma) (N := 9) hx hb hts hin_Ma hown hK hP 3 rfl rfl 0 (by decide) (hts _ k_C_106) (fun _ h9 => h9) rfl d_Ma_arrange_123 ?_
        refine lv_iload_n hx hb d_Ma_arrange_126 rfl (lv_at hl 2 rfl) ?_
        refine cC_vV (As := [.int (a1)]) (rest := []) hx hb hml hown hts hK hC hN hP hD hS hA (Nat.zero_le _) (Nat.zero_le _) hl.1 (va_recv (q0 := 4) (ci := 6) (q := (R_N, F_N, 2)) hK hP rfl rfl) (qC_20 hts ⟨Nat.le_of_ble_eq_true rfl, Nat.le_of_ble_eq_true rfl⟩) (c_Nd_push l g H.size _ (a1) _ hw) rfl rfl (Nat.le_of_ble_eq_true rfl) d_Ma_arrange_127 (fun S18 H locs hw hP hD hS => ?_)
        exact J130 S18  _ _ _ hw (lv_sub hl [] rfl) hP hD hS
theorem d_Ma_keep_0 : decode b_Ma_keep 0 = .ok (.aload_n 0, 1) := by decide +kernel
theorem d_Ma_keep_1 : decode b_Ma_keep 1 = .ok (.getfield 240, 3) := by decide +kernel
theorem d_Ma_keep_4 : decode b_Ma_keep 4 = .ok (.bipush 40, 2) := by decide +kernel
theorem d_Ma_keep_6 : decode b_Ma_keep 6 = .ok (.if_icmp .ge 13, 3) := by decide +kernel
theorem d_Ma_keep_9 : decode b_Ma_keep 9 = .ok (.aload_n 0, 1) := by decide +kernel
theorem d_Ma_keep_10 : decode b_Ma_keep 10 = .ok (.getfield 41, 3) := by decide +kernel
theorem d_Ma_keep_13 : decode b_Ma_keep 13 = .ok (.aload_n 0, 1) := by decide +kernel
theorem d_Ma_keep_14 : decode b_Ma_keep 14 = .ok (.getfield 240, 3) := by decide +kernel
theorem d_Ma_keep_17 : decode b_Ma_keep 17 = .ok (.iload_n 1, 1) := by decide +kernel
theorem d_Ma_keep_18 : decode b_Ma_keep 18 = .ok (.iastore, 1) := by decide +kernel
theorem d_Ma_keep_19 : decode b_Ma_keep 19 = .ok (.aload_n 0, 1) := by decide +kernel
theorem d_Ma_keep_20 : decode b_Ma_keep 20 = .ok (.dup, 1) := by decide +kernel
theorem d_Ma_keep_21 : decode b_Ma_keep 21 = .ok (.getfield 240, 3) := by decide +kernel
theorem d_Ma_keep_24 : decode b_Ma_keep 24 = .ok (.iconst 1, 1) := by decide +kernel
theorem d_Ma_keep_25 : decode b_Ma_keep 25 = .ok (.iadd, 1) := by decide +kernel
theorem d_Ma_keep_26 : decode b_Ma_keep 26 = .ok (.putfield 240, 3) := by decide +kernel
theorem d_Ma_keep_29 : decode b_Ma_keep 29 = .ok (.return_, 1) := by decide +kernel
def wq_Ma_keep_19 (g : Gm) (post : StC → Prop)  (S : StC)  : Prop :=
  post ((upd S.1 6 (((S.1 6) + 1))), S.2)
def wp_Ma_keep (g : Gm) (post : StC → Prop) (S : StC) (a0 : Int32) : Prop :=
  ((40 ≤ (S.1 6)) → wq_Ma_keep_19 g post  S ) ∧ (¬ (40 ≤ (S.1 6)) → (vp_in (S.1 6) 40) ∧ (wq_Ma_keep_19 g post  (S.1, (va_up S.2.1 5 (upd (S.2.1 5) (Int32.toNatClampNeg ((S.1 6))) (a0))), S.2.2) ))
set_option maxRecDepth 100000 in
set_option maxHeartbeats 4000000 in
theorem c_Ma_keep (l : Launch) (g : Gm) (sz : Nat) (S : StC) (a0 : Int32) (post : StC → Prop) (hw : wp_Ma_keep g post S a0) : Met l y_Ma_keep (.code y_Ma_keep b_Ma_keep 2 none :: w_C) (rmM 0 0) (va_Pc [.ref (g.2.2 3), .int (a0)] (PC g sz S)) (va_Qv post (BC g (AC g sz S)) (AC g sz S)) 0 0 (AC g sz S) := by
  refine ofC_v (by decide) (Nat.le_of_ble_eq_true rfl) (fun p e s m args below meth c Q A H locs ls hx hb hml hts hown hK hA hC hN kr hl hP hD hS => ?_)
  have hl : lv_has ls 2 [(0, .ref (g.2.2 3)), (1, .int (a0))] := hl
  unfold wp_Ma_keep at hw
  have J19 : ∀ (S : StC)  (H : Heap) (locs : List Loc) (ls : Array Slot), wq_Ma_keep_19 g post  S  → lv_has ls 2 [(0, .ref (g.2.2 3))] → va_P g.1 classes (wC g S) H → va_D A (wC g S) → va_S A s.heap H locs → W p l e (rmM 0 0) s m args below meth c H locs 0 0 Q (F0 m 19 ls []) := by
    intro S  H locs ls hw hl hP hD hS
    unfold wq_Ma_keep_19 at hw
    refine lv_aload_n hx hb d_Ma_keep_19 rfl (lv_at hl 0 rfl) ?_
    refine lv_dup hx hb d_Ma_keep_20 rfl ?_
    refine va_get (D := g.1) (ci := 5) (v := .int ((S.1 6))) (C := R_Ma) (T := F_Ma) (N := 9) hx hb hts hin_Ma hown hK hP 3 rfl rfl 7 (by decide) (hts _ k_C_113) (fun _ h9 => h9) rfl d_Ma_keep_21 ?_
    refine lv_iconst (v := 1) hx hb d_Ma_keep_24 (by decide) ?_
    refine lv_iadd hx hb d_Ma_keep_25 ?_
    refine pt_C (S2 := ((upd S.1 6 (((S.1 6) + 1))), S.2)) (v := .int (((S.1 6) + 1))) (C := R_Ma) (F := F_Ma) (N := 9) (ci := 5) hx hb hts hin_Ma t_Ma t_Ma_ok n_Ma hown hK hP hD hS 3 rfl rfl 7 (by decide) rfl rfl rfl (Nat.le_of_ble_eq_true rfl) (sI_C_6 g _ _) k_C_113 d_Ma_keep_26 (fun H locs hP hD hS => ?_)
    exact kr ((upd S.1 6 (((S.1 6) + 1))), S.2) _ _ _ _ hw hP hD hS d_Ma_keep_29
  refine lv_aload_n hx hb d_Ma_keep_0 rfl (lv_at hl 0 rfl) ?_
  refine va_get (D := g.1) (ci := 5) (v := .int ((S.1 6))) (C := R_Ma) (T := F_Ma) (N := 9) hx hb hts hin_Ma hown hK hP 3 rfl rfl 7 (by decide) (hts _ k_C_113) (fun _ h9 => h9) rfl d_Ma_keep_1 ?_
  refine lv_bipush (v := 40) hx hb d_Ma_keep_4 (by decide) ?_
  refine lv_icmp_ge hx hb d_Ma_keep_6 (tgt := 19) (by decide) (fun hc => ?_) (fun hc => ?_)
  · have hw := hw.1 hc
    exact J19 S  _ _ _ hw (lv_sub hl [0] rfl) hP hD hS
  · have hw := hw.2 hc
    refine lv_aload_n hx hb d_Ma_keep_9 rfl (lv_at hl 0 rfl) ?_
    refine va_get (D := g.1) (ci := 5) (v := .ref (g.2.2 16)) (C := R_Ma) (T := F_Ma) (N := 9) hx hb hts hin_Ma hown hK hP 3 rfl rfl 6 (by decide) (hts _ k_C_112) (fun _ h9 => h9) rfl d_Ma_keep_10 ?_
    refine lv_aload_n hx hb d_Ma_keep_13 rfl (lv_at hl 0 rfl) ?_
    refine va_get (D := g.1) (ci := 5) (v := .int ((S.1 6))) (C := R_Ma) (T := F_Ma) (N := 9) hx hb hts hin_Ma hown hK hP 3 rfl rfl 7 (by decide) (hts _ k_C_113) (fun _ h9 => h9) rfl d_Ma_keep_14 ?_
    refine lv_iload_n hx hb d_Ma_keep_17 rfl (lv_at hl 1 rfl) ?_
    obtain ⟨hi, hw⟩ := hw
    refine ia_C (S2 := (S.1, (va_up S.2.1 5 (upd (S.2.1 5) (Int32.toNatClampNeg ((S.1 6))) (a0))), S.2.2)) (f := (S.2.1 5)) hx hb hK hP hD hS 16 rfl hi d_Ma_keep_18 (sA_C_5 g _ _) (fun H locs hP hD hS => ?_)
    exact J19 (S.1, (va_up S.2.1 5 (upd (S.2.1 5) (Int32.toNatClampNeg ((S.1 6))) (a0))), S.2.2)  _ _ _ hw (lv_sub hl [0] rfl) hP hD hS
theorem qC_35 {R : Room} {s : State} {args : Array Value} (hts : ∀ w ∈ w_C, w.before args s = true) (hR : (rmM 0 0).frames + 1 ≤ R.frames ∧ 8 + (2 + 11) + (rmM 0 0).locals ≤ R.locals) : CallW R s args "WordSmith$Machine" R_Ca 239 y_Ca_loopCount b_Ca_loopCount 2 (some .int) (.code y_Ca_loopCount b_Ca_loopCount 2 (some .int) :: w_C) (rmM 0 0) 0 0 1 := ⟨callB_of 1 hts (good_C k_C_657) rfl rfl rfl (hts _ k_C_10) (hts _ k_C_654) ⟨by decide +kernel, by decide +kernel, by decide +kernel⟩ hR, hts _ k_C_655, hts _ k_C_656⟩
theorem d_Ma_loopCount_0 : decode b_Ma_loopCount 0 = .ok (.aload_n 0, 1) := by decide +kernel
theorem d_Ma_loopCount_1 : decode b_Ma_loopCount 1 = .ok (.getfield 53, 3) := by decide +kernel
theorem d_Ma_loopCount_4 : decode b_Ma_loopCount 4 = .ok (.ifCond .ne 7, 3) := by decide +kernel
theorem d_Ma_loopCount_7 : decode b_Ma_loopCount 7 = .ok (.iconst 0, 1) := by decide +kernel
theorem d_Ma_loopCount_8 : decode b_Ma_loopCount 8 = .ok (.goto 18, 3) := by decide +kernel
theorem d_Ma_loopCount_11 : decode b_Ma_loopCount 11 = .ok (.aload_n 0, 1) := by decide +kernel
theorem d_Ma_loopCount_12 : decode b_Ma_loopCount 12 = .ok (.getfield 37, 3) := by decide +kernel
theorem d_Ma_loopCount_15 : decode b_Ma_loopCount 15 = .ok (.aload_n 0, 1) := by decide +kernel
theorem d_Ma_loopCount_16 : decode b_Ma_loopCount 16 = .ok (.getfield 53, 3) := by decide +kernel
theorem d_Ma_loopCount_19 : decode b_Ma_loopCount 19 = .ok (.iconst 1, 1) := by decide +kernel
theorem d_Ma_loopCount_20 : decode b_Ma_loopCount 20 = .ok (.isub, 1) := by decide +kernel
theorem d_Ma_loopCount_21 : decode b_Ma_loopCount 21 = .ok (.aaload, 1) := by decide +kernel
theorem d_Ma_loopCount_22 : decode b_Ma_loopCount 22 = .ok (.iload_n 1, 1) := by decide +kernel
theorem d_Ma_loopCount_23 : decode b_Ma_loopCount 23 = .ok (.invokevirtual 239, 3) := by decide +kernel
theorem d_Ma_loopCount_26 : decode b_Ma_loopCount 26 = .ok (.ireturn, 1) := by decide +kernel
def wq_Ma_loopCount_26 (g : Gm) (post : Int32 → StC → Prop)  (S : StC) (t0 : Int32) : Prop :=
  post (t0) S
def wp_Ma_loopCount (g : Gm) (post : Int32 → StC → Prop) (S : StC) (a0 : Int32) : Prop :=
  (((S.1 5) = 0) → wq_Ma_loopCount_26 g post  S (0)) ∧ (¬ ((S.1 5) = 0) → (vp_in ((S.1 5) - 1) 16) ∧ (∃ (y1 : Nat), (((S.2.2.2.2.1 1) (Int32.toNatClampNeg (((S.1 5) - 1)))) = some y1) ∧ (∃ (vs3 : List Value), (y1 ∈ S.2.2.2.2.2.1) ∧ (S.2.2.2.2.2.2 y1 = .inr (9, vs3)) ∧ (wp_Ca_loopCount g (fun (r7 : Int32) (S6 : StC) => (wq_Ma_loopCount_26 g post  S6 (r7))) S (y1) (a0)))))
set_option maxRecDepth 100000 in
set_option maxHeartbeats 4000000 in
theorem c_Ma_loopCount (l : Launch) (g : Gm) (sz : Nat) (S : StC) (a0 : Int32) (post : Int32 → StC → Prop) (hw : wp_Ma_loopCount g post S a0) : Met l y_Ma_loopCount (.code y_Ma_loopCount b_Ma_loopCount 2 (some .int) :: w_C) (rmM 1 21) (va_Pc [.ref (g.2.2 3), .int (a0)] (PC g sz S)) (va_Qi post (BC g (AC g sz S)) (AC g sz S)) 0 0 (AC g sz S) := by
  refine ofC_i (by decide) (Nat.le_of_ble_eq_true rfl) (fun p e s m args below meth c Q A H locs ls hx hb hml hts hown hK hA hC hN kr hl hP hD hS => ?_)
  have hl : lv_has ls 2 [(0, .ref (g.2.2 3)), (1, .int (a0))] := hl
  unfold wp_Ma_loopCount at hw
  have J26 : ∀ (S : StC) (t0 : Int32) (H : Heap) (locs : List Loc) (ls : Array Slot), wq_Ma_loopCount_26 g post  S t0 → lv_has ls 2 [] → va_P g.1 classes (wC g S) H → va_D A (wC g S) → va_S A s.heap H locs → W p l e (rmM 1 21) s m args below meth c H locs 0 0 Q (F0 m 26 ls [.int (t0)]) := by
    intro S t0 H locs ls hw hl hP hD hS
    unfold wq_Ma_loopCount_26 at hw
    exact kr (t0) S _ _ _ _ hw hP hD hS d_Ma_loopCount_26
  refine lv_aload_n hx hb d_Ma_loopCount_0 rfl (lv_at hl 0 rfl) ?_
  refine va_get (D := g.1) (ci := 5) (v := .int ((S.1 5))) (C := R_Ma) (T := F_Ma) (N := 9) hx hb hts hin_Ma hown hK hP 3 rfl rfl 5 (by decide) (hts _ k_C_111) (fun _ h9 => h9) rfl d_Ma_loopCount_1 ?_
  refine lv_if_ne hx hb d_Ma_loopCount_4 (tgt := 11) (by decide) (fun hc => ?_) (fun hc => ?_)
  · have hw := hw.2 hc
    refine lv_aload_n hx hb d_Ma_loopCount_11 rfl (lv_at hl 0 rfl) ?_
    refine va_get (D := g.1) (ci := 5) (v := .ref (g.2.2 15)) (C := R_Ma) (T := F_Ma) (N := 9) hx hb hts hin_Ma hown hK hP 3 rfl rfl 4 (by decide) (hts _ k_C_110) (fun _ h9 => h9) rfl d_Ma_loopCount_12 ?_
    refine lv_aload_n hx hb d_Ma_loopCount_15 rfl (lv_at hl 0 rfl) ?_
    refine va_get (D := g.1) (ci := 5) (v := .int ((S.1 5))) (C := R_Ma) (T := F_Ma) (N := 9) hx hb hts hin_Ma hown hK hP 3 rfl rfl 5 (by decide) (hts _ k_C_111) (fun _ h9 => h9) rfl d_Ma_loopCount_16 ?_
    refine lv_iconst (v := 1) hx hb d_Ma_loopCount_19 (by decide) ?_
    refine lv_isub hx hb d_Ma_loopCount_20 ?_
    obtain ⟨hi, hw⟩ := hw
    refine va_aldq (f := (S.2.2.2.2.1 1)) hx hb hK hP 15 4 rfl rfl hi d_Ma_loopCount_21 ?_
    obtain ⟨y1, hy2, hw⟩ := hw
    refine W_rf hy2 ?_
    refine lv_iload_n hx hb d_Ma_loopCount_22 rfl (lv_at hl 1 rfl) ?_
    obtain ⟨vs3, ha4, hf5, hw⟩ := hw
    refine cC_iV (As := [.int (a0)]) (rest := []) hx hb hml hown hts hK hC hN hP hD hS hA (Nat.zero_le _) (Nat.zero_le _) hl.1 (precv_C (C := R_Ca) (F := F_Ca) (N := 5) hK hP ha4 hf5 rfl) (qC_35 hts ⟨Nat.le_of_ble_eq_true rfl, Nat.le_of_ble_eq_true rfl⟩) (c_Ca_loopCount l g H.size _ (y1) (a0) _ hw) rfl rfl (Nat.le_of_ble_eq_true rfl) d_Ma_loopCount_23 (fun r7 S6 H locs hw hP hD hS => ?_)
    exact J26 S6 (r7) _ _ _ hw (lv_sub hl [] rfl) hP hD hS
  · have hw := hw.1 hc
    refine lv_iconst (v := 0) hx hb d_Ma_loopCount_7 (by decide) ?_
    refine lv_goto hx hb d_Ma_loopCount_8 (tgt := 26) (by decide) ?_
    exact J26 S (0) _ _ _ hw (lv_sub hl [] rfl) hP hD hS
theorem qC_36 {R : Room} {s : State} {args : Array Value} (hts : ∀ w ∈ w_C, w.before args s = true) (hR : (rmM 1 21).frames + 1 ≤ R.frames ∧ 8 + (2 + 11) + (rmM 1 21).locals ≤ R.locals) : CallW R s args "WordSmith$Machine" R_Me 215 y_Me_fetch b_Me_fetch 2 (some .int) (.code y_Me_fetch b_Me_fetch 2 (some .int) :: w_C) (rmM 1 21) 0 0 1 := ⟨callB_of 1 hts (good_C k_C_664) rfl rfl rfl (hts _ k_C_8) (hts _ k_C_661) ⟨by decide +kernel, by decide +kernel, by decide +kernel⟩ hR, hts _ k_C_662, hts _ k_C_663⟩
theorem qC_37 {R : Room} {s : State} {args : Array Value} (hts : ∀ w ∈ w_C, w.before args s = true) (hR : (rmM 1 21).frames + 1 ≤ R.frames ∧ 8 + (3 + 11) + (rmM 1 21).locals ≤ R.locals) : CallW R s args "WordSmith$Machine" R_Me 218 y_Me_store b_Me_store 3 none (.code y_Me_store b_Me_store 3 none :: w_C) (rmM 1 21) 0 0 2 := ⟨callB_of 2 hts (good_C k_C_669) rfl rfl rfl (hts _ k_C_8) (hts _ k_C_666) ⟨by decide +kernel, by decide +kernel, by decide +kernel⟩ hR, hts _ k_C_667, hts _ k_C_668⟩
theorem qC_38 {R : Room} {s : State} {args : Array Value} (hts : ∀ w ∈ w_C, w.before args s = true) (hR : (rmM 2 62).frames + 1 ≤ R.frames ∧ 8 + (3 + 11) + (rmM 2 62).locals ≤ R.locals) : CallW R s args "WordSmith$Machine" R_Me 230 y_Me_tellBlock b_Me_tellBlock 3 (some .int) (.code y_Me_tellBlock b_Me_tellBlock 3 (some .int) :: w_C) (rmM 2 62) 0 0 1 := ⟨callB_of 1 hts (good_C k_C_678) rfl rfl rfl (hts _ k_C_8) (hts _ k_C_675) ⟨by decide +kernel, by decide +kernel, by decide +kernel⟩ hR, hts _ k_C_676, hts _ k_C_677⟩
theorem qC_39 {R : Room} {s : State} {args : Array Value} (hts : ∀ w ∈ w_C, w.before args s = true) (hR : (rmM 1 23).frames + 1 ≤ R.frames ∧ 8 + (2 + 11) + (rmM 1 23).locals ≤ R.locals) : CallW R s args "WordSmith$Machine" R_Me 224 y_Me_append b_Me_append 2 none (.code y_Me_append b_Me_append 2 none :: w_C) (rmM 1 23) 0 0 1 := ⟨callB_of 1 hts (good_C k_C_511) rfl rfl rfl (hts _ k_C_8) (hts _ k_C_670) ⟨by decide +kernel, by decide +kernel, by decide +kernel⟩ hR, hts _ k_C_509, hts _ k_C_510⟩
theorem qC_40 {R : Room} {s : State} {args : Array Value} (hts : ∀ w ∈ w_C, w.before args s = true) (hR : (rmM 1 23).frames + 1 ≤ R.frames ∧ 8 + (2 + 11) + (rmM 1 23).locals ≤ R.locals) : CallW R s args "WordSmith$Machine" R_Me 227 y_Me_grow b_Me_grow 2 none (.code y_Me_grow b_Me_grow 2 none :: w_C) (rmM 1 23) 0 0 1 := ⟨callB_of 1 hts (good_C k_C_674) rfl rfl rfl (hts _ k_C_8) (hts _ k_C_671) ⟨by decide +kernel, by decide +kernel, by decide +kernel⟩ hR, hts _ k_C_672, hts _ k_C_673⟩
theorem qC_41 {R : Room} {s : State} {args : Array Value} (hts : ∀ w ∈ w_C, w.before args s = true) (hR : (rmM 0 0).frames + 1 ≤ R.frames ∧ 8 + (1 + 11) + (rmM 0 0).locals ≤ R.locals) : CallW R s args "WordSmith$Machine" R_Me 233 y_Me_update b_Me_update 1 none (.code y_Me_update b_Me_update 1 none :: w_C) (rmM 0 0) 0 0 0 := ⟨callB_of 0 hts (good_C k_C_692) rfl rfl rfl (hts _ k_C_8) (hts _ k_C_689) ⟨by decide +kernel, by decide +kernel, by decide +kernel⟩ hR, hts _ k_C_690, hts _ k_C_691⟩
theorem qC_42 {R : Room} {s : State} {args : Array Value} (hts : ∀ w ∈ w_C, w.before args s = true) (hR : (rmM 2 62).frames + 1 ≤ R.frames ∧ 8 + (2 + 11) + (rmM 2 62).locals ≤ R.locals) : CallW R s args "WordSmith$Machine" R_Me 236 y_Me_flush b_Me_flush 2 none (.code y_Me_flush b_Me_flush 2 none :: w_C) (rmM 2 62) 0 0 0 := ⟨callB_of 0 hts (good_C k_C_696) rfl rfl rfl (hts _ k_C_8) (hts _ k_C_693) ⟨by decide +kernel, by decide +kernel, by decide +kernel⟩ hR, hts _ k_C_694, hts _ k_C_695⟩
theorem d_Ma_performOnMemory_0 : decode b_Ma_performOnMemory 0 = .ok (.getstatic 167, 3) := by decide +kernel
theorem d_Ma_performOnMemory_3 : decode b_Ma_performOnMemory 3 = .ok (.aload_n 1, 1) := by decide +kernel
theorem d_Ma_performOnMemory_4 : decode b_Ma_performOnMemory 4 = .ok (.invokevirtual 172, 3) := by decide +kernel
theorem d_Ma_performOnMemory_7 : decode b_Ma_performOnMemory 7 = .ok (.iaload, 1) := by decide +kernel
theorem d_Ma_performOnMemory_8 : decode b_Ma_performOnMemory 8 = .ok (.tableswitch 224 5 24 #[96, 114, 126, 186, 224, 224, 164, 175, 224, 224, 224, 224, 224, 224, 224, 224, 224, 147, 204, 214], 96) := by decide +kernel
theorem d_Ma_performOnMemory_104 : decode b_Ma_performOnMemory 104 = .ok (.aload_n 0, 1) := by decide +kernel
theorem d_Ma_performOnMemory_105 : decode b_Ma_performOnMemory 105 = .ok (.getfield 12, 3) := by decide +kernel
theorem d_Ma_performOnMemory_108 : decode b_Ma_performOnMemory 108 = .ok (.aload_n 0, 1) := by decide +kernel
theorem d_Ma_performOnMemory_109 : decode b_Ma_performOnMemory 109 = .ok (.getfield 24, 3) := by decide +kernel
theorem d_Ma_performOnMemory_112 : decode b_Ma_performOnMemory 112 = .ok (.iload_n 3, 1) := by decide +kernel
theorem d_Ma_performOnMemory_113 : decode b_Ma_performOnMemory 113 = .ok (.invokevirtual 215, 3) := by decide +kernel
theorem d_Ma_performOnMemory_116 : decode b_Ma_performOnMemory 116 = .ok (.invokevirtual 60, 3) := by decide +kernel
theorem d_Ma_performOnMemory_119 : decode b_Ma_performOnMemory 119 = .ok (.goto 113, 3) := by decide +kernel
theorem d_Ma_performOnMemory_122 : decode b_Ma_performOnMemory 122 = .ok (.aload_n 0, 1) := by decide +kernel
theorem d_Ma_performOnMemory_123 : decode b_Ma_performOnMemory 123 = .ok (.getfield 24, 3) := by decide +kernel
theorem d_Ma_performOnMemory_126 : decode b_Ma_performOnMemory 126 = .ok (.iload_n 3, 1) := by decide +kernel
theorem d_Ma_performOnMemory_127 : decode b_Ma_performOnMemory 127 = .ok (.iload_n 2, 1) := by decide +kernel
theorem d_Ma_performOnMemory_128 : decode b_Ma_performOnMemory 128 = .ok (.invokevirtual 218, 3) := by decide +kernel
theorem d_Ma_performOnMemory_131 : decode b_Ma_performOnMemory 131 = .ok (.goto 101, 3) := by decide +kernel
theorem d_Ma_performOnMemory_134 : decode b_Ma_performOnMemory 134 = .ok (.aload_n 0, 1) := by decide +kernel
theorem d_Ma_performOnMemory_135 : decode b_Ma_performOnMemory 135 = .ok (.getfield 24, 3) := by decide +kernel
theorem d_Ma_performOnMemory_138 : decode b_Ma_performOnMemory 138 = .ok (.iload_n 3, 1) := by decide +kernel
theorem d_Ma_performOnMemory_139 : decode b_Ma_performOnMemory 139 = .ok (.aload_n 0, 1) := by decide +kernel
theorem d_Ma_performOnMemory_140 : decode b_Ma_performOnMemory 140 = .ok (.getfield 24, 3) := by decide +kernel
theorem d_Ma_performOnMemory_143 : decode b_Ma_performOnMemory 143 = .ok (.iload_n 3, 1) := by decide +kernel
theorem d_Ma_performOnMemory_144 : decode b_Ma_performOnMemory 144 = .ok (.invokevirtual 215, 3) := by decide +kernel
theorem d_Ma_performOnMemory_147 : decode b_Ma_performOnMemory 147 = .ok (.iload_n 2, 1) := by decide +kernel
theorem d_Ma_performOnMemory_148 : decode b_Ma_performOnMemory 148 = .ok (.iadd, 1) := by decide +kernel
theorem d_Ma_performOnMemory_149 : decode b_Ma_performOnMemory 149 = .ok (.invokevirtual 218, 3) := by decide +kernel
theorem d_Ma_performOnMemory_152 : decode b_Ma_performOnMemory 152 = .ok (.goto 80, 3) := by decide +kernel
theorem d_Ma_performOnMemory_155 : decode b_Ma_performOnMemory 155 = .ok (.aload_n 0, 1) := by decide +kernel
theorem d_Ma_performOnMemory_156 : decode b_Ma_performOnMemory 156 = .ok (.getfield 12, 3) := by decide +kernel
theorem d_Ma_performOnMemory_159 : decode b_Ma_performOnMemory 159 = .ok (.aload_n 0, 1) := by decide +kernel
theorem d_Ma_performOnMemory_160 : decode b_Ma_performOnMemory 160 = .ok (.getfield 24, 3) := by decide +kernel
theorem d_Ma_performOnMemory_163 : decode b_Ma_performOnMemory 163 = .ok (.getfield 221, 3) := by decide +kernel
theorem d_Ma_performOnMemory_166 : decode b_Ma_performOnMemory 166 = .ok (.invokevirtual 60, 3) := by decide +kernel
theorem d_Ma_performOnMemory_169 : decode b_Ma_performOnMemory 169 = .ok (.goto 63, 3) := by decide +kernel
theorem d_Ma_performOnMemory_172 : decode b_Ma_performOnMemory 172 = .ok (.aload_n 0, 1) := by decide +kernel
theorem d_Ma_performOnMemory_173 : decode b_Ma_performOnMemory 173 = .ok (.getfield 24, 3) := by decide +kernel
theorem d_Ma_performOnMemory_176 : decode b_Ma_performOnMemory 176 = .ok (.iload_n 3, 1) := by decide +kernel
theorem d_Ma_performOnMemory_177 : decode b_Ma_performOnMemory 177 = .ok (.invokevirtual 224, 3) := by decide +kernel
theorem d_Ma_performOnMemory_180 : decode b_Ma_performOnMemory 180 = .ok (.goto 52, 3) := by decide +kernel
theorem d_Ma_performOnMemory_183 : decode b_Ma_performOnMemory 183 = .ok (.aload_n 0, 1) := by decide +kernel
theorem d_Ma_performOnMemory_184 : decode b_Ma_performOnMemory 184 = .ok (.getfield 24, 3) := by decide +kernel
theorem d_Ma_performOnMemory_187 : decode b_Ma_performOnMemory 187 = .ok (.iload_n 3, 1) := by decide +kernel
theorem d_Ma_performOnMemory_188 : decode b_Ma_performOnMemory 188 = .ok (.invokevirtual 227, 3) := by decide +kernel
theorem d_Ma_performOnMemory_191 : decode b_Ma_performOnMemory 191 = .ok (.goto 41, 3) := by decide +kernel
theorem d_Ma_performOnMemory_194 : decode b_Ma_performOnMemory 194 = .ok (.aload_n 0, 1) := by decide +kernel
theorem d_Ma_performOnMemory_195 : decode b_Ma_performOnMemory 195 = .ok (.getfield 12, 3) := by decide +kernel
theorem d_Ma_performOnMemory_198 : decode b_Ma_performOnMemory 198 = .ok (.aload_n 0, 1) := by decide +kernel
theorem d_Ma_performOnMemory_199 : decode b_Ma_performOnMemory 199 = .ok (.getfield 24, 3) := by decide +kernel
theorem d_Ma_performOnMemory_202 : decode b_Ma_performOnMemory 202 = .ok (.iload_n 3, 1) := by decide +kernel
theorem d_Ma_performOnMemory_203 : decode b_Ma_performOnMemory 203 = .ok (.invokevirtual 230, 3) := by decide +kernel
theorem d_Ma_performOnMemory_206 : decode b_Ma_performOnMemory 206 = .ok (.invokevirtual 60, 3) := by decide +kernel
theorem d_Ma_performOnMemory_209 : decode b_Ma_performOnMemory 209 = .ok (.goto 23, 3) := by decide +kernel
theorem d_Ma_performOnMemory_212 : decode b_Ma_performOnMemory 212 = .ok (.aload_n 0, 1) := by decide +kernel
theorem d_Ma_performOnMemory_213 : decode b_Ma_performOnMemory 213 = .ok (.getfield 24, 3) := by decide +kernel
theorem d_Ma_performOnMemory_216 : decode b_Ma_performOnMemory 216 = .ok (.invokevirtual 233, 3) := by decide +kernel
theorem d_Ma_performOnMemory_219 : decode b_Ma_performOnMemory 219 = .ok (.goto 13, 3) := by decide +kernel
theorem d_Ma_performOnMemory_222 : decode b_Ma_performOnMemory 222 = .ok (.aload_n 0, 1) := by decide +kernel
theorem d_Ma_performOnMemory_223 : decode b_Ma_performOnMemory 223 = .ok (.getfield 24, 3) := by decide +kernel
theorem d_Ma_performOnMemory_226 : decode b_Ma_performOnMemory 226 = .ok (.invokevirtual 236, 3) := by decide +kernel
theorem d_Ma_performOnMemory_229 : decode b_Ma_performOnMemory 229 = .ok (.goto 3, 3) := by decide +kernel
theorem d_Ma_performOnMemory_232 : decode b_Ma_performOnMemory 232 = .ok (.return_, 1) := by decide +kernel
def wq_Ma_performOnMemory_232 (g : Gm) (post : StC → Prop)  (S : StC)  : Prop :=
  post S
def wp_Ma_performOnMemory (g : Gm) (post : StC → Prop) (S : StC) (a0 : Nat) (a1 : Int32) (a2 : Int32) : Prop :=
  ∃ (i1 : Nat), (i1 < 52) ∧ (a0 = g.2.2 (100 + i1)) ∧ (wp_En_ordinal g (fun (r5 : Int32) (S4 : StC) => ((vp_in r5 52) ∧ ((((swE.getD (Int32.toNatClampNeg (r5)) 0) = 5) → wp_Me_fetch g (fun (r8 : Int32) (S7 : StC) => (wp_Nd_push g (fun S9 : StC => (wq_Ma_performOnMemory_232 g post  S9 )) S7 (r8))) S4 (a2)) ∧ (¬ ((swE.getD (Int32.toNatClampNeg (r5)) 0) = 5) → (((swE.getD (Int32.toNatClampNeg (r5)) 0) = 6) → wp_Me_store g (fun S11 : StC => (wq_Ma_performOnMemory_232 g post  S11 )) S4 (a2) (a1)) ∧ (¬ ((swE.getD (Int32.toNatClampNeg (r5)) 0) = 6) → (((swE.getD (Int32.toNatClampNeg (r5)) 0) = 7) → wp_Me_fetch g (fun (r14 : Int32) (S13 : StC) => (wp_Me_store g (fun S15 : StC => (wq_Ma_performOnMemory_232 g post  S15 )) S13 (a2) ((r14 + a1)))) S4 (a2)) ∧ (¬ ((swE.getD (Int32.toNatClampNeg (r5)) 0) = 7) → (((swE.getD (Int32.toNatClampNeg (r5)) 0) = 8) → wp_Me_tellBlock g (fun (r18 : Int32) (S17 : StC) => (wp_Nd_push g (fun S19 : StC => (wq_Ma_performOnMemory_232 g post  S19 )) S17 (r18))) S4 (a2)) ∧ (¬ ((swE.getD (Int32.toNatClampNeg (r5)) 0) = 8) → (((swE.getD (Int32.toNatClampNeg (r5)) 0) = 9) → wq_Ma_performOnMemory_232 g post  S4 ) ∧ (¬ ((swE.getD (Int32.toNatClampNeg (r5)) 0) = 9) → (((swE.getD (Int32.toNatClampNeg (r5)) 0) = 10) → wq_Ma_performOnMemory_232 g post  S4 ) ∧ (¬ ((swE.getD (Int32.toNatClampNeg (r5)) 0) = 10) → (((swE.getD (Int32.toNatClampNeg (r5)) 0) = 11) → wp_Me_append g (fun S23 : StC => (wq_Ma_performOnMemory_232 g post  S23 )) S4 (a2)) ∧ (¬ ((swE.getD (Int32.toNatClampNeg (r5)) 0) = 11) → (((swE.getD (Int32.toNatClampNeg (r5)) 0) = 12) → wp_Me_grow g (fun S25 : StC => (wq_Ma_performOnMemory_232 g post  S25 )) S4 (a2)) ∧ (¬ ((swE.getD (Int32.toNatClampNeg (r5)) 0) = 12) → (((swE.getD (Int32.toNatClampNeg (r5)) 0) = 13) → wq_Ma_performOnMemory_232 g post  S4 ) ∧ (¬ ((swE.getD (Int32.toNatClampNeg (r5)) 0) = 13) → (((swE.getD (Int32.toNatClampNeg (r5)) 0) = 14) → wq_Ma_performOnMemory_232 g post  S4 ) ∧ (¬ ((swE.getD (Int32.toNatClampNeg (r5)) 0) = 14) → (((swE.getD (Int32.toNatClampNeg (r5)) 0) = 15) → wq_Ma_performOnMemory_232 g post  S4 ) ∧ (¬ ((swE.getD (Int32.toNatClampNeg (r5)) 0) = 15) → (((swE.getD (Int32.toNatClampNeg (r5)) 0) = 16) → wq_Ma_performOnMemory_232 g post  S4 ) ∧ (¬ ((swE.getD (Int32.toNatClampNeg (r5)) 0) = 16) → (((swE.getD (Int32.toNatClampNeg (r5)) 0) = 17) → wq_Ma_performOnMemory_232 g post  S4 ) ∧ (¬ ((swE.getD (Int32.toNatClampNeg (r5)) 0) = 17) → (((swE.getD (Int32.toNatClampNeg (r5)) 0) = 18) → wq_Ma_performOnMemory_232 g post  S4 ) ∧ (¬ ((swE.getD (Int32.toNatClampNeg (r5)) 0) = 18) → (((swE.getD (Int32.toNatClampNeg (r5)) 0) = 19) → wq_Ma_performOnMemory_232 g post  S4 ) ∧ (¬ ((swE.getD (Int32.toNatClampNeg (r5)) 0) = 19) → (((swE.getD (Int32.toNatClampNeg (r5)) 0) = 20) → wq_Ma_performOnMemory_232 g post  S4 ) ∧ (¬ ((swE.getD (Int32.toNatClampNeg (r5)) 0) = 20) → (((swE.getD (Int32.toNatClampNeg (r5)) 0) = 21) → wq_Ma_performOnMemory_232 g post  S4 ) ∧ (¬ ((swE.getD (Int32.toNatClampNeg (r5)) 0) = 21) → (((swE.getD (Int32.toNatClampNeg (r5)) 0) = 22) → wp_Nd_push g (fun S36 : StC => (wq_Ma_performOnMemory_232 g post  S36 )) S4 ((S4.1 10))) ∧ (¬ ((swE.getD (Int32.toNatClampNeg (r5)) 0) = 22) → (((swE.getD (Int32.toNatClampNeg (r5)) 0) = 23) → wp_Me_update g (fun S38 : StC => (wq_Ma_performOnMemory_232 g post  S38 )) S4 ) ∧ (¬ ((swE.getD (Int32.toNatClampNeg (r5)) 0) = 23) → (((swE.getD (Int32.toNatClampNeg (r5)) 0) = 24) → wp_Me_flush g (fun S40 : StC => (wq_Ma_performOnMemory_232 g post  S40 )) S4 ) ∧ (¬ ((swE.getD (Int32.toNatClampNeg (r5)) 0) = 24) → wq_Ma_performOnMemory_232 g post  S4 ))))))))))))))))))))))) S (a0))
set_option maxRecDepth 100000 in
set_option maxHeartbeats 4000000 in
theorem c_Ma_performOnMemory (l : Launch) (g : Gm) (sz : Nat) (S : StC) (a0 : Nat) (a1 : Int32) (a2 : Int32) (post : StC → Prop) (hw : wp_Ma_performOnMemory g post S a0 a1 a2) : Met l y_Ma_performOnMemory (.code y_Ma_performOnMemory b_Ma_performOnMemory 4 none :: w_C) (rmM 3 84) (va_Pc [.ref (g.2.2 3), .ref (a0), .int (a1), .int (a2)] (PC g sz S)) (va_Qv post (BC g (AC g sz S)) (AC g sz S)) 0 0 (AC g sz S) := by
  refine ofC_v (by decide) (Nat.le_of_ble_eq_true rfl) (fun p e s m args below meth c Q A H locs ls hx hb hml hts hown hK hA hC hN kr hl hP hD hS => ?_)
  have hl : lv_has ls 4 [(0, .ref (g.2.2 3)), (1, .ref (a0)), (2, .int (a1)), (3, .int (a2))] := hl
  unfold wp_Ma_performOnMemory at hw
  have J232 : ∀ (S : StC)  (H : Heap) (locs : List Loc) (ls : Array Slot), wq_Ma_performOnMemory_232 g post  S  → lv_has ls 4 [] → va_P g.1 classes (wC g S) H → va_D A (wC g S) → va_S A s.heap H locs → W p l e (rmM 3 84) s m args below meth c H locs 0 0 Q (F0 m 232 ls []) := by
    intro S  H locs ls hw hl hP hD hS
    unfold wq_Ma_performOnMemory_232 at hw
    exact kr S _ _ _ _ hw hP hD hS d_Ma_performOnMemory_232
  refine va_gets (C := "WordSmith$1") (n := "$SwitchMap$WordSmith$BuiltIn") (d := "[I") (v := .ref (g.2.2 90)) hx hb hC.1.2.1 hS hown (hts _ k_C_609) (fun _ h9 => h9) d_Ma_performOnMemory_0 ?_
  refine lv_aload_n hx hb d_Ma_performOnMemory_3 rfl (lv_at hl 1 rfl) ?_
  obtain ⟨i1, hi2, he3, hw⟩ := hw
  refine cC_iU (As := []) (rest := [.ref (g.2.2 90)]) hx hb hml hown hts hK hC hN hP hD hS hA (Nat.zero_le _) (Nat.zero_le _) hl.1 (erecv_C hC hS he3 hi2) (qC_26 hts ⟨Nat.le_of_ble_eq_true rfl, Nat.le_of_ble_eq_true rfl⟩) (c_En_ordinal l g H.size _ (a0) _ hw) rfl rfl (Nat.le_of_ble_eq_true rfl) d_Ma_performOnMemory_4 (fun r5 S4 H locs hw hP hD hS => ?_)
  obtain ⟨hi, hw⟩ := hw
  refine va_ti (v := .int (swE.getD (Int32.toNatClampNeg (r5)) 0)) hx hb hC.1.2.2.1 hS hi rfl d_Ma_performOnMemory_7 ?_
  by_cases hk6 : (swE.getD (Int32.toNatClampNeg (r5)) 0) = 5
  · have hw := hw.1 hk6
    refine sw_in hx hb d_Ma_performOnMemory_8 hk6 (tgt := 104) (off := 96) (by decide) (by decide) rfl (by decide) ?_
    refine lv_aload_n hx hb d_Ma_performOnMemory_104 rfl (lv_at hl 0 rfl) ?_
    refine va_get (D := g.1) (ci := 5) (v := .ref (g.2.2 4)) (C := R_Ma) (T := F_Ma) (N := 9) hx hb hts hin_Ma hown hK hP 3 rfl rfl 0 (by decide) (hts _ k_C_106) (fun _ h9 => h9) rfl d_Ma_performOnMemory_105 ?_
    refine lv_aload_n hx hb d_Ma_performOnMemory_108 rfl (lv_at hl 0 rfl) ?_
    refine va_get (D := g.1) (ci := 5) (v := .ref (g.2.2 8)) (C := R_Ma) (T := F_Ma) (N := 9) hx hb hts hin_Ma hown hK hP 3 rfl rfl 2 (by decide) (hts _ k_C_108) (fun _ h9 => h9) rfl d_Ma_performOnMemory_109 ?_
    refine lv_iload_n hx hb d_Ma_performOnMemory_112 rfl (lv_at hl 3 rfl) ?_
    refine cC_iV (As := [.int (a2)]) (rest := [.ref (g.2.2 4)]) hx hb hml hown hts hK hC hN hP hD hS hA (Nat.zero_le _) (Nat.zero_le _) hl.1 (va_recv (q0 := 8) (ci := 7) (q := (R_Me, F_Me, 6)) hK hP rfl rfl) (qC_36 hts ⟨Nat.le_of_ble_eq_true rfl, Nat.le_of_ble_eq_true rfl⟩) (c_Me_fetch l g H.size _ (a2) _ hw) rfl rfl (Nat.le_of_ble_eq_true rfl) d_Ma_performOnMemory_113 (fun r8 S7 H locs hw hP hD hS => ?_)
    refine cC_vV (As := [.int (r8)]) (rest := []) hx hb hml hown hts hK hC hN hP hD hS hA (Nat.zero_le _) (Nat.zero_le _) hl.1 (va_recv (q0 := 4) (ci := 6) (q := (R_N, F_N, 2)) hK hP rfl rfl) (qC_20 hts ⟨Nat.le_of_ble_eq_true rfl, Nat.le_of_ble_eq_true rfl⟩) (c_Nd_push l g H.size _ (r8) _ hw) rfl rfl (Nat.le_of_ble_eq_true rfl) d_Ma_performOnMemory_116 (fun S9 H locs hw hP hD hS => ?_)
    refine lv_goto hx hb d_Ma_performOnMemory_119 (tgt := 232) (by decide) ?_
    exact J232 S9  _ _ _ hw (lv_sub hl [] rfl) hP hD hS
  · have hw := hw.2 hk6
    by_cases hk10 : (swE.getD (Int32.toNatClampNeg (r5)) 0) = 6
    · have hw := hw.1 hk10
      refine sw_in hx hb d_Ma_performOnMemory_8 hk10 (tgt := 122) (off := 114) (by decide) (by decide) rfl (by decide) ?_
      refine lv_aload_n hx hb d_Ma_performOnMemory_122 rfl (lv_at hl 0 rfl) ?_
      refine va_get (D := g.1) (ci := 5) (v := .ref (g.2.2 8)) (C := R_Ma) (T := F_Ma) (N := 9) hx hb hts hin_Ma hown hK hP 3 rfl rfl 2 (by decide) (hts _ k_C_108) (fun _ h9 => h9) rfl d_Ma_performOnMemory_123 ?_
      refine lv_iload_n hx hb d_Ma_performOnMemory_126 rfl (lv_at hl 3 rfl) ?_
      refine lv_iload_n hx hb d_Ma_performOnMemory_127 rfl (lv_at hl 2 rfl) ?_
      refine cC_vV (As := [.int (a2), .int (a1)]) (rest := []) hx hb hml hown hts hK hC hN hP hD hS hA (Nat.zero_le _) (Nat.zero_le _) hl.1 (va_recv (q0 := 8) (ci := 7) (q := (R_Me, F_Me, 6)) hK hP rfl rfl) (qC_37 hts ⟨Nat.le_of_ble_eq_true rfl, Nat.le_of_ble_eq_true rfl⟩) (c_Me_store l g H.size _ (a2) (a1) _ hw) rfl rfl (Nat.le_of_ble_eq_true rfl) d_Ma_performOnMemory_128 (fun S11 H locs hw hP hD hS => ?_)
      refine lv_goto hx hb d_Ma_performOnMemory_131 (tgt := 232) (by decide) ?_
      exact J232 S11  _ _ _ hw (lv_sub hl [] rfl) hP hD hS
    · have hw := hw.2 hk10
      by_cases hk12 : (swE.getD (Int32.toNatClampNeg (r5)) 0) = 7
      · have hw := hw.1 hk12
        refine sw_in hx hb d_Ma_performOnMemory_8 hk12 (tgt := 134) (off := 126) (by decide) (by decide) rfl (by decide) ?_
        refine lv_aload_n hx hb d_Ma_performOnMemory_134 rfl (lv_at hl 0 rfl) ?_
        refine va_get (D := g.1) (ci := 5) (v := .ref (g.2.2 8)) (C := R_Ma) (T := F_Ma) (N := 9) hx hb hts hin_Ma hown hK hP 3 rfl rfl 2 (by decide) (hts _ k_C_108) (fun _ h9 => h9) rfl d_Ma_performOnMemory_135 ?_
        refine lv_iload_n hx hb d_Ma_performOnMemory_138 rfl (lv_at hl 3 rfl) ?_
        refine lv_aload_n hx hb d_Ma_performOnMemory_139 rfl (lv_at hl 0 rfl) ?_
        refine va_get (D := g.1) (ci := 5) (v := .ref (g.2.2 8)) (C := R_Ma) (T := F_Ma) (N := 9) hx hb hts hin_Ma hown hK hP 3 rfl rfl 2 (by decide) (hts _ k_C_108) (fun _ h9 => h9) rfl d_Ma_performOnMemory_140 ?_
        refine lv_iload_n hx hb d_Ma_performOnMemory_143 rfl (lv_at hl 3 rfl) ?_
        refine cC_iV (As := [.int (a2)]) (rest := [.int (a2), .ref (g.2.2 8)]) hx hb hml hown hts hK hC hN hP hD hS hA (Nat.zero_le _) (Nat.zero_le _) hl.1 (va_recv (q0 := 8) (ci := 7) (q := (R_Me, F_Me, 6)) hK hP rfl rfl) (qC_36 hts ⟨Nat.le_of_ble_eq_true rfl, Nat.le_of_ble_eq_true rfl⟩) (c_Me_fetch l g H.size _ (a2) _ hw) rfl rfl (Nat.le_of_ble_eq_true rfl) d_Ma_performOnMemory_144 (fun r14 S13 H locs hw hP hD hS => ?_)
        refine lv_iload_n hx hb d_Ma_performOnMemory_147 rfl (lv_at hl 2 rfl) ?_
        refine lv_iadd hx hb d_Ma_performOnMemory_148 ?_
        refine cC_vV (As := [.int (a2), .int ((r14 + a1))]) (rest := []) hx hb hml hown hts hK hC hN hP hD hS hA (Nat.zero_le _) (Nat.zero_le _) hl.1 (va_recv (q0 := 8) (ci := 7) (q := (R_Me, F_Me, 6)) hK hP rfl rfl) (qC_37 hts ⟨Nat.le_of_ble_eq_true rfl, Nat.le_of_ble_eq_true rfl⟩) (c_Me_store l g H.size _ (a2) ((r14 + a1)) _ hw) rfl rfl (Nat.le_of_ble_eq_true rfl) d_Ma_performOnMemory_149 (fun S15 H locs hw hP hD hS => ?_)
        refine lv_goto hx hb d_Ma_performOnMemory_152 (tgt := 232) (by decide) ?_
        exact J232 S15  _ _ _ hw (lv_sub hl [] rfl) hP hD hS
      · have hw := hw.2 hk12
        by_cases hk16 : (swE.getD (Int32.toNatClampNeg (r5)) 0) = 8
        · have hw := hw.1 hk16
          refine sw_in hx hb d_Ma_performOnMemory_8 hk16 (tgt := 194) (off := 186) (by decide) (by decide) rfl (by decide) ?_
          refine lv_aload_n hx hb d_Ma_performOnMemory_194 rfl (lv_at hl 0 rfl) ?_
          refine va_get (D := g.1) (ci := 5) (v := .ref (g.2.2 4)) (C := R_Ma) (T := F_Ma) (N := 9) hx hb hts hin_Ma hown hK hP 3 rfl rfl 0 (by decide) (hts _ k_C_106) (fun _ h9 => h9) rfl d_Ma_performOnMemory_195 ?_
          refine lv_aload_n hx hb d_Ma_performOnMemory_198 rfl (lv_at hl 0 rfl) ?_
          refine va_get (D := g.1) (ci := 5) (v := .ref (g.2.2 8)) (C := R_Ma) (T := F_Ma) (N := 9) hx hb hts hin_Ma hown hK hP 3 rfl rfl 2 (by decide) (hts _ k_C_108) (fun _ h9 => h9) rfl d_Ma_performOnMemory_199 ?_
          refine lv_iload_n hx hb d_Ma_performOnMemory_202 rfl (lv_at hl 3 rfl) ?_
          refine cC_iV (As := [.int (a2)]) (rest := [.ref (g.2.2 4)]) hx hb hml hown hts hK hC hN hP hD hS hA (Nat.zero_le _) (Nat.zero_le _) hl.1 (va_recv (q0 := 8) (ci := 7) (q := (R_Me, F_Me, 6)) hK hP rfl rfl) (qC_38 hts ⟨Nat.le_of_ble_eq_true rfl, Nat.le_of_ble_eq_true rfl⟩) (c_Me_tellBlock l g H.size _ (a2) _ hw) rfl rfl (Nat.le_of_ble_eq_true rfl) d_Ma_performOnMemory_203 (fun r18 S17 H locs hw hP hD hS => ?_)
          refine cC_vV (As := [.int (r18)]) (rest := []) hx hb hml hown hts hK hC hN hP hD hS hA (Nat.zero_le _) (Nat.zero_le _) hl.1 (va_recv (q0 := 4) (ci := 6) (q := (R_N, F_N, 2)) hK hP rfl rfl) (qC_20 hts ⟨Nat.le_of_ble_eq_true rfl, Nat.le_of_ble_eq_true rfl⟩) (c_Nd_push l g H.size _ (r18) _ hw) rfl rfl (Nat.le_of_ble_eq_true rfl) d_Ma_performOnMemory_206 (fun S19 H locs hw hP hD hS => ?_)
          refine lv_goto hx hb d_Ma_performOnMemory_209 (tgt := 232) (by decide) ?_
          exact J232 S19  _ _ _ hw (lv_sub hl [] rfl) hP hD hS
        · have hw := hw.2 hk16
          by_cases hk20 : (swE.getD (Int32.toNatClampNeg (r5)) 0) = 9
          · have hw := hw.1 hk20
            refine sw_in hx hb d_Ma_performOnMemory_8 hk20 (tgt := 232) (off := 224) (by decide) (by decide) rfl (by decide) ?_
            exact J232 S4  _ _ _ hw (lv_sub hl [] rfl) hP hD hS
          · have hw := hw.2 hk20
            by_cases hk21 : (swE.getD (Int32.toNatClampNeg (r5)) 0) = 10
            · have hw := hw.1 hk21
              refine sw_in hx hb d_Ma_performOnMemory_8 hk21 (tgt := 232) (off := 224) (by decide) (by decide) rfl (by decide) ?_
              exact J232 S4  _ _ _ hw (lv_sub hl [] rfl) hP hD hS
            · have hw := hw.2 hk21
              by_cases hk22 : (swE.getD (Int32.toNatClampNeg (r5)) 0) = 11
              · have hw := hw.1 hk22
                refine sw_in hx hb d_Ma_performOnMemory_8 hk22 (tgt := 172) (off := 164) (by decide) (by decide) rfl (by decide) ?_
                refine lv_aload_n hx hb d_Ma_performOnMemory_172 rfl (lv_at hl 0 rfl) ?_
                refine va_get (D := g.1) (ci := 5) (v := .ref (g.2.2 8)) (C := R_Ma) (T := F_Ma) (N := 9) hx hb hts hin_Ma hown hK hP 3 rfl rfl 2 (by decide) (hts _ k_C_108) (fun _ h9 => h9) rfl d_Ma_performOnMemory_173 ?_
                refine lv_iload_n hx hb d_Ma_performOnMemory_176 rfl (lv_at hl 3 rfl) ?_
                refine cC_vV (As := [.int (a2)]) (rest := []) hx hb hml hown hts hK hC hN hP hD hS hA (Nat.zero_le _) (Nat.zero_le _) hl.1 (va_recv (q0 := 8) (ci := 7) (q := (R_Me, F_Me, 6)) hK hP rfl rfl) (qC_39 hts ⟨Nat.le_of_ble_eq_true rfl, Nat.le_of_ble_eq_true rfl⟩) (c_Me_append l g H.size _ (a2) _ hw) rfl rfl (Nat.le_of_ble_eq_true rfl) d_Ma_performOnMemory_177 (fun S23 H locs hw hP hD hS => ?_)
                refine lv_goto hx hb d_Ma_performOnMemory_180 (tgt := 232) (by decide) ?_
                exact J232 S23  _ _ _ hw (lv_sub hl [] rfl) hP hD hS
              · have hw := hw.2 hk22
                by_cases hk24 : (swE.getD (Int32.toNatClampNeg (r5)) 0) = 12
                · have hw := hw.1 hk24
                  refine sw_in hx hb d_Ma_performOnMemory_8 hk24 (tgt := 183) (off := 175) (by decide) (by decide) rfl (by decide) ?_
                  refine lv_aload_n hx hb d_Ma_performOnMemory_183 rfl (lv_at hl 0 rfl) ?_
                  refine va_get (D := g.1) (ci := 5) (v := .ref (g.2.2 8)) (C := R_Ma) (T := F_Ma) (N := 9) hx hb hts hin_Ma hown hK hP 3 rfl rfl 2 (by decide) (hts _ k_C_108) (fun _ h9 => h9) rfl d_Ma_performOnMemory_184 ?_
                  refine lv_iload_n hx hb d_Ma_performOnMemory_187 rfl (lv_at hl 3 rfl) ?_
                  refine cC_vV (As := [.int (a2)]) (rest := []) hx hb hml hown hts hK hC hN hP hD hS hA (Nat.zero_le _) (Nat.zero_le _) hl.1 (va_recv (q0 := 8) (ci := 7) (q := (R_Me, F_Me, 6)) hK hP rfl rfl) (qC_40 hts ⟨Nat.le_of_ble_eq_true rfl, Nat.le_of_ble_eq_true rfl⟩) (c_Me_grow l g H.size _ (a2) _ hw) rfl rfl (Nat.le_of_ble_eq_true rfl) d_Ma_performOnMemory_188 (fun S25 H locs hw hP hD hS => ?_)
                  refine lv_goto hx hb d_Ma_performOnMemory_191 (tgt := 232) (by decide) ?_
                  exact J232 S25  _ _ _ hw (lv_sub hl [] rfl) hP hD hS
                · have hw := hw.2 hk24
                  by_cases hk26 : (swE.getD (Int32.toNatClampNeg (r5)) 0) = 13
                  · have hw := hw.1 hk26
                    refine sw_in hx hb d_Ma_performOnMemory_8 hk26 (tgt := 232) (off := 224) (by decide) (by decide) rfl (by decide) ?_
                    exact J232 S4  _ _ _ hw (lv_sub hl [] rfl) hP hD hS
                  · have hw := hw.2 hk26
                    by_cases hk27 : (swE.getD (Int32.toNatClampNeg (r5)) 0) = 14
                    · have hw := hw.1 hk27
                      refine sw_in hx hb d_Ma_performOnMemory_8 hk27 (tgt := 232) (off := 224) (by decide) (by decide) rfl (by decide) ?_
                      exact J232 S4  _ _ _ hw (lv_sub hl [] rfl) hP hD hS
                    · have hw := hw.2 hk27
                      by_cases hk28 : (swE.getD (Int32.toNatClampNeg (r5)) 0) = 15
                      · have hw := hw.1 hk28
                        refine sw_in hx hb d_Ma_performOnMemory_8 hk28 (tgt := 232) (off := 224) (by decide) (by decide) rfl (by decide) ?_
                        exact J232 S4  _ _ _ hw (lv_sub hl [] rfl) hP hD hS
                      · have hw := hw.2 hk28
                        by_cases hk29 : (swE.getD (Int32.toNatClampNeg (r5)) 0) = 16
                        · have hw := hw.1 hk29
                          refine sw_in hx hb d_Ma_performOnMemory_8 hk29 (tgt := 232) (off := 224) (by decide) (by decide) rfl (by decide) ?_
                          exact J232 S4  _ _ _ hw (lv_sub hl [] rfl) hP hD hS
                        · have hw := hw.2 hk29
                          by_cases hk30 : (swE.getD (Int32.toNatClampNeg (r5)) 0) = 17
                          · have hw := hw.1 hk30
                            refine sw_in hx hb d_Ma_performOnMemory_8 hk30 (tgt := 232) (off := 224) (by decide) (by decide) rfl (by decide) ?_
                            exact J232 S4  _ _ _ hw (lv_sub hl [] rfl) hP hD hS
                          · have hw := hw.2 hk30
                            by_cases hk31 : (swE.getD (Int32.toNatClampNeg (r5)) 0) = 18
                            · have hw := hw.1 hk31
                              refine sw_in hx hb d_Ma_performOnMemory_8 hk31 (tgt := 232) (off := 224) (by decide) (by decide) rfl (by decide) ?_
                              exact J232 S4  _ _ _ hw (lv_sub hl [] rfl) hP hD hS
                            · have hw := hw.2 hk31
                              by_cases hk32 : (swE.getD (Int32.toNatClampNeg (r5)) 0) = 19
                              · have hw := hw.1 hk32
                                refine sw_in hx hb d_Ma_performOnMemory_8 hk32 (tgt := 232) (off := 224) (by decide) (by decide) rfl (by decide) ?_
                                exact J232 S4  _ _ _ hw (lv_sub hl [] rfl) hP hD hS
                              · have hw := hw.2 hk32
                                by_cases hk33 : (swE.getD (Int32.toNatClampNeg (r5)) 0) = 20
                                · have hw := hw.1 hk33
                                  refine sw_in hx hb d_Ma_performOnMemory_8 hk33 (tgt := 232) (off := 224) (by decide) (by decide) rfl (by decide) ?_
                                  exact J232 S4  _ _ _ hw (lv_sub hl [] rfl) hP hD hS
                                · have hw := hw.2 hk33
                                  by_cases hk34 : (swE.getD (Int32.toNatClampNeg (r5)) 0) = 21
                                  · have hw := hw.1 hk34
                                    refine sw_in hx hb d_Ma_performOnMemory_8 hk34 (tgt := 232) (off := 224) (by decide) (by decide) rfl (by decide) ?_
                                    exact J232 S4  _ _ _ hw (lv_sub hl [] rfl) hP hD hS
                                  · have hw := hw.2 hk34
                                    by_cases hk35 : (swE.getD (Int32.toNatClampNeg (r5)) 0) = 22
                                    · have hw := hw.1 hk35
                                      refine sw_in hx hb d_Ma_performOnMemory_8 hk35 (tgt := 155) (off := 147) (by decide) (by decide) rfl (by decide) ?_
                                      refine lv_aload_n hx hb d_Ma_performOnMemory_155 rfl (lv_at hl 0 rfl) ?_
                                      refine va_get (D := g.1) (ci := 5) (v := .ref (g.2.2 4)) (C := R_Ma) (T := F_Ma) (N := 9) hx hb hts hin_Ma hown hK hP 3 rfl rfl 0 (by decide) (hts _ k_C_106) (fun _ h9 => h9) rfl d_Ma_performOnMemory_156 ?_
                                      refine lv_aload_n hx hb d_Ma_performOnMemory_159 rfl (lv_at hl 0 rfl) ?_
                                      refine va_get (D := g.1) (ci := 5) (v := .ref (g.2.2 8)) (C := R_Ma) (T := F_Ma) (N := 9) hx hb hts hin_Ma hown hK hP 3 rfl rfl 2 (by decide) (hts _ k_C_108) (fun _ h9 => h9) rfl d_Ma_performOnMemory_160 ?_
                                      refine va_getN (D := g.1) (ci := 7) (v := .int ((S4.1 10))) (C := R_Me) (T := F_Me) (N := 6) hx hb hts hin_Me hown hK hP 8 rfl rfl 1 (by decide) (va_Nw.use rfl (hN.1 _ kn_C_8)) (fun _ h9 => h9) rfl d_Ma_performOnMemory_163 ?_
                                      refine cC_vV (As := [.int ((S4.1 10))]) (rest := []) hx hb hml hown hts hK hC hN hP hD hS hA (Nat.zero_le _) (Nat.zero_le _) hl.1 (va_recv (q0 := 4) (ci := 6) (q := (R_N, F_N, 2)) hK hP rfl rfl) (qC_20 hts ⟨Nat.le_of_ble_eq_true rfl, Nat.le_of_ble_eq_true rfl⟩) (c_Nd_push l g H.size _ ((S4.1 10)) _ hw) rfl rfl (Nat.le_of_ble_eq_true rfl) d_Ma_performOnMemory_166 (fun S36 H locs hw hP hD hS => ?_)
                                      refine lv_goto hx hb d_Ma_performOnMemory_169 (tgt := 232) (by decide) ?_
                                      exact J232 S36  _ _ _ hw (lv_sub hl [] rfl) hP hD hS
                                    · have hw := hw.2 hk35
                                      by_cases hk37 : (swE.getD (Int32.toNatClampNeg (r5)) 0) = 23
                                      · have hw := hw.1 hk37
                                        refine sw_in hx hb d_Ma_performOnMemory_8 hk37 (tgt := 212) (off := 204) (by decide) (by decide) rfl (by decide) ?_
                                        refine lv_aload_n hx hb d_Ma_performOnMemory_212 rfl (lv_at hl 0 rfl) ?_
                                        refine va_get (D := g.1) (ci := 5) (v := .ref (g.2.2 8)) (C := R_Ma) (T := F_Ma) (N := 9) hx hb hts hin_Ma hown hK hP 3 rfl rfl 2 (by decide) (hts _ k_C_108) (fun _ h9 => h9) rfl d_Ma_performOnMemory_213 ?_
                                        refine cC_vV (As := []) (rest := []) hx hb hml hown hts hK hC hN hP hD hS hA (Nat.zero_le _) (Nat.zero_le _) hl.1 (va_recv (q0 := 8) (ci := 7) (q := (R_Me, F_Me, 6)) hK hP rfl rfl) (qC_41 hts ⟨Nat.le_of_ble_eq_true rfl, Nat.le_of_ble_eq_true rfl⟩) (c_Me_update l g H.size _  _ hw) rfl rfl (Nat.le_of_ble_eq_true rfl) d_Ma_performOnMemory_216 (fun S38 H locs hw hP hD hS => ?_)
                                        refine lv_goto hx hb d_Ma_performOnMemory_219 (tgt := 232) (by decide) ?_
                                        exact J232 S38  _ _ _ hw (lv_sub hl [] rfl) hP hD hS
                                      · have hw := hw.2 hk37
                                        by_cases hk39 : (swE.getD (Int32.toNatClampNeg (r5)) 0) = 24
                                        · have hw := hw.1 hk39
                                          refine sw_in hx hb d_Ma_performOnMemory_8 hk39 (tgt := 222) (off := 214) (by decide) (by decide) rfl (by decide) ?_
                                          refine lv_aload_n hx hb d_Ma_performOnMemory_222 rfl (lv_at hl 0 rfl) ?_
                                          refine va_get (D := g.1) (ci := 5) (v := .ref (g.2.2 8)) (C := R_Ma) (T := F_Ma) (N := 9) hx hb hts hin_Ma hown hK hP 3 rfl rfl 2 (by decide) (hts _ k_C_108) (fun _ h9 => h9) rfl d_Ma_performOnMemory_223 ?_
                                          refine cC_vV (As := []) (rest := []) hx hb hml hown hts hK hC hN hP hD hS hA (Nat.zero_le _) (Nat.zero_le _) hl.1 (va_recv (q0 := 8) (ci := 7) (q := (R_Me, F_Me, 6)) hK hP rfl rfl) (qC_42 hts ⟨Nat.le_of_ble_eq_true rfl, Nat.le_of_ble_eq_true rfl⟩) (c_Me_flush l g H.size _  _ hw) rfl rfl (Nat.le_of_ble_eq_true rfl) d_Ma_performOnMemory_226 (fun S40 H locs hw hP hD hS => ?_)
                                          refine lv_goto hx hb d_Ma_performOnMemory_229 (tgt := 232) (by decide) ?_
                                          exact J232 S40  _ _ _ hw (lv_sub hl [] rfl) hP hD hS
                                        · have hw := hw.2 hk39
                                          have n0 := lv_neT hk6 (by decide : (5 : Int32).toInt = 5)
                                          have n1 := lv_neT hk10 (by decide : (6 : Int32).toInt = 6)
                                          have n2 := lv_neT hk12 (by decide : (7 : Int32).toInt = 7)
                                          have n3 := lv_neT hk16 (by decide : (8 : Int32).toInt = 8)
                                          have n4 := lv_neT hk20 (by decide : (9 : Int32).toInt = 9)
                                          have n5 := lv_neT hk21 (by decide : (10 : Int32).toInt = 10)
                                          have n6 := lv_neT hk22 (by decide : (11 : Int32).toInt = 11)
                                          have n7 := lv_neT hk24 (by decide : (12 : Int32).toInt = 12)
                                          have n8 := lv_neT hk26 (by decide : (13 : Int32).toInt = 13)
                                          have n9 := lv_neT hk27 (by decide : (14 : Int32).toInt = 14)
                                          have n10 := lv_neT hk28 (by decide : (15 : Int32).toInt = 15)
                                          have n11 := lv_neT hk29 (by decide : (16 : Int32).toInt = 16)
                                          have n12 := lv_neT hk30 (by decide : (17 : Int32).toInt = 17)
                                          have n13 := lv_neT hk31 (by decide : (18 : Int32).toInt = 18)
                                          have n14 := lv_neT hk32 (by decide : (19 : Int32).toInt = 19)
                                          have n15 := lv_neT hk33 (by decide : (20 : Int32).toInt = 20)
                                          have n16 := lv_neT hk34 (by decide : (21 : Int32).toInt = 21)
                                          have n17 := lv_neT hk35 (by decide : (22 : Int32).toInt = 22)
                                          have n18 := lv_neT hk37 (by decide : (23 : Int32).toInt = 23)
                                          have n19 := lv_neT hk39 (by decide : (24 : Int32).toInt = 24)
                                          refine lv_tableOut hx hb d_Ma_performOnMemory_8 (tgt := 232) (by omega) (by decide) ?_
                                          exact J232 S4  _ _ _ hw (lv_sub hl [] rfl) hP hD hS
theorem qC_43 {R : Room} {s : State} {args : Array Value} (hts : ∀ w ∈ w_C, w.before args s = true) (hR : (rmM 1 21).frames + 1 ≤ R.frames ∧ 8 + (2 + 11) + (rmM 1 21).locals ≤ R.locals) : CallW R s args "WordSmith$Machine" R_N 117 y_N_drop b_N_drop 2 none (.code y_N_drop b_N_drop 2 none :: w_C) (rmM 1 21) 0 0 1 := ⟨callB_of 1 hts (good_C k_C_632) rfl rfl rfl (hts _ k_C_7) (hts _ k_C_629) ⟨by decide +kernel, by decide +kernel, by decide +kernel⟩ hR, hts _ k_C_630, hts _ k_C_631⟩
theorem qC_44 {R : Room} {s : State} {args : Array Value} (hts : ∀ w ∈ w_C, w.before args s = true) (hR : (rmM 0 0).frames + 1 ≤ R.frames ∧ 8 + (1 + 11) + (rmM 0 0).locals ≤ R.locals) : CallW R s args "WordSmith$Machine" R_Bi 194 y_Bi_isCalculating b_Bi_isCalculating 1 (some .boolean) (.code y_Bi_isCalculating b_Bi_isCalculating 1 (some .boolean) :: w_C) (rmM 0 0) 0 0 0 := ⟨callB_of 0 hts (good_C k_C_637) rfl rfl rfl (hts _ k_C_19) (hts _ k_C_634) ⟨by decide +kernel, by decide +kernel, by decide +kernel⟩ hR, hts _ k_C_635, hts _ k_C_636⟩
theorem qC_45 {R : Room} {s : State} {args : Array Value} (hts : ∀ w ∈ w_C, w.before args s = true) (hR : (rmM 0 0).frames + 1 ≤ R.frames ∧ 8 + (1 + 11) + (rmM 0 0).locals ≤ R.locals) : CallW R s args "WordSmith$Machine" R_N 97 y_N_pop b_N_pop 1 (some .int) (.code y_N_pop b_N_pop 1 (some .int) :: w_C) (rmM 0 0) 0 0 0 := ⟨callB_of 0 hts (good_C k_C_516) rfl rfl rfl (hts _ k_C_7) (hts _ k_C_586) ⟨by decide +kernel, by decide +kernel, by decide +kernel⟩ hR, hts _ k_C_514, hts _ k_C_515⟩
theorem qC_46 {R : Room} {s : State} {args : Array Value} (hts : ∀ w ∈ w_C, w.before args s = true) (hR : (rmM 0 0).frames + 1 ≤ R.frames ∧ 8 + (2 + 11) + (rmM 0 0).locals ≤ R.locals) : CallW R s args "WordSmith$Machine" R_N 111 y_N_fromTop b_N_fromTop 2 (some .int) (.code y_N_fromTop b_N_fromTop 2 (some .int) :: w_C) (rmM 0 0) 0 0 1 := ⟨callB_of 1 hts (good_C k_C_608) rfl rfl rfl (hts _ k_C_7) (hts _ k_C_605) ⟨by decide +kernel, by decide +kernel, by decide +kernel⟩ hR, hts _ k_C_606, hts _ k_C_607⟩
theorem qC_47 {R : Room} {s : State} {args : Array Value} (hts : ∀ w ∈ w_C, w.before args s = true) (hR : (rmM 3 84).frames + 1 ≤ R.frames ∧ 8 + (4 + 11) + (rmM 3 84).locals ≤ R.locals) : CallW R s args "WordSmith$Machine" R_Ma 211 y_Ma_performOnMemory b_Ma_performOnMemory 4 none (.code y_Ma_performOnMemory b_Ma_performOnMemory 4 none :: w_C) (rmM 3 84) 0 0 3 := ⟨callB_of 3 hts (good_C k_C_660) rfl rfl rfl (hts _ k_C_6) (hts _ k_C_658) ⟨by decide +kernel, by decide +kernel, by decide +kernel⟩ hR, hts _ k_C_659, hts _ k_C_803⟩
theorem qC_48 {R : Room} {s : State} {args : Array Value} (hts : ∀ w ∈ w_C, w.before args s = true) (hR : (rmM 1 21).frames + 1 ≤ R.frames ∧ 8 + (2 + 11) + (rmM 1 21).locals ≤ R.locals) : CallW R s args "WordSmith$Machine" R_Ma 208 y_Ma_loopCount b_Ma_loopCount 2 (some .int) (.code y_Ma_loopCount b_Ma_loopCount 2 (some .int) :: w_C) (rmM 1 21) 0 0 1 := ⟨callB_of 1 hts (good_C k_C_653) rfl rfl rfl (hts _ k_C_6) (hts _ k_C_651) ⟨by decide +kernel, by decide +kernel, by decide +kernel⟩ hR, hts _ k_C_652, hts _ k_C_802⟩
theorem qC_49 {R : Room} {s : State} {args : Array Value} (hts : ∀ w ∈ w_C, w.before args s = true) (hR : (rmM 0 0).frames + 1 ≤ R.frames ∧ 8 + (2 + 11) + (rmM 0 0).locals ≤ R.locals) : CallW R s args "WordSmith$Machine" R_N 60 y_N_push b_N_push 2 none (.code y_N_push b_N_push 2 none :: w_C) (rmM 0 0) 0 0 1 := ⟨callB_of 1 hts (good_C k_C_422) rfl rfl rfl (hts _ k_C_7) (hts _ k_C_419) ⟨by decide +kernel, by decide +kernel, by decide +kernel⟩ hR, hts _ k_C_420, hts _ k_C_421⟩
theorem qC_50 {R : Room} {s : State} {args : Array Value} (hts : ∀ w ∈ w_C, w.before args s = true) (hR : (rmM 1 21).frames + 1 ≤ R.frames ∧ 8 + (5 + 11) + (rmM 1 21).locals ≤ R.locals) : CallW R s args "WordSmith$Machine" R_Ma 201 y_Ma_arrange b_Ma_arrange 5 none (.code y_Ma_arrange b_Ma_arrange 5 none :: w_C) (rmM 1 21) 0 0 4 := ⟨callB_of 4 hts (good_C k_C_647) rfl rfl rfl (hts _ k_C_6) (hts _ k_C_645) ⟨by decide +kernel, by decide +kernel, by decide +kernel⟩ hR, hts _ k_C_646, hts _ k_C_800⟩
theorem qC_51 {R : Room} {s : State} {args : Array Value} (hts : ∀ w ∈ w_C, w.before args s = true) (hR : (rmM 0 0).frames + 1 ≤ R.frames ∧ 8 + (2 + 11) + (rmM 0 0).locals ≤ R.locals) : CallW R s args "WordSmith$Machine" R_Ma 205 y_Ma_keep b_Ma_keep 2 none (.code y_Ma_keep b_Ma_keep 2 none :: w_C) (rmM 0 0) 0 0 1 := ⟨callB_of 1 hts (good_C k_C_650) rfl rfl rfl (hts _ k_C_6) (hts _ k_C_648) ⟨by decide +kernel, by decide +kernel, by decide +kernel⟩ hR, hts _ k_C_649, hts _ k_C_801⟩
theorem qC_52 {R : Room} {s : State} {args : Array Value} (hts : ∀ w ∈ w_C, w.before args s = true) (hR : (rmM 1 20).frames + 1 ≤ R.frames ∧ 8 + (3 + 11) + (rmM 1 20).locals ≤ R.locals) : CallB R s args "WordSmith$Machine" 197 y_Ma_calculate b_Ma_calculate 3 (some .int) (.code y_Ma_calculate b_Ma_calculate 3 (some .int) :: w_C) (rmM 1 20) 0 0 3 ∧ (Cond.static y_Ma_calculate).before args s = true := ⟨callB_of 3 hts (good_C k_C_641) rfl rfl rfl (hts _ k_C_6) (hts _ k_C_639) ⟨by decide +kernel, by decide +kernel, by decide +kernel⟩ hR, hts _ k_C_640⟩
theorem d_Ma_perform_0 : decode b_Ma_perform 0 = .ok (.aload_n 0, 1) := by decide +kernel
theorem d_Ma_perform_1 : decode b_Ma_perform 1 = .ok (.getfield 12, 3) := by decide +kernel
theorem d_Ma_perform_4 : decode b_Ma_perform 4 = .ok (.getfield 96, 3) := by decide +kernel
theorem d_Ma_perform_7 : decode b_Ma_perform 7 = .ok (.istore_n 2, 1) := by decide +kernel
theorem d_Ma_perform_8 : decode b_Ma_perform 8 = .ok (.aload_n 0, 1) := by decide +kernel
theorem d_Ma_perform_9 : decode b_Ma_perform 9 = .ok (.getfield 12, 3) := by decide +kernel
theorem d_Ma_perform_12 : decode b_Ma_perform 12 = .ok (.iconst 2, 1) := by decide +kernel
theorem d_Ma_perform_13 : decode b_Ma_perform 13 = .ok (.invokevirtual 111, 3) := by decide +kernel
theorem d_Ma_perform_16 : decode b_Ma_perform 16 = .ok (.istore_n 3, 1) := by decide +kernel
theorem d_Ma_perform_17 : decode b_Ma_perform 17 = .ok (.aload_n 0, 1) := by decide +kernel
theorem d_Ma_perform_18 : decode b_Ma_perform 18 = .ok (.getfield 12, 3) := by decide +kernel
theorem d_Ma_perform_21 : decode b_Ma_perform 21 = .ok (.iconst 1, 1) := by decide +kernel
theorem d_Ma_perform_22 : decode b_Ma_perform 22 = .ok (.invokevirtual 111, 3) := by decide +kernel
theorem d_Ma_perform_25 : decode b_Ma_perform 25 = .ok (.istore 4, 2) := by decide +kernel
theorem d_Ma_perform_27 : decode b_Ma_perform 27 = .ok (.aload_n 0, 1) := by decide +kernel
theorem d_Ma_perform_28 : decode b_Ma_perform 28 = .ok (.getfield 12, 3) := by decide +kernel
theorem d_Ma_perform_31 : decode b_Ma_perform 31 = .ok (.iconst 0, 1) := by decide +kernel
theorem d_Ma_perform_32 : decode b_Ma_perform 32 = .ok (.invokevirtual 111, 3) := by decide +kernel
theorem d_Ma_perform_35 : decode b_Ma_perform 35 = .ok (.istore 5, 2) := by decide +kernel
theorem d_Ma_perform_37 : decode b_Ma_perform 37 = .ok (.aload_n 0, 1) := by decide +kernel
theorem d_Ma_perform_38 : decode b_Ma_perform 38 = .ok (.getfield 12, 3) := by decide +kernel
theorem d_Ma_perform_41 : decode b_Ma_perform 41 = .ok (.aload_n 1, 1) := by decide +kernel
theorem d_Ma_perform_42 : decode b_Ma_perform 42 = .ok (.getfield 164, 3) := by decide +kernel
theorem d_Ma_perform_45 : decode b_Ma_perform 45 = .ok (.invokevirtual 117, 3) := by decide +kernel
theorem d_Ma_perform_48 : decode b_Ma_perform 48 = .ok (.aload_n 1, 1) := by decide +kernel
theorem d_Ma_perform_49 : decode b_Ma_perform 49 = .ok (.invokevirtual 194, 3) := by decide +kernel
theorem d_Ma_perform_52 : decode b_Ma_perform 52 = .ok (.ifCond .eq 19, 3) := by decide +kernel
theorem d_Ma_perform_55 : decode b_Ma_perform 55 = .ok (.aload_n 0, 1) := by decide +kernel
theorem d_Ma_perform_56 : decode b_Ma_perform 56 = .ok (.getfield 12, 3) := by decide +kernel
theorem d_Ma_perform_59 : decode b_Ma_perform 59 = .ok (.aload_n 1, 1) := by decide +kernel
theorem d_Ma_perform_60 : decode b_Ma_perform 60 = .ok (.iload 4, 2) := by decide +kernel
theorem d_Ma_perform_62 : decode b_Ma_perform 62 = .ok (.iload 5, 2) := by decide +kernel
theorem d_Ma_perform_64 : decode b_Ma_perform 64 = .ok (.invokestatic 197, 3) := by decide +kernel
theorem d_Ma_perform_67 : decode b_Ma_perform 67 = .ok (.invokevirtual 60, 3) := by decide +kernel
theorem d_Ma_perform_70 : decode b_Ma_perform 70 = .ok (.return_, 1) := by decide +kernel
theorem d_Ma_perform_71 : decode b_Ma_perform 71 = .ok (.getstatic 167, 3) := by decide +kernel
theorem d_Ma_perform_74 : decode b_Ma_perform 74 = .ok (.aload_n 1, 1) := by decide +kernel
theorem d_Ma_perform_75 : decode b_Ma_perform 75 = .ok (.invokevirtual 172, 3) := by decide +kernel
theorem d_Ma_perform_78 : decode b_Ma_perform 78 = .ok (.iaload, 1) := by decide +kernel
theorem d_Ma_perform_79 : decode b_Ma_perform 79 = .ok (.tableswitch 223 1 21 #[145, 162, 223, 223, 223, 223, 223, 223, 180, 195, 223, 223, 133, 97, 97, 97, 97, 110, 113, 124, 210], 97) := by decide +kernel
theorem d_Ma_perform_176 : decode b_Ma_perform 176 = .ok (.aload_n 0, 1) := by decide +kernel
theorem d_Ma_perform_177 : decode b_Ma_perform 177 = .ok (.aload_n 1, 1) := by decide +kernel
theorem d_Ma_perform_178 : decode b_Ma_perform 178 = .ok (.iload_n 3, 1) := by decide +kernel
theorem d_Ma_perform_179 : decode b_Ma_perform 179 = .ok (.iload 4, 2) := by decide +kernel
theorem d_Ma_perform_181 : decode b_Ma_perform 181 = .ok (.iload 5, 2) := by decide +kernel
theorem d_Ma_perform_183 : decode b_Ma_perform 183 = .ok (.invokevirtual 201, 3) := by decide +kernel
theorem d_Ma_perform_186 : decode b_Ma_perform 186 = .ok (.goto 125, 3) := by decide +kernel
theorem d_Ma_perform_189 : decode b_Ma_perform 189 = .ok (.goto 122, 3) := by decide +kernel
theorem d_Ma_perform_192 : decode b_Ma_perform 192 = .ok (.aload_n 0, 1) := by decide +kernel
theorem d_Ma_perform_193 : decode b_Ma_perform 193 = .ok (.getfield 12, 3) := by decide +kernel
theorem d_Ma_perform_196 : decode b_Ma_perform 196 = .ok (.iload_n 2, 1) := by decide +kernel
theorem d_Ma_perform_197 : decode b_Ma_perform 197 = .ok (.invokevirtual 60, 3) := by decide +kernel
theorem d_Ma_perform_200 : decode b_Ma_perform 200 = .ok (.goto 111, 3) := by decide +kernel
theorem d_Ma_perform_203 : decode b_Ma_perform 203 = .ok (.aload_n 0, 1) := by decide +kernel
theorem d_Ma_perform_204 : decode b_Ma_perform 204 = .ok (.iload 5, 2) := by decide +kernel
theorem d_Ma_perform_206 : decode b_Ma_perform 206 = .ok (.invokevirtual 205, 3) := by decide +kernel
theorem d_Ma_perform_209 : decode b_Ma_perform 209 = .ok (.goto 102, 3) := by decide +kernel
theorem d_Ma_perform_212 : decode b_Ma_perform 212 = .ok (.aload_n 0, 1) := by decide +kernel
theorem d_Ma_perform_213 : decode b_Ma_perform 213 = .ok (.getfield 18, 3) := by decide +kernel
theorem d_Ma_perform_216 : decode b_Ma_perform 216 = .ok (.iload 5, 2) := by decide +kernel
theorem d_Ma_perform_218 : decode b_Ma_perform 218 = .ok (.invokevirtual 60, 3) := by decide +kernel
theorem d_Ma_perform_221 : decode b_Ma_perform 221 = .ok (.goto 90, 3) := by decide +kernel
theorem d_Ma_perform_224 : decode b_Ma_perform 224 = .ok (.aload_n 0, 1) := by decide +kernel
theorem d_Ma_perform_225 : decode b_Ma_perform 225 = .ok (.getfield 12, 3) := by decide +kernel
theorem d_Ma_perform_228 : decode b_Ma_perform 228 = .ok (.aload_n 0, 1) := by decide +kernel
theorem d_Ma_perform_229 : decode b_Ma_perform 229 = .ok (.getfield 18, 3) := by decide +kernel
theorem d_Ma_perform_232 : decode b_Ma_perform 232 = .ok (.invokevirtual 97, 3) := by decide +kernel
theorem d_Ma_perform_235 : decode b_Ma_perform 235 = .ok (.invokevirtual 60, 3) := by decide +kernel
theorem d_Ma_perform_238 : decode b_Ma_perform 238 = .ok (.goto 73, 3) := by decide +kernel
theorem d_Ma_perform_241 : decode b_Ma_perform 241 = .ok (.aload_n 0, 1) := by decide +kernel
theorem d_Ma_perform_242 : decode b_Ma_perform 242 = .ok (.getfield 12, 3) := by decide +kernel
theorem d_Ma_perform_245 : decode b_Ma_perform 245 = .ok (.aload_n 0, 1) := by decide +kernel
theorem d_Ma_perform_246 : decode b_Ma_perform 246 = .ok (.getfield 18, 3) := by decide +kernel
theorem d_Ma_perform_249 : decode b_Ma_perform 249 = .ok (.iconst 0, 1) := by decide +kernel
theorem d_Ma_perform_250 : decode b_Ma_perform 250 = .ok (.invokevirtual 111, 3) := by decide +kernel
theorem d_Ma_perform_253 : decode b_Ma_perform 253 = .ok (.invokevirtual 60, 3) := by decide +kernel
theorem d_Ma_perform_256 : decode b_Ma_perform 256 = .ok (.goto 55, 3) := by decide +kernel
theorem d_Ma_perform_259 : decode b_Ma_perform 259 = .ok (.aload_n 0, 1) := by decide +kernel
theorem d_Ma_perform_260 : decode b_Ma_perform 260 = .ok (.getfield 12, 3) := by decide +kernel
theorem d_Ma_perform_263 : decode b_Ma_perform 263 = .ok (.aload_n 0, 1) := by decide +kernel
theorem d_Ma_perform_264 : decode b_Ma_perform 264 = .ok (.iconst 0, 1) := by decide +kernel
theorem d_Ma_perform_265 : decode b_Ma_perform 265 = .ok (.invokevirtual 208, 3) := by decide +kernel
theorem d_Ma_perform_268 : decode b_Ma_perform 268 = .ok (.invokevirtual 60, 3) := by decide +kernel
theorem d_Ma_perform_271 : decode b_Ma_perform 271 = .ok (.goto 40, 3) := by decide +kernel
theorem d_Ma_perform_274 : decode b_Ma_perform 274 = .ok (.aload_n 0, 1) := by decide +kernel
theorem d_Ma_perform_275 : decode b_Ma_perform 275 = .ok (.getfield 12, 3) := by decide +kernel
theorem d_Ma_perform_278 : decode b_Ma_perform 278 = .ok (.aload_n 0, 1) := by decide +kernel
theorem d_Ma_perform_279 : decode b_Ma_perform 279 = .ok (.iconst 1, 1) := by decide +kernel
theorem d_Ma_perform_280 : decode b_Ma_perform 280 = .ok (.invokevirtual 208, 3) := by decide +kernel
theorem d_Ma_perform_283 : decode b_Ma_perform 283 = .ok (.invokevirtual 60, 3) := by decide +kernel
theorem d_Ma_perform_286 : decode b_Ma_perform 286 = .ok (.goto 25, 3) := by decide +kernel
theorem d_Ma_perform_289 : decode b_Ma_perform 289 = .ok (.aload_n 0, 1) := by decide +kernel
theorem d_Ma_perform_290 : decode b_Ma_perform 290 = .ok (.dup, 1) := by decide +kernel
theorem d_Ma_perform_291 : decode b_Ma_perform 291 = .ok (.getfield 53, 3) := by decide +kernel
theorem d_Ma_perform_294 : decode b_Ma_perform 294 = .ok (.iconst 1, 1) := by decide +kernel
theorem d_Ma_perform_295 : decode b_Ma_perform 295 = .ok (.isub, 1) := by decide +kernel
theorem d_Ma_perform_296 : decode b_Ma_perform 296 = .ok (.putfield 53, 3) := by decide +kernel
theorem d_Ma_perform_299 : decode b_Ma_perform 299 = .ok (.goto 12, 3) := by decide +kernel
theorem d_Ma_perform_302 : decode b_Ma_perform 302 = .ok (.aload_n 0, 1) := by decide +kernel
theorem d_Ma_perform_303 : decode b_Ma_perform 303 = .ok (.aload_n 1, 1) := by decide +kernel
theorem d_Ma_perform_304 : decode b_Ma_perform 304 = .ok (.iload 4, 2) := by decide +kernel
theorem d_Ma_perform_306 : decode b_Ma_perform 306 = .ok (.iload 5, 2) := by decide +kernel
theorem d_Ma_perform_308 : decode b_Ma_perform 308 = .ok (.invokevirtual 211, 3) := by decide +kernel
theorem d_Ma_perform_311 : decode b_Ma_perform 311 = .ok (.return_, 1) := by decide +kernel
def wq_Ma_perform_311 (g : Gm) (post : StC → Prop)  (S : StC)  : Prop :=
  post S
def wp_Ma_perform (g : Gm) (post : StC → Prop) (S : StC) (a0 : Nat) : Prop :=
  wp_Nd_fromTop g (fun (r2 : Int32) (S1 : StC) => (wp_Nd_fromTop g (fun (r4 : Int32) (S3 : StC) => (wp_Nd_fromTop g (fun (r6 : Int32) (S5 : StC) => (∃ (i7 : Nat), (i7 < 52) ∧ (a0 = g.2.2 (100 + i7)) ∧ (wp_Nd_drop g (fun S10 : StC => (∃ (i11 : Nat), (i11 < 52) ∧ (a0 = g.2.2 (100 + i11)) ∧ (wp_Bi_isCalculating g (fun (r15 : Int32) (S14 : StC) => (((r15 = 0) → ∃ (i16 : Nat), (i16 < 52) ∧ (a0 = g.2.2 (100 + i16)) ∧ (wp_En_ordinal g (fun (r20 : Int32) (S19 : StC) => ((vp_in r20 52) ∧ ((((swE.getD (Int32.toNatClampNeg (r20)) 0) = 1) → wp_Nr_pop g (fun (r23 : Int32) (S22 : StC) => (wp_Nd_push g (fun S24 : StC => (wq_Ma_perform_311 g post  S24 )) S22 (r23))) S19 ) ∧ (¬ ((swE.getD (Int32.toNatClampNeg (r20)) 0) = 1) → (((swE.getD (Int32.toNatClampNeg (r20)) 0) = 2) → wp_Nr_fromTop g (fun (r27 : Int32) (S26 : StC) => (wp_Nd_push g (fun S28 : StC => (wq_Ma_perform_311 g post  S28 )) S26 (r27))) S19 (0)) ∧ (¬ ((swE.getD (Int32.toNatClampNeg (r20)) 0) = 2) → (((swE.getD (Int32.toNatClampNeg (r20)) 0) = 3) → wp_Ma_performOnMemory g (fun S30 : StC => (wq_Ma_perform_311 g post  S30 )) S19 (a0) (r4) (r6)) ∧ (¬ ((swE.getD (Int32.toNatClampNeg (r20)) 0) = 3) → (((swE.getD (Int32.toNatClampNeg (r20)) 0) = 4) → wp_Ma_performOnMemory g (fun S32 : StC => (wq_Ma_perform_311 g post  S32 )) S19 (a0) (r4) (r6)) ∧ (¬ ((swE.getD (Int32.toNatClampNeg (r20)) 0) = 4) → (((swE.getD (Int32.toNatClampNeg (r20)) 0) = 5) → wp_Ma_performOnMemory g (fun S34 : StC => (wq_Ma_perform_311 g post  S34 )) S19 (a0) (r4) (r6)) ∧ (¬ ((swE.getD (Int32.toNatClampNeg (r20)) 0) = 5) → (((swE.getD (Int32.toNatClampNeg (r20)) 0) = 6) → wp_Ma_performOnMemory g (fun S36 : StC => (wq_Ma_perform_311 g post  S36 )) S19 (a0) (r4) (r6)) ∧ (¬ ((swE.getD (Int32.toNatClampNeg (r20)) 0) = 6) → (((swE.getD (Int32.toNatClampNeg (r20)) 0) = 7) → wp_Ma_performOnMemory g (fun S38 : StC => (wq_Ma_perform_311 g post  S38 )) S19 (a0) (r4) (r6)) ∧ (¬ ((swE.getD (Int32.toNatClampNeg (r20)) 0) = 7) → (((swE.getD (Int32.toNatClampNeg (r20)) 0) = 8) → wp_Ma_performOnMemory g (fun S40 : StC => (wq_Ma_perform_311 g post  S40 )) S19 (a0) (r4) (r6)) ∧ (¬ ((swE.getD (Int32.toNatClampNeg (r20)) 0) = 8) → (((swE.getD (Int32.toNatClampNeg (r20)) 0) = 9) → wp_Ma_loopCount g (fun (r43 : Int32) (S42 : StC) => (wp_Nd_push g (fun S44 : StC => (wq_Ma_perform_311 g post  S44 )) S42 (r43))) S19 (0)) ∧ (¬ ((swE.getD (Int32.toNatClampNeg (r20)) 0) = 9) → (((swE.getD (Int32.toNatClampNeg (r20)) 0) = 10) → wp_Ma_loopCount g (fun (r47 : Int32) (S46 : StC) => (wp_Nd_push g (fun S48 : StC => (wq_Ma_perform_311 g post  S48 )) S46 (r47))) S19 (1)) ∧ (¬ ((swE.getD (Int32.toNatClampNeg (r20)) 0) = 10) → (((swE.getD (Int32.toNatClampNeg (r20)) 0) = 11) → wp_Ma_performOnMemory g (fun S50 : StC => (wq_Ma_perform_311 g post  S50 )) S19 (a0) (r4) (r6)) ∧ (¬ ((swE.getD (Int32.toNatClampNeg (r20)) 0) = 11) → (((swE.getD (Int32.toNatClampNeg (r20)) 0) = 12) → wp_Ma_performOnMemory g (fun S52 : StC => (wq_Ma_perform_311 g post  S52 )) S19 (a0) (r4) (r6)) ∧ (¬ ((swE.getD (Int32.toNatClampNeg (r20)) 0) = 12) → (((swE.getD (Int32.toNatClampNeg (r20)) 0) = 13) → wp_Nr_push g (fun S54 : StC => (wq_Ma_perform_311 g post  S54 )) S19 (r6)) ∧ (¬ ((swE.getD (Int32.toNatClampNeg (r20)) 0) = 13) → (((swE.getD (Int32.toNatClampNeg (r20)) 0) = 14) → wp_Ma_arrange g (fun S56 : StC => (wq_Ma_perform_311 g post  S56 )) S19 (a0) (r2) (r4) (r6)) ∧ (¬ ((swE.getD (Int32.toNatClampNeg (r20)) 0) = 14) → (((swE.getD (Int32.toNatClampNeg (r20)) 0) = 15) → wp_Ma_arrange g (fun S58 : StC => (wq_Ma_perform_311 g post  S58 )) S19 (a0) (r2) (r4) (r6)) ∧ (¬ ((swE.getD (Int32.toNatClampNeg (r20)) 0) = 15) → (((swE.getD (Int32.toNatClampNeg (r20)) 0) = 16) → wp_Ma_arrange g (fun S60 : StC => (wq_Ma_perform_311 g post  S60 )) S19 (a0) (r2) (r4) (r6)) ∧ (¬ ((swE.getD (Int32.toNatClampNeg (r20)) 0) = 16) → (((swE.getD (Int32.toNatClampNeg (r20)) 0) = 17) → wp_Ma_arrange g (fun S62 : StC => (wq_Ma_perform_311 g post  S62 )) S19 (a0) (r2) (r4) (r6)) ∧ (¬ ((swE.getD (Int32.toNatClampNeg (r20)) 0) = 17) → (((swE.getD (Int32.toNatClampNeg (r20)) 0) = 18) → wq_Ma_perform_311 g post  S19 ) ∧ (¬ ((swE.getD (Int32.toNatClampNeg (r20)) 0) = 18) → (((swE.getD (Int32.toNatClampNeg (r20)) 0) = 19) → wp_Nd_push g (fun S65 : StC => (wq_Ma_perform_311 g post  S65 )) S19 ((S.1 8))) ∧ (¬ ((swE.getD (Int32.toNatClampNeg (r20)) 0) = 19) → (((swE.getD (Int32.toNatClampNeg (r20)) 0) = 20) → wp_Ma_keep g (fun S67 : StC => (wq_Ma_perform_311 g post  S67 )) S19 (r6)) ∧ (¬ ((swE.getD (Int32.toNatClampNeg (r20)) 0) = 20) → (((swE.getD (Int32.toNatClampNeg (r20)) 0) = 21) → wq_Ma_perform_311 g post  ((upd S19.1 5 (((S19.1 5) - 1))), S19.2) ) ∧ (¬ ((swE.getD (Int32.toNatClampNeg (r20)) 0) = 21) → wp_Ma_performOnMemory g (fun S69 : StC => (wq_Ma_perform_311 g post  S69 )) S19 (a0) (r4) (r6))))))))))))))))))))))))) S14 (a0))) ∧ (¬ (r15 = 0) → wp_Ma_calculate g (fun (r71 : Int32) (S70 : StC) => (wp_Nd_push g (fun S72 : StC => (post S72)) S70 (r71))) S14 (a0) (r4) (r6)))) S10 (a0)))) S5 ((takE.getD i7 0))))) S3 (0))) S1 (1))) S (2)
set_option maxRecDepth 100000 in
set_option maxHeartbeats 4000000 in
theorem c_Ma_perform (l : Launch) (g : Gm) (sz : Nat) (S : StC) (a0 : Nat) (post : StC → Prop) (hw : wp_Ma_perform g post S a0) : Met l y_Ma_perform (.code y_Ma_perform b_Ma_perform 6 none :: w_C) (rmM 4 107) (va_Pc [.ref (g.2.2 3), .ref (a0)] (PC g sz S)) (va_Qv post (BC g (AC g sz S)) (AC g sz S)) 0 0 (AC g sz S) := by
  refine ofC_v (by decide) (Nat.le_of_ble_eq_true rfl) (fun p e s m args below meth c Q A H locs ls hx hb hml hts hown hK hA hC hN kr hl hP hD hS => ?_)
  have hl : lv_has ls 6 [(0, .ref (g.2.2 3)), (1, .ref (a0))] := hl
  unfold wp_Ma_perform at hw
  have J311 : ∀ (S : StC)  (H : Heap) (locs : List Loc) (ls : Array Slot), wq_Ma_perform_311 g post  S  → lv_has ls 6 [] → va_P g.1 classes (wC g S) H → va_D A (wC g S) → va_S A s.heap H locs → W p l e (rmM 4 107) s m args below meth c H locs 0 0 Q (F0 m 311 ls []) := by
    intro S  H locs ls hw hl hP hD hS
    unfold wq_Ma_perform_311 at hw
    exact kr S _ _ _ _ hw hP hD hS d_Ma_perform_311
  refine lv_aload_n hx hb d_Ma_perform_0 rfl (lv_at hl 0 rfl) ?_
  refine va_get (D := g.1) (ci := 5) (v := .ref (g.2.2 4)) (C := R_Ma) (T := F_Ma) (N := 9) hx hb hts hin_Ma hown hK hP 3 rfl rfl 0 (by decide) (hts _ k_C_106) (fun _ h9 => h9) rfl d_Ma_perform_1 ?_
  refine va_getN (D := g.1) (ci := 6) (v := .int ((S.1 8))) (C := R_N) (T := F_N) (N := 2) hx hb hts hin_N hown hK hP 4 rfl rfl 1 (by decide) (va_Nw.use rfl (hN.1 _ kn_C_3)) (fun _ h9 => h9) rfl d_Ma_perform_4 ?_
  refine lv_istore_n (lv' := [(2, .int ((S.1 8))), (0, .ref (g.2.2 3)), (1, .ref (a0))]) hx hb d_Ma_perform_7 rfl hl (by decide) rfl (fun ls hl => ?_)
  refine lv_aload_n hx hb d_Ma_perform_8 rfl (lv_at hl 1 rfl) ?_
  refine va_get (D := g.1) (ci := 5) (v := .ref (g.2.2 4)) (C := R_Ma) (T := F_Ma) (N := 9) hx hb hts hin_Ma hown hK hP 3 rfl rfl 0 (by decide) (hts _ k_C_106) (fun _ h9 => h9) rfl d_Ma_perform_9 ?_
  refine lv_iconst (v := 2) hx hb d_Ma_perform_12 (by decide) ?_
  refine cC_iV (As := [.int (2)]) (rest := []) hx hb hml hown hts hK hC hN hP hD hS hA (Nat.zero_le _) (Nat.zero_le _) hl.1 (va_recv (q0 := 4) (ci := 6) (q := (R_N, F_N, 2)) hK hP rfl rfl) (qC_30 hts ⟨Nat.le_of_ble_eq_true rfl, Nat.le_of_ble_eq_true rfl⟩) (c_Nd_fromTop l g H.size _ (2) _ hw) rfl rfl (Nat.le_of_ble_eq_true rfl) d_Ma_perform_13 (fun r2 S1 H locs hw hP hD hS => ?_)
  refine lv_istore_n (lv' := [(3, .int (r2)), (2, .int ((S.1 8))), (0, .ref (g.2.2 3)), (1, .ref (a0))]) hx hb d_Ma_perform_16 rfl hl (by decide) rfl (fun ls hl => ?_)
  refine lv_aload_n hx hb d_Ma_perform_17 rfl (lv_at hl 2 rfl) ?_
  refine va_get (D := g.1) (ci := 5) (v := .ref (g.2.2 4)) (C := R_Ma) (T := F_Ma) (N := 9) hx hb hts hin_Ma hown hK hP 3 rfl rfl 0 (by decide) (hts _ k_C_106) (fun _ h9 => h9) rfl d_Ma_perform_18 ?_
  refine lv_iconst (v := 1) hx hb d_Ma_perform_21 (by decide) ?_
  refine cC_iV (As := [.int (1)]) (rest := []) hx hb hml hown hts hK hC hN hP hD hS hA (Nat.zero_le _) (Nat.zero_le _) hl.1 (va_recv (q0 := 4) (ci := 6) (q := (R_N, F_N, 2)) hK hP rfl rfl) (qC_30 hts ⟨Nat.le_of_ble_eq_true rfl, Nat.le_of_ble_eq_true rfl⟩) (c_Nd_fromTop l g H.size _ (1) _ hw) rfl rfl (Nat.le_of_ble_eq_true rfl) d_Ma_perform_22 (fun r4 S3 H locs hw hP hD hS => ?_)
  refine lv_istore (lv' := [(4, .int (r4)), (3, .int (r2)), (2, .int ((S.1 8))), (0, .ref (g.2.2 3)), (1, .ref (a0))]) hx hb d_Ma_perform_25 hl (by decide) rfl (fun ls hl => ?_)
  refine lv_aload_n hx hb d_Ma_perform_27 rfl (lv_at hl 3 rfl) ?_
  refine va_get (D := g.1) (ci := 5) (v := .ref (g.2.2 4)) (C := R_Ma) (T := F_Ma) (N := 9) hx hb hts hin_Ma hown hK hP 3 rfl rfl 0 (by decide) (hts _ k_C_106) (fun _ h9 => h9) rfl d_Ma_perform_28 ?_
  refine lv_iconst (v := 0) hx hb d_Ma_perform_31 (by decide) ?_
  refine cC_iV (As := [.int (0)]) (rest := []) hx hb hml hown hts hK hC hN hP hD hS hA (Nat.zero_le _) (Nat.zero_le _) hl.1 (va_recv (q0 := 4) (ci := 6) (q := (R_N, F_N, 2)) hK hP rfl rfl) (qC_30 hts ⟨Nat.le_of_ble_eq_true rfl, Nat.le_of_ble_eq_true rfl⟩) (c_Nd_fromTop l g H.size _ (0) _ hw) rfl rfl (Nat.le_of_ble_eq_true rfl) d_Ma_perform_32 (fun r6 S5 H locs hw hP hD hS => ?_)
  refine lv_istore (lv' := [(5, .int (r6)), (4, .int (r4)), (3, .int (r2)), (2, .int ((S.1 8))), (0, .ref (g.2.2 3)), (1, .ref (a0))]) hx hb d_Ma_perform_35 hl (by decide) rfl (fun ls hl => ?_)
  refine lv_aload_n hx hb d_Ma_perform_37 rfl (lv_at hl 4 rfl) ?_
  refine va_get (D := g.1) (ci := 5) (v := .ref (g.2.2 4)) (C := R_Ma) (T := F_Ma) (N := 9) hx hb hts hin_Ma hown hK hP 3 rfl rfl 0 (by decide) (hts _ k_C_106) (fun _ h9 => h9) rfl d_Ma_perform_38 ?_
  refine lv_aload_n hx hb d_Ma_perform_41 rfl (lv_at hl 5 rfl) ?_
  obtain ⟨i7, hi8, he9, hw⟩ := hw
  refine ge_C (i := i7) (q := fe_takes) hx hb hts hC hS hown he9 hi8 fe_takes_in k_C_777 d_Ma_perform_42 ?_
  refine cC_vV (As := [.int ((takE.getD i7 0))]) (rest := []) hx hb hml hown hts hK hC hN hP hD hS hA (Nat.zero_le _) (Nat.zero_le _) hl.1 (va_recv (q0 := 4) (ci := 6) (q := (R_N, F_N, 2)) hK hP rfl rfl) (qC_43 hts ⟨Nat.le_of_ble_eq_true rfl, Nat.le_of_ble_eq_true rfl⟩) (c_Nd_drop l g H.size _ ((takE.getD i7 0)) _ hw) rfl rfl (Nat.le_of_ble_eq_true rfl) d_Ma_perform_45 (fun S10 H locs hw hP hD hS => ?_)
  refine lv_aload_n hx hb d_Ma_perform_48 rfl (lv_at hl 5 rfl) ?_
  obtain ⟨i11, hi12, he13, hw⟩ := hw
  refine cC_iV (As := []) (rest := []) hx hb hml hown hts hK hC hN hP hD hS hA (Nat.zero_le _) (Nat.zero_le _) hl.1 (erecv_C hC hS he13 hi12) (qC_44 hts ⟨Nat.le_of_ble_eq_true rfl, Nat.le_of_ble_eq_true rfl⟩) (c_Bi_isCalculating l g H.size _ (a0) _ hw) rfl rfl (Nat.le_of_ble_eq_true rfl) d_Ma_perform_49 (fun r15 S14 H locs hw hP hD hS => ?_)
  refine lv_if_eq hx hb d_Ma_perform_52 (tgt := 71) (by decide) (fun hc => ?_) (fun hc => ?_)
  · have hw := hw.1 hc
    refine va_gets (C := "WordSmith$1") (n := "$SwitchMap$WordSmith$BuiltIn") (d := "[I") (v := .ref (g.2.2 90)) hx hb hC.1.2.1 hS hown (hts _ k_C_609) (fun _ h9 => h9) d_Ma_perform_71 ?_
    refine lv_aload_n hx hb d_Ma_perform_74 rfl (lv_at hl 5 rfl) ?_
    obtain ⟨i16, hi17, he18, hw⟩ := hw
    refine cC_iU (As := []) (rest := [.ref (g.2.2 90)]) hx hb hml hown hts hK hC hN hP hD hS hA (Nat.zero_le _) (Nat.zero_le _) hl.1 (erecv_C hC hS he18 hi17) (qC_26 hts ⟨Nat.le_of_ble_eq_true rfl, Nat.le_of_ble_eq_true rfl⟩) (c_En_ordinal l g H.size _ (a0) _ hw) rfl rfl (Nat.le_of_ble_eq_true rfl) d_Ma_perform_75 (fun r20 S19 H locs hw hP hD hS => ?_)
    obtain ⟨hi, hw⟩ := hw
    refine va_ti (v := .int (swE.getD (Int32.toNatClampNeg (r20)) 0)) hx hb hC.1.2.2.1 hS hi rfl d_Ma_perform_78 ?_
    by_cases hk21 : (swE.getD (Int32.toNatClampNeg (r20)) 0) = 1
    · have hw := hw.1 hk21
      refine sw_in hx hb d_Ma_perform_79 hk21 (tgt := 224) (off := 145) (by decide) (by decide) rfl (by decide) ?_
      refine lv_aload_n hx hb d_Ma_perform_224 rfl (lv_at hl 4 rfl) ?_
      refine va_get (D := g.1) (ci := 5) (v := .ref (g.2.2 4)) (C := R_Ma) (T := F_Ma) (N := 9) hx hb hts hin_Ma hown hK hP 3 rfl rfl 0 (by decide) (hts _ k_C_106) (fun _ h9 => h9) rfl d_Ma_perform_225 ?_
      refine lv_aload_n hx hb d_Ma_perform_228 rfl (lv_at hl 4 rfl) ?_
      refine va_get (D := g.1) (ci := 5) (v := .ref (g.2.2 6)) (C := R_Ma) (T := F_Ma) (N := 9) hx hb hts hin_Ma hown hK hP 3 rfl rfl 1 (by decide) (hts _ k_C_107) (fun _ h9 => h9) rfl d_Ma_perform_229 ?_
      refine cC_iV (As := []) (rest := [.ref (g.2.2 4)]) hx hb hml hown hts hK hC hN hP hD hS hA (Nat.zero_le _) (Nat.zero_le _) hl.1 (va_recv (q0 := 6) (ci := 6) (q := (R_N, F_N, 2)) hK hP rfl rfl) (qC_45 hts ⟨Nat.le_of_ble_eq_true rfl, Nat.le_of_ble_eq_true rfl⟩) (c_Nr_pop l g H.size _  _ hw) rfl rfl (Nat.le_of_ble_eq_true rfl) d_Ma_perform_232 (fun r23 S22 H locs hw hP hD hS => ?_)
      refine cC_vV (As := [.int (r23)]) (rest := []) hx hb hml hown hts hK hC hN hP hD hS hA (Nat.zero_le _) (Nat.zero_le _) hl.1 (va_recv (q0 := 4) (ci := 6) (q := (R_N, F_N, 2)) hK hP rfl rfl) (qC_20 hts ⟨Nat.le_of_ble_eq_true rfl, Nat.le_of_ble_eq_true rfl⟩) (c_Nd_push l g H.size _ (r23) _ hw) rfl rfl (Nat.le_of_ble_eq_true rfl) d_Ma_perform_235 (fun S24 H locs hw hP hD hS => ?_)
      refine lv_goto hx hb d_Ma_perform_238 (tgt := 311) (by decide) ?_
      exact J311 S24  _ _ _ hw (lv_sub hl [] rfl) hP hD hS
    · have hw := hw.2 hk21
      by_cases hk25 : (swE.getD (Int32.toNatClampNeg (r20)) 0) = 2
      · have hw := hw.1 hk25
        refine sw_in hx hb d_Ma_perform_79 hk25 (tgt := 241) (off := 162) (by decide) (by decide) rfl (by decide) ?_
        refine lv_aload_n hx hb d_Ma_perform_241 rfl (lv_at hl 4 rfl) ?_
        refine va_get (D := g.1) (ci := 5) (v := .ref (g.2.2 4)) (C := R_Ma) (T := F_Ma) (N := 9) hx hb hts hin_Ma hown hK hP 3 rfl rfl 0 (by decide) (hts _ k_C_106) (fun _ h9 => h9) rfl d_Ma_perform_242 ?_
        refine lv_aload_n hx hb d_Ma_perform_245 rfl (lv_at hl 4 rfl) ?_
        refine va_get (D := g.1) (ci := 5) (v := .ref (g.2.2 6)) (C := R_Ma) (T := F_Ma) (N := 9) hx hb hts hin_Ma hown hK hP 3 rfl rfl 1 (by decide) (hts _ k_C_107) (fun _ h9 => h9) rfl d_Ma_perform_246 ?_
        refine lv_iconst (v := 0) hx hb d_Ma_perform_249 (by decide) ?_
        refine cC_iV (As := [.int (0)]) (rest := [.ref (g.2.2 4)]) hx hb hml hown hts hK hC hN hP hD hS hA (Nat.zero_le _) (Nat.zero_le _) hl.1 (va_recv (q0 := 6) (ci := 6) (q := (R_N, F_N, 2)) hK hP rfl rfl) (qC_46 hts ⟨Nat.le_of_ble_eq_true rfl, Nat.le_of_ble_eq_true rfl⟩) (c_Nr_fromTop l g H.size _ (0) _ hw) rfl rfl (Nat.le_of_ble_eq_true rfl) d_Ma_perform_250 (fun r27 S26 H locs hw hP hD hS => ?_)
        refine cC_vV (As := [.int (r27)]) (rest := []) hx hb hml hown hts hK hC hN hP hD hS hA (Nat.zero_le _) (Nat.zero_le _) hl.1 (va_recv (q0 := 4) (ci := 6) (q := (R_N, F_N, 2)) hK hP rfl rfl) (qC_20 hts ⟨Nat.le_of_ble_eq_true rfl, Nat.le_of_ble_eq_true rfl⟩) (c_Nd_push l g H.size _ (r27) _ hw) rfl rfl (Nat.le_of_ble_eq_true rfl) d_Ma_perform_253 (fun S28 H locs hw hP hD hS => ?_)
        refine lv_goto hx hb d_Ma_perform_256 (tgt := 311) (by decide) ?_
        exact J311 S28  _ _ _ hw (lv_sub hl [] rfl) hP hD hS
      · have hw := hw.2 hk25
        by_cases hk29 : (swE.getD (Int32.toNatClampNeg (r20)) 0) = 3
        · have hw := hw.1 hk29
          refine sw_in hx hb d_Ma_perform_79 hk29 (tgt := 302) (off := 223) (by decide) (by decide) rfl (by decide) ?_
          refine lv_aload_n hx hb d_Ma_perform_302 rfl (lv_at hl 4 rfl) ?_
          refine lv_aload_n hx hb d_Ma_perform_303 rfl (lv_at hl 5 rfl) ?_
          refine lv_iload hx hb d_Ma_perform_304 (lv_at hl 1 rfl) ?_
          refine lv_iload hx hb d_Ma_perform_306 (lv_at hl 0 rfl) ?_
          refine cC_vV (As := [.ref (a0), .int (r4), .int (r6)]) (rest := []) hx hb hml hown hts hK hC hN hP hD hS hA (Nat.zero_le _) (Nat.zero_le _) hl.1 (va_recv (q0 := 3) (ci := 5) (q := (R_Ma, F_Ma, 9)) hK hP rfl rfl) (qC_47 hts ⟨Nat.le_of_ble_eq_true rfl, Nat.le_of_ble_eq_true rfl⟩) (c_Ma_performOnMemory l g H.size _ (a0) (r4) (r6) _ hw) rfl rfl (Nat.le_of_ble_eq_true rfl) d_Ma_perform_308 (fun S30 H locs hw hP hD hS => ?_)
          exact J311 S30  _ _ _ hw (lv_sub hl [] rfl) hP hD hS
        · have hw := hw.2 hk29
          by_cases hk31 : (swE.getD (Int32.toNatClampNeg (r20)) 0) = 4
          · have hw := hw.1 hk31
            refine sw_in hx hb d_Ma_perform_79 hk31 (tgt := 302) (off := 223) (by decide) (by decide) rfl (by decide) ?_
            refine lv_aload_n hx hb d_Ma_perform_302 rfl (lv_at hl 4 rfl) ?_
            refine lv_aload_n hx hb d_Ma_perform_303 rfl (lv_at hl 5 rfl) ?_
            refine lv_iload hx hb d_Ma_perform_304 (lv_at hl 1 rfl) ?_
            refine lv_iload hx hb d_Ma_perform_306 (lv_at hl 0 rfl) ?_
            refine cC_vV (As := [.ref (a0), .int (r4), .int (r6)]) (rest := []) hx hb hml hown hts hK hC hN hP hD hS hA (Nat.zero_le _) (Nat.zero_le _) hl.1 (va_recv (q0 := 3) (ci := 5) (q := (R_Ma, F_Ma, 9)) hK hP rfl rfl) (qC_47 hts ⟨Nat.le_of_ble_eq_true rfl, Nat.le_of_ble_eq_true rfl⟩) (c_Ma_performOnMemory l g H.size _ (a0) (r4) (r6) _ hw) rfl rfl (Nat.le_of_ble_eq_true rfl) d_Ma_perform_308 (fun S32 H locs hw hP hD hS => ?_)
            exact J311 S32  _ _ _ hw (lv_sub hl [] rfl) hP hD hS
          · have hw := hw.2 hk31
            by_cases hk33 : (swE.getD (Int32.toNatClampNeg (r20)) 0) = 5
            · have hw := hw.1 hk33
              refine sw_in hx hb d_Ma_perform_79 hk33 (tgt := 302) (off := 223) (by decide) (by decide) rfl (by decide) ?_
              refine lv_aload_n hx hb d_Ma_perform_302 rfl (lv_at hl 4 rfl) ?_
              refine lv_aload_n hx hb d_Ma_perform_303 rfl (lv_at hl 5 rfl) ?_
              refine lv_iload hx hb d_Ma_perform_304 (lv_at hl 1 rfl) ?_
              refine lv_iload hx hb d_Ma_perform_306 (lv_at hl 0 rfl) ?_
              refine cC_vV (As := [.ref (a0), .int (r4), .int (r6)]) (rest := []) hx hb hml hown hts hK hC hN hP hD hS hA (Nat.zero_le _) (Nat.zero_le _) hl.1 (va_recv (q0 := 3) (ci := 5) (q := (R_Ma, F_Ma, 9)) hK hP rfl rfl) (qC_47 hts ⟨Nat.le_of_ble_eq_true rfl, Nat.le_of_ble_eq_true rfl⟩) (c_Ma_performOnMemory l g H.size _ (a0) (r4) (r6) _ hw) rfl rfl (Nat.le_of_ble_eq_true rfl) d_Ma_perform_308 (fun S34 H locs hw hP hD hS => ?_)
              exact J311 S34  _ _ _ hw (lv_sub hl [] rfl) hP hD hS
            · have hw := hw.2 hk33
              by_cases hk35 : (swE.getD (Int32.toNatClampNeg (r20)) 0) = 6
              · have hw := hw.1 hk35
                refine sw_in hx hb d_Ma_perform_79 hk35 (tgt := 302) (off := 223) (by decide) (by decide) rfl (by decide) ?_
                refine lv_aload_n hx hb d_Ma_perform_302 rfl (lv_at hl 4 rfl) ?_
                refine lv_aload_n hx hb d_Ma_perform_303 rfl (lv_at hl 5 rfl) ?_
                refine lv_iload hx hb d_Ma_perform_304 (lv_at hl 1 rfl) ?_
                refine lv_iload hx hb d_Ma_perform_306 (lv_at hl 0 rfl) ?_
                refine cC_vV (As := [.ref (a0), .int (r4), .int (r6)]) (rest := []) hx hb hml hown hts hK hC hN hP hD hS hA (Nat.zero_le _) (Nat.zero_le _) hl.1 (va_recv (q0 := 3) (ci := 5) (q := (R_Ma, F_Ma, 9)) hK hP rfl rfl) (qC_47 hts ⟨Nat.le_of_ble_eq_true rfl, Nat.le_of_ble_eq_true rfl⟩) (c_Ma_performOnMemory l g H.size _ (a0) (r4) (r6) _ hw) rfl rfl (Nat.le_of_ble_eq_true rfl) d_Ma_perform_308 (fun S36 H locs hw hP hD hS => ?_)
                exact J311 S36  _ _ _ hw (lv_sub hl [] rfl) hP hD hS
              · have hw := hw.2 hk35
                by_cases hk37 : (swE.getD (Int32.toNatClampNeg (r20)) 0) = 7
                · have hw := hw.1 hk37
                  refine sw_in hx hb d_Ma_perform_79 hk37 (tgt := 302) (off := 223) (by decide) (by decide) rfl (by decide) ?_
                  refine lv_aload_n hx hb d_Ma_perform_302 rfl (lv_at hl 4 rfl) ?_
                  refine lv_aload_n hx hb d_Ma_perform_303 rfl (lv_at hl 5 rfl) ?_
                  refine lv_iload hx hb d_Ma_perform_304 (lv_at hl 1 rfl) ?_
                  refine lv_iload hx hb d_Ma_perform_306 (lv_at hl 0 rfl) ?_
                  refine cC_vV (As := [.ref (a0), .int (r4), .int (r6)]) (rest := []) hx hb hml hown hts hK hC hN hP hD hS hA (Nat.zero_le _) (Nat.zero_le _) hl.1 (va_recv (q0 := 3) (ci := 5) (q := (R_Ma, F_Ma, 9)) hK hP rfl rfl) (qC_47 hts ⟨Nat.le_of_ble_eq_true rfl, Nat.le_of_ble_eq_true rfl⟩) (c_Ma_performOnMemory l g H.size _ (a0) (r4) (r6) _ hw) rfl rfl (Nat.le_of_ble_eq_true rfl) d_Ma_perform_308 (fun S38 H locs hw hP hD hS => ?_)
                  exact J311 S38  _ _ _ hw (lv_sub hl [] rfl) hP hD hS
                · have hw := hw.2 hk37
                  by_cases hk39 : (swE.getD (Int32.toNatClampNeg (r20)) 0) = 8
                  · have hw := hw.1 hk39
                    refine sw_in hx hb d_Ma_perform_79 hk39 (tgt := 302) (off := 223) (by decide) (by decide) rfl (by decide) ?_
                    refine lv_aload_n hx hb d_Ma_perform_302 rfl (lv_at hl 4 rfl) ?_
                    refine lv_aload_n hx hb d_Ma_perform_303 rfl (lv_at hl 5 rfl) ?_
                    refine lv_iload hx hb d_Ma_perform_304 (lv_at hl 1 rfl) ?_
                    refine lv_iload hx hb d_Ma_perform_306 (lv_at hl 0 rfl) ?_
                    refine cC_vV (As := [.ref (a0), .int (r4), .int (r6)]) (rest := []) hx hb hml hown hts hK hC hN hP hD hS hA (Nat.zero_le _) (Nat.zero_le _) hl.1 (va_recv (q0 := 3) (ci := 5) (q := (R_Ma, F_Ma, 9)) hK hP rfl rfl) (qC_47 hts ⟨Nat.le_of_ble_eq_true rfl, Nat.le_of_ble_eq_true rfl⟩) (c_Ma_performOnMemory l g H.size _ (a0) (r4) (r6) _ hw) rfl rfl (Nat.le_of_ble_eq_true rfl) d_Ma_perform_308 (fun S40 H locs hw hP hD hS => ?_)
                    exact J311 S40  _ _ _ hw (lv_sub hl [] rfl) hP hD hS
                  · have hw := hw.2 hk39
                    by_cases hk41 : (swE.getD (Int32.toNatClampNeg (r20)) 0) = 9
                    · have hw := hw.1 hk41
                      refine sw_in hx hb d_Ma_perform_79 hk41 (tgt := 259) (off := 180) (by decide) (by decide) rfl (by decide) ?_
                      refine lv_aload_n hx hb d_Ma_perform_259 rfl (lv_at hl 4 rfl) ?_
                      refine va_get (D := g.1) (ci := 5) (v := .ref (g.2.2 4)) (C := R_Ma) (T := F_Ma) (N := 9) hx hb hts hin_Ma hown hK hP 3 rfl rfl 0 (by decide) (hts _ k_C_106) (fun _ h9 => h9) rfl d_Ma_perform_260 ?_
                      refine lv_aload_n hx hb d_Ma_perform_263 rfl (lv_at hl 4 rfl) ?_
                      refine lv_iconst (v := 0) hx hb d_Ma_perform_264 (by decide) ?_
                      refine cC_iV (As := [.int (0)]) (rest := [.ref (g.2.2 4)]) hx hb hml hown hts hK hC hN hP hD hS hA (Nat.zero_le _) (Nat.zero_le _) hl.1 (va_recv (q0 := 3) (ci := 5) (q := (R_Ma, F_Ma, 9)) hK hP rfl rfl) (qC_48 hts ⟨Nat.le_of_ble_eq_true rfl, Nat.le_of_ble_eq_true rfl⟩) (c_Ma_loopCount l g H.size _ (0) _ hw) rfl rfl (Nat.le_of_ble_eq_true rfl) d_Ma_perform_265 (fun r43 S42 H locs hw hP hD hS => ?_)
                      refine cC_vV (As := [.int (r43)]) (rest := []) hx hb hml hown hts hK hC hN hP hD hS hA (Nat.zero_le _) (Nat.zero_le _) hl.1 (va_recv (q0 := 4) (ci := 6) (q := (R_N, F_N, 2)) hK hP rfl rfl) (qC_20 hts ⟨Nat.le_of_ble_eq_true rfl, Nat.le_of_ble_eq_true rfl⟩) (c_Nd_push l g H.size _ (r43) _ hw) rfl rfl (Nat.le_of_ble_eq_true rfl) d_Ma_perform_268 (fun S44 H locs hw hP hD hS => ?_)
                      refine lv_goto hx hb d_Ma_perform_271 (tgt := 311) (by decide) ?_
                      exact J311 S44  _ _ _ hw (lv_sub hl [] rfl) hP hD hS
                    · have hw := hw.2 hk41
                      by_cases hk45 : (swE.getD (Int32.toNatClampNeg (r20)) 0) = 10
                      · have hw := hw.1 hk45
                        refine sw_in hx hb d_Ma_perform_79 hk45 (tgt := 274) (off := 195) (by decide) (by decide) rfl (by decide) ?_
                        refine lv_aload_n hx hb d_Ma_perform_274 rfl (lv_at hl 4 rfl) ?_
                        refine va_get (D := g.1) (ci := 5) (v := .ref (g.2.2 4)) (C := R_Ma) (T := F_Ma) (N := 9) hx hb hts hin_Ma hown hK hP 3 rfl rfl 0 (by decide) (hts _ k_C_106) (fun _ h9 => h9) rfl d_Ma_perform_275 ?_
                        refine lv_aload_n hx hb d_Ma_perform_278 rfl (lv_at hl 4 rfl) ?_
                        refine lv_iconst (v := 1) hx hb d_Ma_perform_279 (by decide) ?_
                        refine cC_iV (As := [.int (1)]) (rest := [.ref (g.2.2 4)]) hx hb hml hown hts hK hC hN hP hD hS hA (Nat.zero_le _) (Nat.zero_le _) hl.1 (va_recv (q0 := 3) (ci := 5) (q := (R_Ma, F_Ma, 9)) hK hP rfl rfl) (qC_48 hts ⟨Nat.le_of_ble_eq_true rfl, Nat.le_of_ble_eq_true rfl⟩) (c_Ma_loopCount l g H.size _ (1) _ hw) rfl rfl (Nat.le_of_ble_eq_true rfl) d_Ma_perform_280 (fun r47 S46 H locs hw hP hD hS => ?_)
                        refine cC_vV (As := [.int (r47)]) (rest := []) hx hb hml hown hts hK hC hN hP hD hS hA (Nat.zero_le _) (Nat.zero_le _) hl.1 (va_recv (q0 := 4) (ci := 6) (q := (R_N, F_N, 2)) hK hP rfl rfl) (qC_20 hts ⟨Nat.le_of_ble_eq_true rfl, Nat.le_of_ble_eq_true rfl⟩) (c_Nd_push l g H.size _ (r47) _ hw) rfl rfl (Nat.le_of_ble_eq_true rfl) d_Ma_perform_283 (fun S48 H locs hw hP hD hS => ?_)
                        refine lv_goto hx hb d_Ma_perform_286 (tgt := 311) (by decide) ?_
                        exact J311 S48  _ _ _ hw (lv_sub hl [] rfl) hP hD hS
                      · have hw := hw.2 hk45
                        by_cases hk49 : (swE.getD (Int32.toNatClampNeg (r20)) 0) = 11
                        · have hw := hw.1 hk49
                          refine sw_in hx hb d_Ma_perform_79 hk49 (tgt := 302) (off := 223) (by decide) (by decide) rfl (by decide) ?_
                          refine lv_aload_n hx hb d_Ma_perform_302 rfl (lv_at hl 4 rfl) ?_
                          refine lv_aload_n hx hb d_Ma_perform_303 rfl (lv_at hl 5 rfl) ?_
                          refine lv_iload hx hb d_Ma_perform_304 (lv_at hl 1 rfl) ?_
                          refine lv_iload hx hb d_Ma_perform_306 (lv_at hl 0 rfl) ?_
                          refine cC_vV (As := [.ref (a0), .int (r4), .int (r6)]) (rest := []) hx hb hml hown hts hK hC hN hP hD hS hA (Nat.zero_le _) (Nat.zero_le _) hl.1 (va_recv (q0 := 3) (ci := 5) (q := (R_Ma, F_Ma, 9)) hK hP rfl rfl) (qC_47 hts ⟨Nat.le_of_ble_eq_true rfl, Nat.le_of_ble_eq_true rfl⟩) (c_Ma_performOnMemory l g H.size _ (a0) (r4) (r6) _ hw) rfl rfl (Nat.le_of_ble_eq_true rfl) d_Ma_perform_308 (fun S50 H locs hw hP hD hS => ?_)
                          exact J311 S50  _ _ _ hw (lv_sub hl [] rfl) hP hD hS
                        · have hw := hw.2 hk49
                          by_cases hk51 : (swE.getD (Int32.toNatClampNeg (r20)) 0) = 12
                          · have hw := hw.1 hk51
                            refine sw_in hx hb d_Ma_perform_79 hk51 (tgt := 302) (off := 223) (by decide) (by decide) rfl (by decide) ?_
                            refine lv_aload_n hx hb d_Ma_perform_302 rfl (lv_at hl 4 rfl) ?_
                            refine lv_aload_n hx hb d_Ma_perform_303 rfl (lv_at hl 5 rfl) ?_
                            refine lv_iload hx hb d_Ma_perform_304 (lv_at hl 1 rfl) ?_
                            refine lv_iload hx hb d_Ma_perform_306 (lv_at hl 0 rfl) ?_
                            refine cC_vV (As := [.ref (a0), .int (r4), .int (r6)]) (rest := []) hx hb hml hown hts hK hC hN hP hD hS hA (Nat.zero_le _) (Nat.zero_le _) hl.1 (va_recv (q0 := 3) (ci := 5) (q := (R_Ma, F_Ma, 9)) hK hP rfl rfl) (qC_47 hts ⟨Nat.le_of_ble_eq_true rfl, Nat.le_of_ble_eq_true rfl⟩) (c_Ma_performOnMemory l g H.size _ (a0) (r4) (r6) _ hw) rfl rfl (Nat.le_of_ble_eq_true rfl) d_Ma_perform_308 (fun S52 H locs hw hP hD hS => ?_)
                            exact J311 S52  _ _ _ hw (lv_sub hl [] rfl) hP hD hS
                          · have hw := hw.2 hk51
                            by_cases hk53 : (swE.getD (Int32.toNatClampNeg (r20)) 0) = 13
                            · have hw := hw.1 hk53
                              refine sw_in hx hb d_Ma_perform_79 hk53 (tgt := 212) (off := 133) (by decide) (by decide) rfl (by decide) ?_
                              refine lv_aload_n hx hb d_Ma_perform_212 rfl (lv_at hl 4 rfl) ?_
                              refine va_get (D := g.1) (ci := 5) (v := .ref (g.2.2 6)) (C := R_Ma) (T := F_Ma) (N := 9) hx hb hts hin_Ma hown hK hP 3 rfl rfl 1 (by decide) (hts _ k_C_107) (fun _ h9 => h9) rfl d_Ma_perform_213 ?_
                              refine lv_iload hx hb d_Ma_perform_216 (lv_at hl 0 rfl) ?_
                              refine cC_vV (As := [.int (r6)]) (rest := []) hx hb hml hown hts hK hC hN hP hD hS hA (Nat.zero_le _) (Nat.zero_le _) hl.1 (va_recv (q0 := 6) (ci := 6) (q := (R_N, F_N, 2)) hK hP rfl rfl) (qC_49 hts ⟨Nat.le_of_ble_eq_true rfl, Nat.le_of_ble_eq_true rfl⟩) (c_Nr_push l g H.size _ (r6) _ hw) rfl rfl (Nat.le_of_ble_eq_true rfl) d_Ma_perform_218 (fun S54 H locs hw hP hD hS => ?_)
                              refine lv_goto hx hb d_Ma_perform_221 (tgt := 311) (by decide) ?_
                              exact J311 S54  _ _ _ hw (lv_sub hl [] rfl) hP hD hS
                            · have hw := hw.2 hk53
                              by_cases hk55 : (swE.getD (Int32.toNatClampNeg (r20)) 0) = 14
                              · have hw := hw.1 hk55
                                refine sw_in hx hb d_Ma_perform_79 hk55 (tgt := 176) (off := 97) (by decide) (by decide) rfl (by decide) ?_
                                refine lv_aload_n hx hb d_Ma_perform_176 rfl (lv_at hl 4 rfl) ?_
                                refine lv_aload_n hx hb d_Ma_perform_177 rfl (lv_at hl 5 rfl) ?_
                                refine lv_iload_n hx hb d_Ma_perform_178 rfl (lv_at hl 2 rfl) ?_
                                refine lv_iload hx hb d_Ma_perform_179 (lv_at hl 1 rfl) ?_
                                refine lv_iload hx hb d_Ma_perform_181 (lv_at hl 0 rfl) ?_
                                refine cC_vV (As := [.ref (a0), .int (r2), .int (r4), .int (r6)]) (rest := []) hx hb hml hown hts hK hC hN hP hD hS hA (Nat.zero_le _) (Nat.zero_le _) hl.1 (va_recv (q0 := 3) (ci := 5) (q := (R_Ma, F_Ma, 9)) hK hP rfl rfl) (qC_50 hts ⟨Nat.le_of_ble_eq_true rfl, Nat.le_of_ble_eq_true rfl⟩) (c_Ma_arrange l g H.size _ (a0) (r2) (r4) (r6) _ hw) rfl rfl (Nat.le_of_ble_eq_true rfl) d_Ma_perform_183 (fun S56 H locs hw hP hD hS => ?_)
                                refine lv_goto hx hb d_Ma_perform_186 (tgt := 311) (by decide) ?_
                                exact J311 S56  _ _ _ hw (lv_sub hl [] rfl) hP hD hS
                              · have hw := hw.2 hk55
                                by_cases hk57 : (swE.getD (Int32.toNatClampNeg (r20)) 0) = 15
                                · have hw := hw.1 hk57
                                  refine sw_in hx hb d_Ma_perform_79 hk57 (tgt := 176) (off := 97) (by decide) (by decide) rfl (by decide) ?_
                                  refine lv_aload_n hx hb d_Ma_perform_176 rfl (lv_at hl 4 rfl) ?_
                                  refine lv_aload_n hx hb d_Ma_perform_177 rfl (lv_at hl 5 rfl) ?_
                                  refine lv_iload_n hx hb d_Ma_perform_178 rfl (lv_at hl 2 rfl) ?_
                                  refine lv_iload hx hb d_Ma_perform_179 (lv_at hl 1 rfl) ?_
                                  refine lv_iload hx hb d_Ma_perform_181 (lv_at hl 0 rfl) ?_
                                  refine cC_vV (As := [.ref (a0), .int (r2), .int (r4), .int (r6)]) (rest := []) hx hb hml hown hts hK hC hN hP hD hS hA (Nat.zero_le _) (Nat.zero_le _) hl.1 (va_recv (q0 := 3) (ci := 5) (q := (R_Ma, F_Ma, 9)) hK hP rfl rfl) (qC_50 hts ⟨Nat.le_of_ble_eq_true rfl, Nat.le_of_ble_eq_true rfl⟩) (c_Ma_arrange l g H.size _ (a0) (r2) (r4) (r6) _ hw) rfl rfl (Nat.le_of_ble_eq_true rfl) d_Ma_perform_183 (fun S58 H locs hw hP hD hS => ?_)
                                  refine lv_goto hx hb d_Ma_perform_186 (tgt := 311) (by decide) ?_
                                  exact J311 S58  _ _ _ hw (lv_sub hl [] rfl) hP hD hS
                                · have hw := hw.2 hk57
                                  by_cases hk59 : (swE.getD (Int32.toNatClampNeg (r20)) 0) = 16
                                  · have hw := hw.1 hk59
                                    refine sw_in hx hb d_Ma_perform_79 hk59 (tgt := 176) (off := 97) (by decide) (by decide) rfl (by decide) ?_
                                    refine lv_aload_n hx hb d_Ma_perform_176 rfl (lv_at hl 4 rfl) ?_
                                    refine lv_aload_n hx hb d_Ma_perform_177 rfl (lv_at hl 5 rfl) ?_
                                    refine lv_iload_n hx hb d_Ma_perform_178 rfl (lv_at hl 2 rfl) ?_
                                    refine lv_iload hx hb d_Ma_perform_179 (lv_at hl 1 rfl) ?_
                                    refine lv_iload hx hb d_Ma_perform_181 (lv_at hl 0 rfl) ?_
                                    refine cC_vV (As := [.ref (a0), .int (r2), .int (r4), .int (r6)]) (rest := []) hx hb hml hown hts hK hC hN hP hD hS hA (Nat.zero_le _) (Nat.zero_le _) hl.1 (va_recv (q0 := 3) (ci := 5) (q := (R_Ma, F_Ma, 9)) hK hP rfl rfl) (qC_50 hts ⟨Nat.le_of_ble_eq_true rfl, Nat.le_of_ble_eq_true rfl⟩) (c_Ma_arrange l g H.size _ (a0) (r2) (r4) (r6) _ hw) rfl rfl (Nat.le_of_ble_eq_true rfl) d_Ma_perform_183 (fun S60 H locs hw hP hD hS => ?_)
                                    refine lv_goto hx hb d_Ma_perform_186 (tgt := 311) (by decide) ?_
                                    exact J311 S60  _ _ _ hw (lv_sub hl [] rfl) hP hD hS
                                  · have hw := hw.2 hk59
                                    by_cases hk61 : (swE.getD (Int32.toNatClampNeg (r20)) 0) = 17
                                    · have hw := hw.1 hk61
                                      refine sw_in hx hb d_Ma_perform_79 hk61 (tgt := 176) (off := 97) (by decide) (by decide) rfl (by decide) ?_
                                      refine lv_aload_n hx hb d_Ma_perform_176 rfl (lv_at hl 4 rfl) ?_
                                      refine lv_aload_n hx hb d_Ma_perform_177 rfl (lv_at hl 5 rfl) ?_
                                      refine lv_iload_n hx hb d_Ma_perform_178 rfl (lv_at hl 2 rfl) ?_
                                      refine lv_iload hx hb d_Ma_perform_179 (lv_at hl 1 rfl) ?_
                                      refine lv_iload hx hb d_Ma_perform_181 (lv_at hl 0 rfl) ?_
                                      refine cC_vV (As := [.ref (a0), .int (r2), .int (r4), .int (r6)]) (rest := []) hx hb hml hown hts hK hC hN hP hD hS hA (Nat.zero_le _) (Nat.zero_le _) hl.1 (va_recv (q0 := 3) (ci := 5) (q := (R_Ma, F_Ma, 9)) hK hP rfl rfl) (qC_50 hts ⟨Nat.le_of_ble_eq_true rfl, Nat.le_of_ble_eq_true rfl⟩) (c_Ma_arrange l g H.size _ (a0) (r2) (r4) (r6) _ hw) rfl rfl (Nat.le_of_ble_eq_true rfl) d_Ma_perform_183 (fun S62 H locs hw hP hD hS => ?_)
                                      refine lv_goto hx hb d_Ma_perform_186 (tgt := 311) (by decide) ?_
                                      exact J311 S62  _ _ _ hw (lv_sub hl [] rfl) hP hD hS
                                    · have hw := hw.2 hk61
                                      by_cases hk63 : (swE.getD (Int32.toNatClampNeg (r20)) 0) = 18
                                      · have hw := hw.1 hk63
                                        refine sw_in hx hb d_Ma_perform_79 hk63 (tgt := 189) (off := 110) (by decide) (by decide) rfl (by decide) ?_
                                        refine lv_goto hx hb d_Ma_perform_189 (tgt := 311) (by decide) ?_
                                        exact J311 S19  _ _ _ hw (lv_sub hl [] rfl) hP hD hS
                                      · have hw := hw.2 hk63
                                        by_cases hk64 : (swE.getD (Int32.toNatClampNeg (r20)) 0) = 19
                                        · have hw := hw.1 hk64
                                          refine sw_in hx hb d_Ma_perform_79 hk64 (tgt := 192) (off := 113) (by decide) (by decide) rfl (by decide) ?_
                                          refine lv_aload_n hx hb d_Ma_perform_192 rfl (lv_at hl 4 rfl) ?_
                                          refine va_get (D := g.1) (ci := 5) (v := .ref (g.2.2 4)) (C := R_Ma) (T := F_Ma) (N := 9) hx hb hts hin_Ma hown hK hP 3 rfl rfl 0 (by decide) (hts _ k_C_106) (fun _ h9 => h9) rfl d_Ma_perform_193 ?_
                                          refine lv_iload_n hx hb d_Ma_perform_196 rfl (lv_at hl 3 rfl) ?_
                                          refine cC_vV (As := [.int ((S.1 8))]) (rest := []) hx hb hml hown hts hK hC hN hP hD hS hA (Nat.zero_le _) (Nat.zero_le _) hl.1 (va_recv (q0 := 4) (ci := 6) (q := (R_N, F_N, 2)) hK hP rfl rfl) (qC_20 hts ⟨Nat.le_of_ble_eq_true rfl, Nat.le_of_ble_eq_true rfl⟩) (c_Nd_push l g H.size _ ((S.1 8)) _ hw) rfl rfl (Nat.le_of_ble_eq_true rfl) d_Ma_perform_197 (fun S65 H locs hw hP hD hS => ?_)
                                          refine lv_goto hx hb d_Ma_perform_200 (tgt := 311) (by decide) ?_
                                          exact J311 S65  _ _ _ hw (lv_sub hl [] rfl) hP hD hS
                                        · have hw := hw.2 hk64
                                          by_cases hk66 : (swE.getD (Int32.toNatClampNeg (r20)) 0) = 20
                                          · have hw := hw.1 hk66
                                            refine sw_in hx hb d_Ma_perform_79 hk66 (tgt := 203) (off := 124) (by decide) (by decide) rfl (by decide) ?_
                                            refine lv_aload_n hx hb d_Ma_perform_203 rfl (lv_at hl 4 rfl) ?_
                                            refine lv_iload hx hb d_Ma_perform_204 (lv_at hl 0 rfl) ?_
                                            refine cC_vV (As := [.int (r6)]) (rest := []) hx hb hml hown hts hK hC hN hP hD hS hA (Nat.zero_le _) (Nat.zero_le _) hl.1 (va_recv (q0 := 3) (ci := 5) (q := (R_Ma, F_Ma, 9)) hK hP rfl rfl) (qC_51 hts ⟨Nat.le_of_ble_eq_true rfl, Nat.le_of_ble_eq_true rfl⟩) (c_Ma_keep l g H.size _ (r6) _ hw) rfl rfl (Nat.le_of_ble_eq_true rfl) d_Ma_perform_206 (fun S67 H locs hw hP hD hS => ?_)
                                            refine lv_goto hx hb d_Ma_perform_209 (tgt := 311) (by decide) ?_
                                            exact J311 S67  _ _ _ hw (lv_sub hl [] rfl) hP hD hS
                                          · have hw := hw.2 hk66
                                            by_cases hk68 : (swE.getD (Int32.toNatClampNeg (r20)) 0) = 21
                                            · have hw := hw.1 hk68
                                              refine sw_in hx hb d_Ma_perform_79 hk68 (tgt := 289) (off := 210) (by decide) (by decide) rfl (by decide) ?_
                                              refine lv_aload_n hx hb d_Ma_perform_289 rfl (lv_at hl 4 rfl) ?_
                                              refine lv_dup hx hb d_Ma_perform_290 rfl ?_
                                              refine va_get (D := g.1) (ci := 5) (v := .int ((S19.1 5))) (C := R_Ma) (T := F_Ma) (N := 9) hx hb hts hin_Ma hown hK hP 3 rfl rfl 5 (by decide) (hts _ k_C_111) (fun _ h9 => h9) rfl d_Ma_perform_291 ?_
                                              refine lv_iconst (v := 1) hx hb d_Ma_perform_294 (by decide) ?_
                                              refine lv_isub hx hb d_Ma_perform_295 ?_
                                              refine pt_C (S2 := ((upd S19.1 5 (((S19.1 5) - 1))), S19.2)) (v := .int (((S19.1 5) - 1))) (C := R_Ma) (F := F_Ma) (N := 9) (ci := 5) hx hb hts hin_Ma t_Ma t_Ma_ok n_Ma hown hK hP hD hS 3 rfl rfl 5 (by decide) rfl rfl rfl (Nat.le_of_ble_eq_true rfl) (sI_C_5 g _ _) k_C_111 d_Ma_perform_296 (fun H locs hP hD hS => ?_)
                                              refine lv_goto hx hb d_Ma_perform_299 (tgt := 311) (by decide) ?_
                                              exact J311 ((upd S19.1 5 (((S19.1 5) - 1))), S19.2)  _ _ _ hw (lv_sub hl [] rfl) hP hD hS
                                            · have hw := hw.2 hk68
                                              have n0 := lv_neT hk21 (by decide : (1 : Int32).toInt = 1)
                                              have n1 := lv_neT hk25 (by decide : (2 : Int32).toInt = 2)
                                              have n2 := lv_neT hk29 (by decide : (3 : Int32).toInt = 3)
                                              have n3 := lv_neT hk31 (by decide : (4 : Int32).toInt = 4)
                                              have n4 := lv_neT hk33 (by decide : (5 : Int32).toInt = 5)
                                              have n5 := lv_neT hk35 (by decide : (6 : Int32).toInt = 6)
                                              have n6 := lv_neT hk37 (by decide : (7 : Int32).toInt = 7)
                                              have n7 := lv_neT hk39 (by decide : (8 : Int32).toInt = 8)
                                              have n8 := lv_neT hk41 (by decide : (9 : Int32).toInt = 9)
                                              have n9 := lv_neT hk45 (by decide : (10 : Int32).toInt = 10)
                                              have n10 := lv_neT hk49 (by decide : (11 : Int32).toInt = 11)
                                              have n11 := lv_neT hk51 (by decide : (12 : Int32).toInt = 12)
                                              have n12 := lv_neT hk53 (by decide : (13 : Int32).toInt = 13)
                                              have n13 := lv_neT hk55 (by decide : (14 : Int32).toInt = 14)
                                              have n14 := lv_neT hk57 (by decide : (15 : Int32).toInt = 15)
                                              have n15 := lv_neT hk59 (by decide : (16 : Int32).toInt = 16)
                                              have n16 := lv_neT hk61 (by decide : (17 : Int32).toInt = 17)
                                              have n17 := lv_neT hk63 (by decide : (18 : Int32).toInt = 18)
                                              have n18 := lv_neT hk64 (by decide : (19 : Int32).toInt = 19)
                                              have n19 := lv_neT hk66 (by decide : (20 : Int32).toInt = 20)
                                              have n20 := lv_neT hk68 (by decide : (21 : Int32).toInt = 21)
                                              refine lv_tableOut hx hb d_Ma_perform_79 (tgt := 302) (by omega) (by decide) ?_
                                              refine lv_aload_n hx hb d_Ma_perform_302 rfl (lv_at hl 4 rfl) ?_
                                              refine lv_aload_n hx hb d_Ma_perform_303 rfl (lv_at hl 5 rfl) ?_
                                              refine lv_iload hx hb d_Ma_perform_304 (lv_at hl 1 rfl) ?_
                                              refine lv_iload hx hb d_Ma_perform_306 (lv_at hl 0 rfl) ?_
                                              refine cC_vV (As := [.ref (a0), .int (r4), .int (r6)]) (rest := []) hx hb hml hown hts hK hC hN hP hD hS hA (Nat.zero_le _) (Nat.zero_le _) hl.1 (va_recv (q0 := 3) (ci := 5) (q := (R_Ma, F_Ma, 9)) hK hP rfl rfl) (qC_47 hts ⟨Nat.le_of_ble_eq_true rfl, Nat.le_of_ble_eq_true rfl⟩) (c_Ma_performOnMemory l g H.size _ (a0) (r4) (r6) _ hw) rfl rfl (Nat.le_of_ble_eq_true rfl) d_Ma_perform_308 (fun S69 H locs hw hP hD hS => ?_)
                                              exact J311 S69  _ _ _ hw (lv_sub hl [] rfl) hP hD hS
  · have hw := hw.2 hc
    refine lv_aload_n hx hb d_Ma_perform_55 rfl (lv_at hl 4 rfl) ?_
    refine va_get (D := g.1) (ci := 5) (v := .ref (g.2.2 4)) (C := R_Ma) (T := F_Ma) (N := 9) hx hb hts hin_Ma hown hK hP 3 rfl rfl 0 (by decide) (hts _ k_C_106) (fun _ h9 => h9) rfl d_Ma_perform_56 ?_
    refine lv_aload_n hx hb d_Ma_perform_59 rfl (lv_at hl 5 rfl) ?_
    refine lv_iload hx hb d_Ma_perform_60 (lv_at hl 1 rfl) ?_
    refine lv_iload hx hb d_Ma_perform_62 (lv_at hl 0 rfl) ?_
    refine cC_iS (As := [.ref (a0), .int (r4), .int (r6)]) (rest := [.ref (g.2.2 4)]) hx hb hml hown hts hK hC hN hP hD hS hA (Nat.zero_le _) (Nat.zero_le _) hl.1  (qC_52 hts ⟨Nat.le_of_ble_eq_true rfl, Nat.le_of_ble_eq_true rfl⟩) (c_Ma_calculate l g H.size _ (a0) (r4) (r6) _ hw) rfl rfl (Nat.le_of_ble_eq_true rfl) d_Ma_perform_64 (fun r71 S70 H locs hw hP hD hS => ?_)
    refine cC_vV (As := [.int (r71)]) (rest := []) hx hb hml hown hts hK hC hN hP hD hS hA (Nat.zero_le _) (Nat.zero_le _) hl.1 (va_recv (q0 := 4) (ci := 6) (q := (R_N, F_N, 2)) hK hP rfl rfl) (qC_20 hts ⟨Nat.le_of_ble_eq_true rfl, Nat.le_of_ble_eq_true rfl⟩) (c_Nd_push l g H.size _ (r71) _ hw) rfl rfl (Nat.le_of_ble_eq_true rfl) d_Ma_perform_67 (fun S72 H locs hw hP hD hS => ?_)
    exact kr S72 _ _ _ _ hw hP hD hS d_Ma_perform_70
theorem qC_53 {R : Room} {s : State} {args : Array Value} (hts : ∀ w ∈ w_C, w.before args s = true) (hR : (rmM 1 21).frames + 1 ≤ R.frames ∧ 8 + (2 + 11) + (rmM 1 21).locals ≤ R.locals) : CallW R s args "WordSmith$Machine" R_Ma 140 y_Ma_beginCall b_Ma_beginCall 2 (some .int) (.code y_Ma_beginCall b_Ma_beginCall 2 (some .int) :: w_C) (rmM 1 21) 0 0 1 := ⟨callB_of 1 hts (good_C k_C_596) rfl rfl rfl (hts _ k_C_6) (hts _ k_C_594) ⟨by decide +kernel, by decide +kernel, by decide +kernel⟩ hR, hts _ k_C_595, hts _ k_C_795⟩
theorem qC_54 {R : Room} {s : State} {args : Array Value} (hts : ∀ w ∈ w_C, w.before args s = true) (hR : (rmM 2 45).frames + 1 ≤ R.frames ∧ 8 + (4 + 11) + (rmM 2 45).locals ≤ R.locals) : CallW R s args "WordSmith$Machine" R_Ma 144 y_Ma_lack b_Ma_lack 4 (some .int) (.code y_Ma_lack b_Ma_lack 4 (some .int) :: w_C) (rmM 2 45) 0 0 1 := ⟨callB_of 1 hts (good_C k_C_603) rfl rfl rfl (hts _ k_C_6) (hts _ k_C_601) ⟨by decide +kernel, by decide +kernel, by decide +kernel⟩ hR, hts _ k_C_602, hts _ k_C_796⟩
theorem qC_55 {R : Room} {s : State} {args : Array Value} (hts : ∀ w ∈ w_C, w.before args s = true) (hR : (rmM 4 107).frames + 1 ≤ R.frames ∧ 8 + (6 + 11) + (rmM 4 107).locals ≤ R.locals) : CallW R s args "WordSmith$Machine" R_Ma 148 y_Ma_perform b_Ma_perform 6 none (.code y_Ma_perform b_Ma_perform 6 none :: w_C) (rmM 4 107) 0 0 1 := ⟨callB_of 1 hts (good_C k_C_628) rfl rfl rfl (hts _ k_C_6) (hts _ k_C_626) ⟨by decide +kernel, by decide +kernel, by decide +kernel⟩ hR, hts _ k_C_627, hts _ k_C_799⟩
theorem qC_56 {R : Room} {s : State} {args : Array Value} (hts : ∀ w ∈ w_C, w.before args s = true) (hR : (rmM 0 0).frames + 1 ≤ R.frames ∧ 8 + (1 + 11) + (rmM 0 0).locals ≤ R.locals) : CallW R s args "WordSmith$Machine" R_N 97 y_N_pop b_N_pop 1 (some .int) (.code y_N_pop b_N_pop 1 (some .int) :: w_C) (rmM 0 0) 0 0 0 := ⟨callB_of 0 hts (good_C k_C_516) rfl rfl rfl (hts _ k_C_7) (hts _ k_C_586) ⟨by decide +kernel, by decide +kernel, by decide +kernel⟩ hR, hts _ k_C_514, hts _ k_C_515⟩
theorem qC_57 {R : Room} {s : State} {args : Array Value} (hts : ∀ w ∈ w_C, w.before args s = true) (hR : (rmM 1 22).frames + 1 ≤ R.frames ∧ 8 + (3 + 11) + (rmM 1 22).locals ≤ R.locals) : CallW R s args "WordSmith$Machine" R_Ma 129 y_Ma_isExecutable b_Ma_isExecutable 3 (some .boolean) (.code y_Ma_isExecutable b_Ma_isExecutable 3 (some .boolean) :: w_C) (rmM 1 22) 0 0 1 := ⟨callB_of 1 hts (good_C k_C_589) rfl rfl rfl (hts _ k_C_6) (hts _ k_C_587) ⟨by decide +kernel, by decide +kernel, by decide +kernel⟩ hR, hts _ k_C_588, hts _ k_C_794⟩
theorem d_Ma_start_0 : decode b_Ma_start 0 = .ok (.iload_n 1, 1) := by decide +kernel
theorem d_Ma_start_1 : decode b_Ma_start 1 = .ok (.istore_n 2, 1) := by decide +kernel
theorem d_Ma_start_2 : decode b_Ma_start 2 = .ok (.iconst 0, 1) := by decide +kernel
theorem d_Ma_start_3 : decode b_Ma_start 3 = .ok (.istore_n 3, 1) := by decide +kernel
theorem d_Ma_start_4 : decode b_Ma_start 4 = .ok (.iload_n 3, 1) := by decide +kernel
theorem d_Ma_start_5 : decode b_Ma_start 5 = .ok (.bipush 24, 2) := by decide +kernel
theorem d_Ma_start_7 : decode b_Ma_start 7 = .ok (.if_icmp .gt 49, 3) := by decide +kernel
theorem d_Ma_start_10 : decode b_Ma_start 10 = .ok (.iload_n 2, 1) := by decide +kernel
theorem d_Ma_start_11 : decode b_Ma_start 11 = .ok (.getstatic 120, 3) := by decide +kernel
theorem d_Ma_start_14 : decode b_Ma_start 14 = .ok (.getfield 126, 3) := by decide +kernel
theorem d_Ma_start_17 : decode b_Ma_start 17 = .ok (.if_icmp .ne 39, 3) := by decide +kernel
theorem d_Ma_start_20 : decode b_Ma_start 20 = .ok (.aload_n 0, 1) := by decide +kernel
theorem d_Ma_start_21 : decode b_Ma_start 21 = .ok (.getfield 12, 3) := by decide +kernel
theorem d_Ma_start_24 : decode b_Ma_start 24 = .ok (.getfield 96, 3) := by decide +kernel
theorem d_Ma_start_27 : decode b_Ma_start 27 = .ok (.ifCond .ne 5, 3) := by decide +kernel
theorem d_Ma_start_30 : decode b_Ma_start 30 = .ok (.iconst 2, 1) := by decide +kernel
theorem d_Ma_start_31 : decode b_Ma_start 31 = .ok (.ireturn, 1) := by decide +kernel
theorem d_Ma_start_32 : decode b_Ma_start 32 = .ok (.aload_n 0, 1) := by decide +kernel
theorem d_Ma_start_33 : decode b_Ma_start 33 = .ok (.getfield 12, 3) := by decide +kernel
theorem d_Ma_start_36 : decode b_Ma_start 36 = .ok (.invokevirtual 97, 3) := by decide +kernel
theorem d_Ma_start_39 : decode b_Ma_start 39 = .ok (.istore_n 2, 1) := by decide +kernel
theorem d_Ma_start_40 : decode b_Ma_start 40 = .ok (.aload_n 0, 1) := by decide +kernel
theorem d_Ma_start_41 : decode b_Ma_start 41 = .ok (.iload_n 2, 1) := by decide +kernel
theorem d_Ma_start_42 : decode b_Ma_start 42 = .ok (.invokevirtual 129, 3) := by decide +kernel
theorem d_Ma_start_45 : decode b_Ma_start 45 = .ok (.ifCond .ne 5, 3) := by decide +kernel
theorem d_Ma_start_48 : decode b_Ma_start 48 = .ok (.iconst 5, 1) := by decide +kernel
theorem d_Ma_start_49 : decode b_Ma_start 49 = .ok (.ireturn, 1) := by decide +kernel
theorem d_Ma_start_50 : decode b_Ma_start 50 = .ok (.iinc 3 1, 3) := by decide +kernel
theorem d_Ma_start_53 : decode b_Ma_start 53 = .ok (.goto (-49), 3) := by decide +kernel
theorem d_Ma_start_56 : decode b_Ma_start 56 = .ok (.iload_n 2, 1) := by decide +kernel
theorem d_Ma_start_57 : decode b_Ma_start 57 = .ok (.invokestatic 133, 3) := by decide +kernel
theorem d_Ma_start_60 : decode b_Ma_start 60 = .ok (.astore_n 3, 1) := by decide +kernel
theorem d_Ma_start_61 : decode b_Ma_start 61 = .ok (.aload_n 3, 1) := by decide +kernel
theorem d_Ma_start_62 : decode b_Ma_start 62 = .ok (.ifnonnull 16, 3) := by decide +kernel
theorem d_Ma_start_65 : decode b_Ma_start 65 = .ok (.aload_n 0, 1) := by decide +kernel
theorem d_Ma_start_66 : decode b_Ma_start 66 = .ok (.aload_n 0, 1) := by decide +kernel
theorem d_Ma_start_67 : decode b_Ma_start 67 = .ok (.getfield 31, 3) := by decide +kernel
theorem d_Ma_start_70 : decode b_Ma_start 70 = .ok (.iload_n 2, 1) := by decide +kernel
theorem d_Ma_start_71 : decode b_Ma_start 71 = .ok (.invokevirtual 137, 3) := by decide +kernel
theorem d_Ma_start_74 : decode b_Ma_start 74 = .ok (.invokevirtual 140, 3) := by decide +kernel
theorem d_Ma_start_77 : decode b_Ma_start 77 = .ok (.ireturn, 1) := by decide +kernel
theorem d_Ma_start_78 : decode b_Ma_start 78 = .ok (.aload_n 0, 1) := by decide +kernel
theorem d_Ma_start_79 : decode b_Ma_start 79 = .ok (.aload_n 3, 1) := by decide +kernel
theorem d_Ma_start_80 : decode b_Ma_start 80 = .ok (.invokevirtual 144, 3) := by decide +kernel
theorem d_Ma_start_83 : decode b_Ma_start 83 = .ok (.istore 4, 2) := by decide +kernel
theorem d_Ma_start_85 : decode b_Ma_start 85 = .ok (.iload 4, 2) := by decide +kernel
theorem d_Ma_start_87 : decode b_Ma_start 87 = .ok (.ifCond .ne 8, 3) := by decide +kernel
theorem d_Ma_start_90 : decode b_Ma_start 90 = .ok (.aload_n 0, 1) := by decide +kernel
theorem d_Ma_start_91 : decode b_Ma_start 91 = .ok (.aload_n 3, 1) := by decide +kernel
theorem d_Ma_start_92 : decode b_Ma_start 92 = .ok (.invokevirtual 148, 3) := by decide +kernel
theorem d_Ma_start_95 : decode b_Ma_start 95 = .ok (.iload 4, 2) := by decide +kernel
theorem d_Ma_start_97 : decode b_Ma_start 97 = .ok (.ireturn, 1) := by decide +kernel
def wq_Ma_start_95 (g : Gm) (post : Int32 → StC → Prop)  (S : StC) (x4 : Int32) : Prop :=
  post (x4) S
def wq_Ma_start_56 (g : Gm) (post : Int32 → StC → Prop)  (S : StC) (x2 : Int32) : Prop :=
  wp_Bi_numbered g (fun (r2 : Option Nat) (S1 : StC) => (((r2) = none → wp_Di_word g (fun (r6 : Option Nat) (S5 : StC) => (wp_Ma_beginCall g (fun (r8 : Int32) (S7 : StC) => (post (r8) S7)) S5 (r6))) S1 (x2)) ∧ (∀ y3 : Nat, (r2) = some y3 → wp_Ma_lack g (fun (r10 : Int32) (S9 : StC) => (((r10 = 0) → wp_Ma_perform g (fun S11 : StC => (wq_Ma_start_95 g post  S11 (r10))) S9 (y3)) ∧ (¬ (r10 = 0) → wq_Ma_start_95 g post  S9 (r10)))) S1 (y3)))) S (x2)
def wq_Ma_start_4 (g : Gm) (post : Int32 → StC → Prop)  : Nat → StC → Int32 → Int32 → Prop
  | 0, _, _, _ => False
  | n4 + 1, S, x2, x3 =>
    ((24 < x3) → wq_Ma_start_56 g post  S (x2)) ∧ (¬ (24 < x3) → ((x2 = (numE.getD 31 0)) → (((S.1 8) = 0) → post (2) S) ∧ (¬ ((S.1 8) = 0) → wp_Nd_pop g (fun (r13 : Int32) (S12 : StC) => (wp_Ma_isExecutable g (fun (r15 : Int32) (S14 : StC) => (((r15 = 0) → post (5) S14) ∧ (¬ (r15 = 0) → (wq_Ma_start_4 g post  n4) S14 (r13) ((x3 + 1))))) S12 (r13))) S )) ∧ (¬ (x2 = (numE.getD 31 0)) → wq_Ma_start_56 g post  S (x2)))
def wp_Ma_start (g : Gm) (post : Int32 → StC → Prop) (S : StC) (a0 : Int32) : Prop :=
  ∃ nn : Nat, wq_Ma_start_4 g post  nn S (a0) (0)
set_option maxRecDepth 100000 in
set_option maxHeartbeats 4000000 in
theorem c_Ma_start (l : Launch) (g : Gm) (sz : Nat) (S : StC) (a0 : Int32) (post : Int32 → StC → Prop) (hw : wp_Ma_start g post S a0) : Met l y_Ma_start (.code y_Ma_start b_Ma_start 5 (some .int) :: w_C) (rmM 5 132) (va_Pc [.ref (g.2.2 3), .int (a0)] (PC g sz S)) (va_Qi post (BC g (AC g sz S)) (AC g sz S)) 0 0 (AC g sz S) := by
  refine ofC_i (by decide) (Nat.le_of_ble_eq_true rfl) (fun p e s m args below meth c Q A H locs ls hx hb hml hts hown hK hA hC hN kr hl hP hD hS => ?_)
  have hl : lv_has ls 5 [(0, .ref (g.2.2 3)), (1, .int (a0))] := hl
  unfold wp_Ma_start at hw
  have J95 : ∀ (S : StC) (x4 : Int32) (H : Heap) (locs : List Loc) (ls : Array Slot), wq_Ma_start_95 g post  S x4 → lv_has ls 5 [(4, .int (x4))] → va_P g.1 classes (wC g S) H → va_D A (wC g S) → va_S A s.heap H locs → W p l e (rmM 5 132) s m args below meth c H locs 0 0 Q (F0 m 95 ls []) := by
    intro S x4 H locs ls hw hl hP hD hS
    unfold wq_Ma_start_95 at hw
    refine lv_iload hx hb d_Ma_start_95 (lv_at hl 0 rfl) ?_
    exact kr (x4) S _ _ _ _ hw hP hD hS d_Ma_start_97
  have J56 : ∀ (S : StC) (x2 : Int32) (H : Heap) (locs : List Loc) (ls : Array Slot), wq_Ma_start_56 g post  S x2 → lv_has ls 5 [(0, .ref (g.2.2 3)), (2, .int (x2))] → va_P g.1 classes (wC g S) H → va_D A (wC g S) → va_S A s.heap H locs → W p l e (rmM 5 132) s m args below meth c H locs 0 0 Q (F0 m 56 ls []) := by
    intro S x2 H locs ls hw hl hP hD hS
    unfold wq_Ma_start_56 at hw
    refine lv_iload_n hx hb d_Ma_start_56 rfl (lv_at hl 1 rfl) ?_
    refine cC_qS (As := [.int (x2)]) (rest := []) hx hb hml hown hts hK hC hN hP hD hS hA (Nat.zero_le _) (Nat.zero_le _) hl.1  (qC_21 hts ⟨Nat.le_of_ble_eq_true rfl, Nat.le_of_ble_eq_true rfl⟩) (c_Bi_numbered l g H.size _ (x2) _ hw) rfl rfl (Nat.le_of_ble_eq_true rfl) d_Ma_start_57 (fun r2 S1 H locs hw hP hD hS => ?_)
    refine lv_astore_nq (lv' := [(3, va_rf (r2)), (0, .ref (g.2.2 3)), (2, .int (x2))]) hx hb d_Ma_start_60 rfl hl (by decide) rfl (fun ls hl => ?_)
    refine lv_aload_nq hx hb d_Ma_start_61 rfl (lv_at hl 0 rfl) ?_
    refine lv_ifnonnullq hx hb d_Ma_start_62 (tgt := 78) (by decide) (fun y3 hq4 => ?_) (fun hq4 => ?_)
    · have hw := hw.2 y3 hq4
      have hl : lv_has ls 5 [(3, .ref (y3)), (0, .ref (g.2.2 3)), (2, .int (x2))] := by rw [hq4] at hl; exact hl
      refine lv_aload_n hx hb d_Ma_start_78 rfl (lv_at hl 1 rfl) ?_
      refine lv_aload_n hx hb d_Ma_start_79 rfl (lv_at hl 0 rfl) ?_
      refine cC_iV (As := [.ref (y3)]) (rest := []) hx hb hml hown hts hK hC hN hP hD hS hA (Nat.zero_le _) (Nat.zero_le _) hl.1 (va_recv (q0 := 3) (ci := 5) (q := (R_Ma, F_Ma, 9)) hK hP rfl rfl) (qC_54 hts ⟨Nat.le_of_ble_eq_true rfl, Nat.le_of_ble_eq_true rfl⟩) (c_Ma_lack l g H.size _ (y3) _ hw) rfl rfl (Nat.le_of_ble_eq_true rfl) d_Ma_start_80 (fun r10 S9 H locs hw hP hD hS => ?_)
      refine lv_istore (lv' := [(4, .int (r10)), (3, .ref (y3)), (0, .ref (g.2.2 3)), (2, .int (x2))]) hx hb d_Ma_start_83 hl (by decide) rfl (fun ls hl => ?_)
      refine lv_iload hx hb d_Ma_start_85 (lv_at hl 0 rfl) ?_
      refine lv_if_ne hx hb d_Ma_start_87 (tgt := 95) (by decide) (fun hc => ?_) (fun hc => ?_)
      · have hw := hw.2 hc
        exact J95 S9 (r10) _ _ _ hw (lv_sub hl [0] rfl) hP hD hS
      · have hw := hw.1 hc
        refine lv_aload_n hx hb d_Ma_start_90 rfl (lv_at hl 2 rfl) ?_
        refine lv_aload_n hx hb d_Ma_start_91 rfl (lv_at hl 1 rfl) ?_
        refine cC_vV (As := [.ref (y3)]) (rest := []) hx hb hml hown hts hK hC hN hP hD hS hA (Nat.zero_le _) (Nat.zero_le _) hl.1 (va_recv (q0 := 3) (ci := 5) (q := (R_Ma, F_Ma, 9)) hK hP rfl rfl) (qC_55 hts ⟨Nat.le_of_ble_eq_true rfl, Nat.le_of_ble_eq_true rfl⟩) (c_Ma_perform l g H.size _ (y3) _ hw) rfl rfl (Nat.le_of_ble_eq_true rfl) d_Ma_start_92 (fun S11 H locs hw hP hD hS => ?_)
        exact J95 S11 (r10) _ _ _ hw (lv_sub hl [0] rfl) hP hD hS
    · have hw := hw.1 hq4
      have hl : lv_has ls 5 [(3, .null), (0, .ref (g.2.2 3)), (2, .int (x2))] := by rw [hq4] at hl; exact hl
      refine lv_aload_n hx hb d_Ma_start_65 rfl (lv_at hl 1 rfl) ?_
      refine lv_aload_n hx hb d_Ma_start_66 rfl (lv_at hl 1 rfl) ?_
      refine va_get (D := g.1) (ci := 5) (v := .ref (g.2.2 13)) (C := R_Ma) (T := F_Ma) (N := 9) hx hb hts hin_Ma hown hK hP 3 rfl rfl 3 (by decide) (hts _ k_C_109) (fun _ h9 => h9) rfl d_Ma_start_67 ?_
      refine lv_iload_n hx hb d_Ma_start_70 rfl (lv_at hl 2 rfl) ?_
      refine cC_qV (As := [.int (x2)]) (rest := [.ref (g.2.2 3)]) hx hb hml hown hts hK hC hN hP hD hS hA (Nat.zero_le _) (Nat.zero_le _) hl.1 (va_recv (q0 := 13) (ci := 8) (q := (R_Di, F_Di, 2)) hK hP rfl rfl) (qC_22 hts ⟨Nat.le_of_ble_eq_true rfl, Nat.le_of_ble_eq_true rfl⟩) (c_Di_word l g H.size _ (x2) _ hw) rfl rfl (Nat.le_of_ble_eq_true rfl) d_Ma_start_71 (fun r6 S5 H locs hw hP hD hS => ?_)
      refine cC_iV (As := [va_rf (r6)]) (rest := []) hx hb hml hown hts hK hC hN hP hD hS hA (Nat.zero_le _) (Nat.zero_le _) hl.1 (va_recv (q0 := 3) (ci := 5) (q := (R_Ma, F_Ma, 9)) hK hP rfl rfl) (qC_53 hts ⟨Nat.le_of_ble_eq_true rfl, Nat.le_of_ble_eq_true rfl⟩) (c_Ma_beginCall l g H.size _ (r6) _ hw) rfl rfl (Nat.le_of_ble_eq_true rfl) d_Ma_start_74 (fun r8 S7 H locs hw hP hD hS => ?_)
      exact kr (r8) S7 _ _ _ _ hw hP hD hS d_Ma_start_77
  have J4 : ∀ (n4 : Nat), ∀ (S : StC) (x2 : Int32) (x3 : Int32) (H : Heap) (locs : List Loc) (ls : Array Slot), wq_Ma_start_4 g post  n4 S x2 x3 → lv_has ls 5 [(0, .ref (g.2.2 3)), (2, .int (x2)), (3, .int (x3))] → va_P g.1 classes (wC g S) H → va_D A (wC g S) → va_S A s.heap H locs → W p l e (rmM 5 132) s m args below meth c H locs 0 0 Q (F0 m 4 ls []) := by
    intro n4
    induction n4 with
    | zero => intro S x2 x3 H locs ls hw; exact hw.elim
    | succ n4 ih4 =>
      intro S x2 x3 H locs ls hw hl hP hD hS
      unfold wq_Ma_start_4 at hw
      refine lv_iload_n hx hb d_Ma_start_4 rfl (lv_at hl 2 rfl) ?_
      refine lv_bipush (v := 24) hx hb d_Ma_start_5 (by decide) ?_
      refine lv_icmp_gt hx hb d_Ma_start_7 (tgt := 56) (by decide) (fun hc => ?_) (fun hc => ?_)
      · have hw := hw.1 hc
        exact J56 S (x2) _ _ _ hw (lv_sub hl [0, 1] rfl) hP hD hS
      · have hw := hw.2 hc
        refine lv_iload_n hx hb d_Ma_start_10 rfl (lv_at hl 1 rfl) ?_
        refine va_gets (C := "WordSmith$BuiltIn") (n := "EXECUTE") (d := "LWordSmith$BuiltIn;") (v := .ref ((g.2.2 131))) hx hb (hC.1.1.1 31 (by decide)).1 hS hown (hts _ k_C_585) (fun _ h9 => h9) d_Ma_start_11 ?_
        refine ge_C (i := 31) (q := fe_number) hx hb hts hC hS hown rfl (by decide) fe_number_in k_C_776 d_Ma_start_14 ?_
        refine lv_icmp_ne hx hb d_Ma_start_17 (tgt := 56) (by decide) (fun hc => ?_) (fun hc => ?_)
        · have hw := hw.2 hc
          exact J56 S (x2) _ _ _ hw (lv_sub hl [0, 1] rfl) hP hD hS
        · have hw := hw.1 hc
          refine lv_aload_n hx hb d_Ma_start_20 rfl (lv_at hl 0 rfl) ?_
          refine va_get (D := g.1) (ci := 5) (v := .ref (g.2.2 4)) (C := R_Ma) (T := F_Ma) (N := 9) hx hb hts hin_Ma hown hK hP 3 rfl rfl 0 (by decide) (hts _ k_C_106) (fun _ h9 => h9) rfl d_Ma_start_21 ?_
          refine va_getN (D := g.1) (ci := 6) (v := .int ((S.1 8))) (C := R_N) (T := F_N) (N := 2) hx hb hts hin_N hown hK hP 4 rfl rfl 1 (by decide) (va_Nw.use rfl (hN.1 _ kn_C_3)) (fun _ h9 => h9) rfl d_Ma_start_24 ?_
          refine lv_if_ne hx hb d_Ma_start_27 (tgt := 32) (by decide) (fun hc => ?_) (fun hc => ?_)
          · have hw := hw.2 hc
            refine lv_aload_n hx hb d_Ma_start_32 rfl (lv_at hl 0 rfl) ?_
            refine va_get (D := g.1) (ci := 5) (v := .ref (g.2.2 4)) (C := R_Ma) (T := F_Ma) (N := 9) hx hb hts hin_Ma hown hK hP 3 rfl rfl 0 (by decide) (hts _ k_C_106) (fun _ h9 => h9) rfl d_Ma_start_33 ?_
            refine cC_iV (As := []) (rest := []) hx hb hml hown hts hK hC hN hP hD hS hA (Nat.zero_le _) (Nat.zero_le _) hl.1 (va_recv (q0 := 4) (ci := 6) (q := (R_N, F_N, 2)) hK hP rfl rfl) (qC_56 hts ⟨Nat.le_of_ble_eq_true rfl, Nat.le_of_ble_eq_true rfl⟩) (c_Nd_pop l g H.size _  _ hw) rfl rfl (Nat.le_of_ble_eq_true rfl) d_Ma_start_36 (fun r13 S12 H locs hw hP hD hS => ?_)
            refine lv_istore_n (lv' := [(2, .int (r13)), (0, .ref (g.2.2 3)), (3, .int (x3))]) hx hb d_Ma_start_39 rfl hl (by decide) rfl (fun ls hl => ?_)
            refine lv_aload_n hx hb d_Ma_start_40 rfl (lv_at hl 1 rfl) ?_
            refine lv_iload_n hx hb d_Ma_start_41 rfl (lv_at hl 0 rfl) ?_
            refine cC_iV (As := [.int (r13)]) (rest := []) hx hb hml hown hts hK hC hN hP hD hS hA (Nat.zero_le _) (Nat.zero_le _) hl.1 (va_recv (q0 := 3) (ci := 5) (q := (R_Ma, F_Ma, 9)) hK hP rfl rfl) (qC_57 hts ⟨Nat.le_of_ble_eq_true rfl, Nat.le_of_ble_eq_true rfl⟩) (c_Ma_isExecutable l g H.size _ (r13) _ hw) rfl rfl (Nat.le_of_ble_eq_true rfl) d_Ma_start_42 (fun r15 S14 H locs hw hP hD hS => ?_)
            refine lv_if_ne hx hb d_Ma_start_45 (tgt := 50) (by decide) (fun hc => ?_) (fun hc => ?_)
            · have hw := hw.2 hc
              refine lv_iinc (k := 2) (v := (x3 + 1)) (lv' := [(3, .int ((x3 + 1))), (2, .int (r13)), (0, .ref (g.2.2 3))]) hx hb d_Ma_start_50 hl rfl rfl (by decide) rfl (fun ls hl => ?_)
              refine lv_goto hx hb d_Ma_start_53 (tgt := 4) (by decide) ?_
              exact ih4 S14 (r13) ((x3 + 1)) _ _ _ hw (lv_sub hl [2, 1, 0] rfl) hP hD hS
            · have hw := hw.1 hc
              refine lv_iconst (v := 5) hx hb d_Ma_start_48 (by decide) ?_
              exact kr (5) S14 _ _ _ _ hw hP hD hS d_Ma_start_49
          · have hw := hw.1 hc
            refine lv_iconst (v := 2) hx hb d_Ma_start_30 (by decide) ?_
            exact kr (2) S _ _ _ _ hw hP hD hS d_Ma_start_31
  refine lv_iload_n hx hb d_Ma_start_0 rfl (lv_at hl 1 rfl) ?_
  refine lv_istore_n (lv' := [(2, .int (a0)), (0, .ref (g.2.2 3)), (1, .int (a0))]) hx hb d_Ma_start_1 rfl hl (by decide) rfl (fun ls hl => ?_)
  refine lv_iconst (v := 0) hx hb d_Ma_start_2 (by decide) ?_
  refine lv_istore_n (lv' := [(3, .int (0)), (2, .int (a0)), (0, .ref (g.2.2 3)), (1, .int (a0))]) hx hb d_Ma_start_3 rfl hl (by decide) rfl (fun ls hl => ?_)
  obtain ⟨nn, hw⟩ := hw
  exact J4 nn S (a0) (0) _ _ _ hw (lv_sub hl [2, 1, 0] rfl) hP hD hS
theorem qC_58 {R : Room} {s : State} {args : Array Value} (hts : ∀ w ∈ w_C, w.before args s = true) (hR : (rmM 0 0).frames + 1 ≤ R.frames ∧ 8 + (3 + 11) + (rmM 0 0).locals ≤ R.locals) : CallW R s args "WordSmith$Machine" R_Ca 114 y_Ca_beginLoop b_Ca_beginLoop 3 none (.code y_Ca_beginLoop b_Ca_beginLoop 3 none :: w_C) (rmM 0 0) 0 0 2 := ⟨callB_of 2 hts (good_C k_C_713) rfl rfl rfl (hts _ k_C_10) (hts _ k_C_710) ⟨by decide +kernel, by decide +kernel, by decide +kernel⟩ hR, hts _ k_C_711, hts _ k_C_712⟩
theorem d_Ma_beginLoop_0 : decode b_Ma_beginLoop 0 = .ok (.aload_n 0, 1) := by decide +kernel
theorem d_Ma_beginLoop_1 : decode b_Ma_beginLoop 1 = .ok (.getfield 12, 3) := by decide +kernel
theorem d_Ma_beginLoop_4 : decode b_Ma_beginLoop 4 = .ok (.getfield 96, 3) := by decide +kernel
theorem d_Ma_beginLoop_7 : decode b_Ma_beginLoop 7 = .ok (.iconst 2, 1) := by decide +kernel
theorem d_Ma_beginLoop_8 : decode b_Ma_beginLoop 8 = .ok (.if_icmp .ge 5, 3) := by decide +kernel
theorem d_Ma_beginLoop_11 : decode b_Ma_beginLoop 11 = .ok (.iconst 2, 1) := by decide +kernel
theorem d_Ma_beginLoop_12 : decode b_Ma_beginLoop 12 = .ok (.ireturn, 1) := by decide +kernel
theorem d_Ma_beginLoop_13 : decode b_Ma_beginLoop 13 = .ok (.aload_n 1, 1) := by decide +kernel
theorem d_Ma_beginLoop_14 : decode b_Ma_beginLoop 14 = .ok (.getfield 108, 3) := by decide +kernel
theorem d_Ma_beginLoop_17 : decode b_Ma_beginLoop 17 = .ok (.iconst 4, 1) := by decide +kernel
theorem d_Ma_beginLoop_18 : decode b_Ma_beginLoop 18 = .ok (.if_icmp .lt 5, 3) := by decide +kernel
theorem d_Ma_beginLoop_21 : decode b_Ma_beginLoop 21 = .ok (.iconst 3, 1) := by decide +kernel
theorem d_Ma_beginLoop_22 : decode b_Ma_beginLoop 22 = .ok (.ireturn, 1) := by decide +kernel
theorem d_Ma_beginLoop_23 : decode b_Ma_beginLoop 23 = .ok (.aload_n 1, 1) := by decide +kernel
theorem d_Ma_beginLoop_24 : decode b_Ma_beginLoop 24 = .ok (.aload_n 0, 1) := by decide +kernel
theorem d_Ma_beginLoop_25 : decode b_Ma_beginLoop 25 = .ok (.getfield 12, 3) := by decide +kernel
theorem d_Ma_beginLoop_28 : decode b_Ma_beginLoop 28 = .ok (.iconst 1, 1) := by decide +kernel
theorem d_Ma_beginLoop_29 : decode b_Ma_beginLoop 29 = .ok (.invokevirtual 111, 3) := by decide +kernel
theorem d_Ma_beginLoop_32 : decode b_Ma_beginLoop 32 = .ok (.aload_n 0, 1) := by decide +kernel
theorem d_Ma_beginLoop_33 : decode b_Ma_beginLoop 33 = .ok (.getfield 12, 3) := by decide +kernel
theorem d_Ma_beginLoop_36 : decode b_Ma_beginLoop 36 = .ok (.iconst 0, 1) := by decide +kernel
theorem d_Ma_beginLoop_37 : decode b_Ma_beginLoop 37 = .ok (.invokevirtual 111, 3) := by decide +kernel
theorem d_Ma_beginLoop_40 : decode b_Ma_beginLoop 40 = .ok (.invokevirtual 114, 3) := by decide +kernel
theorem d_Ma_beginLoop_43 : decode b_Ma_beginLoop 43 = .ok (.aload_n 0, 1) := by decide +kernel
theorem d_Ma_beginLoop_44 : decode b_Ma_beginLoop 44 = .ok (.getfield 12, 3) := by decide +kernel
theorem d_Ma_beginLoop_47 : decode b_Ma_beginLoop 47 = .ok (.iconst 2, 1) := by decide +kernel
theorem d_Ma_beginLoop_48 : decode b_Ma_beginLoop 48 = .ok (.invokevirtual 117, 3) := by decide +kernel
theorem d_Ma_beginLoop_51 : decode b_Ma_beginLoop 51 = .ok (.iconst 0, 1) := by decide +kernel
theorem d_Ma_beginLoop_52 : decode b_Ma_beginLoop 52 = .ok (.ireturn, 1) := by decide +kernel
def wp_Ma_beginLoop (g : Gm) (post : Int32 → StC → Prop) (S : StC) (a0 : Nat) : Prop :=
  ((2 ≤ (S.1 8)) → ∃ (vs1 : List Value) (z5 : Int32), (a0 ∈ S.2.2.2.2.2.1) ∧ (S.2.2.2.2.2.2 a0 = .inr (9, vs1)) ∧ (vs1[4]? = some (.int (z5))) ∧ (((z5 < 4) → wp_Nd_fromTop g (fun (r7 : Int32) (S6 : StC) => (wp_Nd_fromTop g (fun (r9 : Int32) (S8 : StC) => (∃ (vs10 : List Value), (a0 ∈ S8.2.2.2.2.2.1) ∧ (S8.2.2.2.2.2.2 a0 = .inr (9, vs10)) ∧ (wp_Ca_beginLoop g (fun S13 : StC => (wp_Nd_drop g (fun S14 : StC => (post (0) S14)) S13 (2))) S8 (a0) (r7) (r9)))) S6 (0))) S (1)) ∧ (¬ (z5 < 4) → post (3) S))) ∧ (¬ (2 ≤ (S.1 8)) → post (2) S)
set_option maxRecDepth 100000 in
set_option maxHeartbeats 4000000 in
theorem c_Ma_beginLoop (l : Launch) (g : Gm) (sz : Nat) (S : StC) (a0 : Nat) (post : Int32 → StC → Prop) (hw : wp_Ma_beginLoop g post S a0) : Met l y_Ma_beginLoop (.code y_Ma_beginLoop b_Ma_beginLoop 2 (some .int) :: w_C) (rmM 2 42) (va_Pc [.ref (g.2.2 3), .ref (a0)] (PC g sz S)) (va_Qi post (BC g (AC g sz S)) (AC g sz S)) 0 0 (AC g sz S) := by
  refine ofC_i (by decide) (Nat.le_of_ble_eq_true rfl) (fun p e s m args below meth c Q A H locs ls hx hb hml hts hown hK hA hC hN kr hl hP hD hS => ?_)
  have hl : lv_has ls 2 [(0, .ref (g.2.2 3)), (1, .ref (a0))] := hl
  unfold wp_Ma_beginLoop at hw
  refine lv_aload_n hx hb d_Ma_beginLoop_0 rfl (lv_at hl 0 rfl) ?_
  refine va_get (D := g.1) (ci := 5) (v := .ref (g.2.2 4)) (C := R_Ma) (T := F_Ma) (N := 9) hx hb hts hin_Ma hown hK hP 3 rfl rfl 0 (by decide) (hts _ k_C_106) (fun _ h9 => h9) rfl d_Ma_beginLoop_1 ?_
  refine va_getN (D := g.1) (ci := 6) (v := .int ((S.1 8))) (C := R_N) (T := F_N) (N := 2) hx hb hts hin_N hown hK hP 4 rfl rfl 1 (by decide) (va_Nw.use rfl (hN.1 _ kn_C_3)) (fun _ h9 => h9) rfl d_Ma_beginLoop_4 ?_
  refine lv_iconst (v := 2) hx hb d_Ma_beginLoop_7 (by decide) ?_
  refine lv_icmp_ge hx hb d_Ma_beginLoop_8 (tgt := 13) (by decide) (fun hc => ?_) (fun hc => ?_)
  · have hw := hw.1 hc
    refine lv_aload_n hx hb d_Ma_beginLoop_13 rfl (lv_at hl 1 rfl) ?_
    obtain ⟨vs1, z5, ha2, hf3, hv4, hw⟩ := hw
    refine pgN_C (S := S) (vs := vs1) (v := .int (z5)) (C := R_Ca) (F := F_Ca) (N := 5) hx hb hts hin_Ca hown hK hP ha2 hf3 rfl 4 (by decide) hv4 (va_Nw.use rfl (hN.1 _ kn_C_14)) d_Ma_beginLoop_14 ?_
    refine lv_iconst (v := 4) hx hb d_Ma_beginLoop_17 (by decide) ?_
    refine lv_icmp_lt hx hb d_Ma_beginLoop_18 (tgt := 23) (by decide) (fun hc => ?_) (fun hc => ?_)
    · have hw := hw.1 hc
      refine lv_aload_n hx hb d_Ma_beginLoop_23 rfl (lv_at hl 1 rfl) ?_
      refine lv_aload_n hx hb d_Ma_beginLoop_24 rfl (lv_at hl 0 rfl) ?_
      refine va_get (D := g.1) (ci := 5) (v := .ref (g.2.2 4)) (C := R_Ma) (T := F_Ma) (N := 9) hx hb hts hin_Ma hown hK hP 3 rfl rfl 0 (by decide) (hts _ k_C_106) (fun _ h9 => h9) rfl d_Ma_beginLoop_25 ?_
      refine lv_iconst (v := 1) hx hb d_Ma_beginLoop_28 (by decide) ?_
      refine cC_iV (As := [.int (1)]) (rest := [.ref (a0)]) hx hb hml hown hts hK hC hN hP hD hS hA (Nat.zero_le _) (Nat.zero_le _) hl.1 (va_recv (q0 := 4) (ci := 6) (q := (R_N, F_N, 2)) hK hP rfl rfl) (qC_30 hts ⟨Nat.le_of_ble_eq_true rfl, Nat.le_of_ble_eq_true rfl⟩) (c_Nd_fromTop l g H.size _ (1) _ hw) rfl rfl (Nat.le_of_ble_eq_true rfl) d_Ma_beginLoop_29 (fun r7 S6 H locs hw hP hD hS => ?_)
      refine lv_aload_n hx hb d_Ma_beginLoop_32 rfl (lv_at hl 0 rfl) ?_
      refine va_get (D := g.1) (ci := 5) (v := .ref (g.2.2 4)) (C := R_Ma) (T := F_Ma) (N := 9) hx hb hts hin_Ma hown hK hP 3 rfl rfl 0 (by decide) (hts _ k_C_106) (fun _ h9 => h9) rfl d_Ma_beginLoop_33 ?_
      refine lv_iconst (v := 0) hx hb d_Ma_beginLoop_36 (by decide) ?_
      refine cC_iV (As := [.int (0)]) (rest := [.int (r7), .ref (a0)]) hx hb hml hown hts hK hC hN hP hD hS hA (Nat.zero_le _) (Nat.zero_le _) hl.1 (va_recv (q0 := 4) (ci := 6) (q := (R_N, F_N, 2)) hK hP rfl rfl) (qC_30 hts ⟨Nat.le_of_ble_eq_true rfl, Nat.le_of_ble_eq_true rfl⟩) (c_Nd_fromTop l g H.size _ (0) _ hw) rfl rfl (Nat.le_of_ble_eq_true rfl) d_Ma_beginLoop_37 (fun r9 S8 H locs hw hP hD hS => ?_)
      obtain ⟨vs10, ha11, hf12, hw⟩ := hw
      refine cC_vV (As := [.int (r7), .int (r9)]) (rest := []) hx hb hml hown hts hK hC hN hP hD hS hA (Nat.zero_le _) (Nat.zero_le _) hl.1 (precv_C (C := R_Ca) (F := F_Ca) (N := 5) hK hP ha11 hf12 rfl) (qC_58 hts ⟨Nat.le_of_ble_eq_true rfl, Nat.le_of_ble_eq_true rfl⟩) (c_Ca_beginLoop l g H.size _ (a0) (r7) (r9) _ hw) rfl rfl (Nat.le_of_ble_eq_true rfl) d_Ma_beginLoop_40 (fun S13 H locs hw hP hD hS => ?_)
      refine lv_aload_n hx hb d_Ma_beginLoop_43 rfl (lv_at hl 0 rfl) ?_
      refine va_get (D := g.1) (ci := 5) (v := .ref (g.2.2 4)) (C := R_Ma) (T := F_Ma) (N := 9) hx hb hts hin_Ma hown hK hP 3 rfl rfl 0 (by decide) (hts _ k_C_106) (fun _ h9 => h9) rfl d_Ma_beginLoop_44 ?_
      refine lv_iconst (v := 2) hx hb d_Ma_beginLoop_47 (by decide) ?_
      refine cC_vV (As := [.int (2)]) (rest := []) hx hb hml hown hts hK hC hN hP hD hS hA (Nat.zero_le _) (Nat.zero_le _) hl.1 (va_recv (q0 := 4) (ci := 6) (q := (R_N, F_N, 2)) hK hP rfl rfl) (qC_43 hts ⟨Nat.le_of_ble_eq_true rfl, Nat.le_of_ble_eq_true rfl⟩) (c_Nd_drop l g H.size _ (2) _ hw) rfl rfl (Nat.le_of_ble_eq_true rfl) d_Ma_beginLoop_48 (fun S14 H locs hw hP hD hS => ?_)
      refine lv_iconst (v := 0) hx hb d_Ma_beginLoop_51 (by decide) ?_
      exact kr (0) S14 _ _ _ _ hw hP hD hS d_Ma_beginLoop_52
    · have hw := hw.2 hc
      refine lv_iconst (v := 3) hx hb d_Ma_beginLoop_21 (by decide) ?_
      exact kr (3) S _ _ _ _ hw hP hD hS d_Ma_beginLoop_22
  · have hw := hw.2 hc
    refine lv_iconst (v := 2) hx hb d_Ma_beginLoop_11 (by decide) ?_
    exact kr (2) S _ _ _ _ hw hP hD hS d_Ma_beginLoop_12
theorem qC_59 {R : Room} {s : State} {args : Array Value} (hts : ∀ w ∈ w_C, w.before args s = true) (hR : (rmM 2 42).frames + 1 ≤ R.frames ∧ 8 + (2 + 11) + (rmM 2 42).locals ≤ R.locals) : CallW R s args "WordSmith$Machine" R_Ma 101 y_Ma_beginLoop b_Ma_beginLoop 2 (some .int) (.code y_Ma_beginLoop b_Ma_beginLoop 2 (some .int) :: w_C) (rmM 2 42) 0 0 1 := ⟨callB_of 1 hts (good_C k_C_709) rfl rfl rfl (hts _ k_C_6) (hts _ k_C_707) ⟨by decide +kernel, by decide +kernel, by decide +kernel⟩ hR, hts _ k_C_708, hts _ k_C_808⟩
theorem qC_60 {R : Room} {s : State} {args : Array Value} (hts : ∀ w ∈ w_C, w.before args s = true) (hR : (rmM 0 0).frames + 1 ≤ R.frames ∧ 8 + (1 + 11) + (rmM 0 0).locals ≤ R.locals) : CallW R s args "WordSmith$Machine" R_Ca 105 y_Ca_countOn b_Ca_countOn 1 (some .boolean) (.code y_Ca_countOn b_Ca_countOn 1 (some .boolean) :: w_C) (rmM 0 0) 0 0 0 := ⟨callB_of 0 hts (good_C k_C_717) rfl rfl rfl (hts _ k_C_10) (hts _ k_C_714) ⟨by decide +kernel, by decide +kernel, by decide +kernel⟩ hR, hts _ k_C_715, hts _ k_C_716⟩
theorem d_Ma_jump_0 : decode b_Ma_jump 0 = .ok (.iload_n 2, 1) := by decide +kernel
theorem d_Ma_jump_1 : decode b_Ma_jump 1 = .ok (.tableswitch 70 2 4 #[27, 34, 64], 27) := by decide +kernel
theorem d_Ma_jump_28 : decode b_Ma_jump 28 = .ok (.aload_n 1, 1) := by decide +kernel
theorem d_Ma_jump_29 : decode b_Ma_jump 29 = .ok (.iload_n 3, 1) := by decide +kernel
theorem d_Ma_jump_30 : decode b_Ma_jump 30 = .ok (.putfield 68, 3) := by decide +kernel
theorem d_Ma_jump_33 : decode b_Ma_jump 33 = .ok (.iconst 0, 1) := by decide +kernel
theorem d_Ma_jump_34 : decode b_Ma_jump 34 = .ok (.ireturn, 1) := by decide +kernel
theorem d_Ma_jump_35 : decode b_Ma_jump 35 = .ok (.aload_n 0, 1) := by decide +kernel
theorem d_Ma_jump_36 : decode b_Ma_jump 36 = .ok (.getfield 12, 3) := by decide +kernel
theorem d_Ma_jump_39 : decode b_Ma_jump 39 = .ok (.getfield 96, 3) := by decide +kernel
theorem d_Ma_jump_42 : decode b_Ma_jump 42 = .ok (.iconst 1, 1) := by decide +kernel
theorem d_Ma_jump_43 : decode b_Ma_jump 43 = .ok (.if_icmp .ge 5, 3) := by decide +kernel
theorem d_Ma_jump_46 : decode b_Ma_jump 46 = .ok (.iconst 2, 1) := by decide +kernel
theorem d_Ma_jump_47 : decode b_Ma_jump 47 = .ok (.ireturn, 1) := by decide +kernel
theorem d_Ma_jump_48 : decode b_Ma_jump 48 = .ok (.aload_n 0, 1) := by decide +kernel
theorem d_Ma_jump_49 : decode b_Ma_jump 49 = .ok (.getfield 12, 3) := by decide +kernel
theorem d_Ma_jump_52 : decode b_Ma_jump 52 = .ok (.invokevirtual 97, 3) := by decide +kernel
theorem d_Ma_jump_55 : decode b_Ma_jump 55 = .ok (.ifCond .ne 8, 3) := by decide +kernel
theorem d_Ma_jump_58 : decode b_Ma_jump 58 = .ok (.aload_n 1, 1) := by decide +kernel
theorem d_Ma_jump_59 : decode b_Ma_jump 59 = .ok (.iload_n 3, 1) := by decide +kernel
theorem d_Ma_jump_60 : decode b_Ma_jump 60 = .ok (.putfield 68, 3) := by decide +kernel
theorem d_Ma_jump_63 : decode b_Ma_jump 63 = .ok (.iconst 0, 1) := by decide +kernel
theorem d_Ma_jump_64 : decode b_Ma_jump 64 = .ok (.ireturn, 1) := by decide +kernel
theorem d_Ma_jump_65 : decode b_Ma_jump 65 = .ok (.aload_n 0, 1) := by decide +kernel
theorem d_Ma_jump_66 : decode b_Ma_jump 66 = .ok (.aload_n 1, 1) := by decide +kernel
theorem d_Ma_jump_67 : decode b_Ma_jump 67 = .ok (.invokevirtual 101, 3) := by decide +kernel
theorem d_Ma_jump_70 : decode b_Ma_jump 70 = .ok (.ireturn, 1) := by decide +kernel
theorem d_Ma_jump_71 : decode b_Ma_jump 71 = .ok (.aload_n 1, 1) := by decide +kernel
theorem d_Ma_jump_72 : decode b_Ma_jump 72 = .ok (.invokevirtual 105, 3) := by decide +kernel
theorem d_Ma_jump_75 : decode b_Ma_jump 75 = .ok (.ifCond .eq 8, 3) := by decide +kernel
theorem d_Ma_jump_78 : decode b_Ma_jump 78 = .ok (.aload_n 1, 1) := by decide +kernel
theorem d_Ma_jump_79 : decode b_Ma_jump 79 = .ok (.iload_n 3, 1) := by decide +kernel
theorem d_Ma_jump_80 : decode b_Ma_jump 80 = .ok (.putfield 68, 3) := by decide +kernel
theorem d_Ma_jump_83 : decode b_Ma_jump 83 = .ok (.iconst 0, 1) := by decide +kernel
theorem d_Ma_jump_84 : decode b_Ma_jump 84 = .ok (.ireturn, 1) := by decide +kernel
def wq_Ma_jump_83 (g : Gm) (post : Int32 → StC → Prop)  (S : StC)  : Prop :=
  post (0) S
def wq_Ma_jump_63 (g : Gm) (post : Int32 → StC → Prop)  (S : StC)  : Prop :=
  post (0) S
def wp_Ma_jump (g : Gm) (post : Int32 → StC → Prop) (S : StC) (a0 : Nat) (a1 : Int32) (a2 : Int32) : Prop :=
  ((a1 = 2) → ∃ (vs2 : List Value), (a0 ∈ S.2.2.2.2.2.1) ∧ (S.2.2.2.2.2.2 a0 = .inr (9, vs2)) ∧ (1 < vs2.length) ∧ (post (0) (S.1, S.2.1, S.2.2.1, S.2.2.2.1, S.2.2.2.2.1, S.2.2.2.2.2.1, (va_up S.2.2.2.2.2.2 a0 (.inr (9, vs2.set 1 (.int (a2)))))))) ∧ (¬ (a1 = 2) → ((a1 = 3) → ((1 ≤ (S.1 8)) → wp_Nd_pop g (fun (r8 : Int32) (S7 : StC) => (((r8 = 0) → ∃ (vs9 : List Value), (a0 ∈ S7.2.2.2.2.2.1) ∧ (S7.2.2.2.2.2.2 a0 = .inr (9, vs9)) ∧ (1 < vs9.length) ∧ (wq_Ma_jump_63 g post  (S7.1, S7.2.1, S7.2.2.1, S7.2.2.2.1, S7.2.2.2.2.1, S7.2.2.2.2.2.1, (va_up S7.2.2.2.2.2.2 a0 (.inr (9, vs9.set 1 (.int (a2)))))) )) ∧ (¬ (r8 = 0) → wq_Ma_jump_63 g post  S7 ))) S ) ∧ (¬ (1 ≤ (S.1 8)) → post (2) S)) ∧ (¬ (a1 = 3) → ((a1 = 4) → wp_Ma_beginLoop g (fun (r15 : Int32) (S14 : StC) => (post (r15) S14)) S (a0)) ∧ (¬ (a1 = 4) → ∃ (vs16 : List Value), (a0 ∈ S.2.2.2.2.2.1) ∧ (S.2.2.2.2.2.2 a0 = .inr (9, vs16)) ∧ (wp_Ca_countOn g (fun (r20 : Int32) (S19 : StC) => (((r20 = 0) → wq_Ma_jump_83 g post  S19 ) ∧ (¬ (r20 = 0) → ∃ (vs21 : List Value), (a0 ∈ S19.2.2.2.2.2.1) ∧ (S19.2.2.2.2.2.2 a0 = .inr (9, vs21)) ∧ (1 < vs21.length) ∧ (wq_Ma_jump_83 g post  (S19.1, S19.2.1, S19.2.2.1, S19.2.2.2.1, S19.2.2.2.2.1, S19.2.2.2.2.2.1, (va_up S19.2.2.2.2.2.2 a0 (.inr (9, vs21.set 1 (.int (a2)))))) )))) S (a0)))))
set_option maxRecDepth 100000 in
set_option maxHeartbeats 4000000 in
theorem c_Ma_jump (l : Launch) (g : Gm) (sz : Nat) (S : StC) (a0 : Nat) (a1 : Int32) (a2 : Int32) (post : Int32 → StC → Prop) (hw : wp_Ma_jump g post S a0 a1 a2) : Met l y_Ma_jump (.code y_Ma_jump b_Ma_jump 4 (some .int) :: w_C) (rmM 3 63) (va_Pc [.ref (g.2.2 3), .ref (a0), .int (a1), .int (a2)] (PC g sz S)) (va_Qi post (BC g (AC g sz S)) (AC g sz S)) 0 0 (AC g sz S) := by
  refine ofC_i (by decide) (Nat.le_of_ble_eq_true rfl) (fun p e s m args below meth c Q A H locs ls hx hb hml hts hown hK hA hC hN kr hl hP hD hS => ?_)
  have hl : lv_has ls 4 [(0, .ref (g.2.2 3)), (1, .ref (a0)), (2, .int (a1)), (3, .int (a2))] := hl
  unfold wp_Ma_jump at hw
  have J83 : ∀ (S : StC)  (H : Heap) (locs : List Loc) (ls : Array Slot), wq_Ma_jump_83 g post  S  → lv_has ls 4 [] → va_P g.1 classes (wC g S) H → va_D A (wC g S) → va_S A s.heap H locs → W p l e (rmM 3 63) s m args below meth c H locs 0 0 Q (F0 m 83 ls []) := by
    intro S  H locs ls hw hl hP hD hS
    unfold wq_Ma_jump_83 at hw
    refine lv_iconst (v := 0) hx hb d_Ma_jump_83 (by decide) ?_
    exact kr (0) S _ _ _ _ hw hP hD hS d_Ma_jump_84
  have J63 : ∀ (S : StC)  (H : Heap) (locs : List Loc) (ls : Array Slot), wq_Ma_jump_63 g post  S  → lv_has ls 4 [] → va_P g.1 classes (wC g S) H → va_D A (wC g S) → va_S A s.heap H locs → W p l e (rmM 3 63) s m args below meth c H locs 0 0 Q (F0 m 63 ls []) := by
    intro S  H locs ls hw hl hP hD hS
    unfold wq_Ma_jump_63 at hw
    refine lv_iconst (v := 0) hx hb d_Ma_jump_63 (by decide) ?_
    exact kr (0) S _ _ _ _ hw hP hD hS d_Ma_jump_64
  refine lv_iload_n hx hb d_Ma_jump_0 rfl (lv_at hl 2 rfl) ?_
  by_cases hk1 : a1 = 2
  · have hw := hw.1 hk1
    refine sw_in hx hb d_Ma_jump_1 hk1 (tgt := 28) (off := 27) (by decide) (by decide) rfl (by decide) ?_
    refine lv_aload_n hx hb d_Ma_jump_28 rfl (lv_at hl 1 rfl) ?_
    refine lv_iload_n hx hb d_Ma_jump_29 rfl (lv_at hl 3 rfl) ?_
    obtain ⟨vs2, ha3, hf4, hk5, hw⟩ := hw
    refine ppN_C (S := S) (vs := vs2) (v := .int (a2)) (C := R_Ca) (F := F_Ca) (N := 5) hx hb hts hin_Ca t_Ca t_Ca_ok n_Ca hown hK hP hD hS ha3 hf4 rfl 1 (by decide) rfl rfl rfl hk5 (va_Nw.use rfl (hN.1 _ kn_C_13)) d_Ma_jump_30 (fun H locs hP hD hS => ?_)
    have hP : va_P g.1 classes (wC g (S.1, S.2.1, S.2.2.1, S.2.2.2.1, S.2.2.2.2.1, S.2.2.2.2.2.1, (va_up S.2.2.2.2.2.2 a0 (.inr (9, vs2.set 1 (.int (a2))))))) H := hP
    have hD : va_D A (wC g (S.1, S.2.1, S.2.2.1, S.2.2.2.1, S.2.2.2.2.1, S.2.2.2.2.2.1, (va_up S.2.2.2.2.2.2 a0 (.inr (9, vs2.set 1 (.int (a2))))))) := hD
    refine lv_iconst (v := 0) hx hb d_Ma_jump_33 (by decide) ?_
    exact kr (0) (S.1, S.2.1, S.2.2.1, S.2.2.2.1, S.2.2.2.2.1, S.2.2.2.2.2.1, (va_up S.2.2.2.2.2.2 a0 (.inr (9, vs2.set 1 (.int (a2)))))) _ _ _ _ hw hP hD hS d_Ma_jump_34
  · have hw := hw.2 hk1
    by_cases hk6 : a1 = 3
    · have hw := hw.1 hk6
      refine sw_in hx hb d_Ma_jump_1 hk6 (tgt := 35) (off := 34) (by decide) (by decide) rfl (by decide) ?_
      refine lv_aload_n hx hb d_Ma_jump_35 rfl (lv_at hl 0 rfl) ?_
      refine va_get (D := g.1) (ci := 5) (v := .ref (g.2.2 4)) (C := R_Ma) (T := F_Ma) (N := 9) hx hb hts hin_Ma hown hK hP 3 rfl rfl 0 (by decide) (hts _ k_C_106) (fun _ h9 => h9) rfl d_Ma_jump_36 ?_
      refine va_getN (D := g.1) (ci := 6) (v := .int ((S.1 8))) (C := R_N) (T := F_N) (N := 2) hx hb hts hin_N hown hK hP 4 rfl rfl 1 (by decide) (va_Nw.use rfl (hN.1 _ kn_C_3)) (fun _ h9 => h9) rfl d_Ma_jump_39 ?_
      refine lv_iconst (v := 1) hx hb d_Ma_jump_42 (by decide) ?_
      refine lv_icmp_ge hx hb d_Ma_jump_43 (tgt := 48) (by decide) (fun hc => ?_) (fun hc => ?_)
      · have hw := hw.1 hc
        refine lv_aload_n hx hb d_Ma_jump_48 rfl (lv_at hl 0 rfl) ?_
        refine va_get (D := g.1) (ci := 5) (v := .ref (g.2.2 4)) (C := R_Ma) (T := F_Ma) (N := 9) hx hb hts hin_Ma hown hK hP 3 rfl rfl 0 (by decide) (hts _ k_C_106) (fun _ h9 => h9) rfl d_Ma_jump_49 ?_
        refine cC_iV (As := []) (rest := []) hx hb hml hown hts hK hC hN hP hD hS hA (Nat.zero_le _) (Nat.zero_le _) hl.1 (va_recv (q0 := 4) (ci := 6) (q := (R_N, F_N, 2)) hK hP rfl rfl) (qC_56 hts ⟨Nat.le_of_ble_eq_true rfl, Nat.le_of_ble_eq_true rfl⟩) (c_Nd_pop l g H.size _  _ hw) rfl rfl (Nat.le_of_ble_eq_true rfl) d_Ma_jump_52 (fun r8 S7 H locs hw hP hD hS => ?_)
        refine lv_if_ne hx hb d_Ma_jump_55 (tgt := 63) (by decide) (fun hc => ?_) (fun hc => ?_)
        · have hw := hw.2 hc
          exact J63 S7  _ _ _ hw (lv_sub hl [] rfl) hP hD hS
        · have hw := hw.1 hc
          refine lv_aload_n hx hb d_Ma_jump_58 rfl (lv_at hl 1 rfl) ?_
          refine lv_iload_n hx hb d_Ma_jump_59 rfl (lv_at hl 3 rfl) ?_
          obtain ⟨vs9, ha10, hf11, hk12, hw⟩ := hw
          refine ppN_C (S := S7) (vs := vs9) (v := .int (a2)) (C := R_Ca) (F := F_Ca) (N := 5) hx hb hts hin_Ca t_Ca t_Ca_ok n_Ca hown hK hP hD hS ha10 hf11 rfl 1 (by decide) rfl rfl rfl hk12 (va_Nw.use rfl (hN.1 _ kn_C_13)) d_Ma_jump_60 (fun H locs hP hD hS => ?_)
          have hP : va_P g.1 classes (wC g (S7.1, S7.2.1, S7.2.2.1, S7.2.2.2.1, S7.2.2.2.2.1, S7.2.2.2.2.2.1, (va_up S7.2.2.2.2.2.2 a0 (.inr (9, vs9.set 1 (.int (a2))))))) H := hP
          have hD : va_D A (wC g (S7.1, S7.2.1, S7.2.2.1, S7.2.2.2.1, S7.2.2.2.2.1, S7.2.2.2.2.2.1, (va_up S7.2.2.2.2.2.2 a0 (.inr (9, vs9.set 1 (.int (a2))))))) := hD
          exact J63 (S7.1, S7.2.1, S7.2.2.1, S7.2.2.2.1, S7.2.2.2.2.1, S7.2.2.2.2.2.1, (va_up S7.2.2.2.2.2.2 a0 (.inr (9, vs9.set 1 (.int (a2))))))  _ _ _ hw (lv_sub hl [] rfl) hP hD hS
      · have hw := hw.2 hc
        refine lv_iconst (v := 2) hx hb d_Ma_jump_46 (by decide) ?_
        exact kr (2) S _ _ _ _ hw hP hD hS d_Ma_jump_47
    · have hw := hw.2 hk6
      by_cases hk13 : a1 = 4
      · have hw := hw.1 hk13
        refine sw_in hx hb d_Ma_jump_1 hk13 (tgt := 65) (off := 64) (by decide) (by decide) rfl (by decide) ?_
        refine lv_aload_n hx hb d_Ma_jump_65 rfl (lv_at hl 0 rfl) ?_
        refine lv_aload_n hx hb d_Ma_jump_66 rfl (lv_at hl 1 rfl) ?_
        refine cC_iV (As := [.ref (a0)]) (rest := []) hx hb hml hown hts hK hC hN hP hD hS hA (Nat.zero_le _) (Nat.zero_le _) hl.1 (va_recv (q0 := 3) (ci := 5) (q := (R_Ma, F_Ma, 9)) hK hP rfl rfl) (qC_59 hts ⟨Nat.le_of_ble_eq_true rfl, Nat.le_of_ble_eq_true rfl⟩) (c_Ma_beginLoop l g H.size _ (a0) _ hw) rfl rfl (Nat.le_of_ble_eq_true rfl) d_Ma_jump_67 (fun r15 S14 H locs hw hP hD hS => ?_)
        exact kr (r15) S14 _ _ _ _ hw hP hD hS d_Ma_jump_70
      · have hw := hw.2 hk13
        have n0 := lv_neT hk1 (by decide : (2 : Int32).toInt = 2)
        have n1 := lv_neT hk6 (by decide : (3 : Int32).toInt = 3)
        have n2 := lv_neT hk13 (by decide : (4 : Int32).toInt = 4)
        refine lv_tableOut hx hb d_Ma_jump_1 (tgt := 71) (by omega) (by decide) ?_
        refine lv_aload_n hx hb d_Ma_jump_71 rfl (lv_at hl 1 rfl) ?_
        obtain ⟨vs16, ha17, hf18, hw⟩ := hw
        refine cC_iV (As := []) (rest := []) hx hb hml hown hts hK hC hN hP hD hS hA (Nat.zero_le _) (Nat.zero_le _) hl.1 (precv_C (C := R_Ca) (F := F_Ca) (N := 5) hK hP ha17 hf18 rfl) (qC_60 hts ⟨Nat.le_of_ble_eq_true rfl, Nat.le_of_ble_eq_true rfl⟩) (c_Ca_countOn l g H.size _ (a0) _ hw) rfl rfl (Nat.le_of_ble_eq_true rfl) d_Ma_jump_72 (fun r20 S19 H locs hw hP hD hS => ?_)
        refine lv_if_eq hx hb d_Ma_jump_75 (tgt := 83) (by decide) (fun hc => ?_) (fun hc => ?_)
        · have hw := hw.1 hc
          exact J83 S19  _ _ _ hw (lv_sub hl [] rfl) hP hD hS
        · have hw := hw.2 hc
          refine lv_aload_n hx hb d_Ma_jump_78 rfl (lv_at hl 1 rfl) ?_
          refine lv_iload_n hx hb d_Ma_jump_79 rfl (lv_at hl 3 rfl) ?_
          obtain ⟨vs21, ha22, hf23, hk24, hw⟩ := hw
          refine ppN_C (S := S19) (vs := vs21) (v := .int (a2)) (C := R_Ca) (F := F_Ca) (N := 5) hx hb hts hin_Ca t_Ca t_Ca_ok n_Ca hown hK hP hD hS ha22 hf23 rfl 1 (by decide) rfl rfl rfl hk24 (va_Nw.use rfl (hN.1 _ kn_C_13)) d_Ma_jump_80 (fun H locs hP hD hS => ?_)
          have hP : va_P g.1 classes (wC g (S19.1, S19.2.1, S19.2.2.1, S19.2.2.2.1, S19.2.2.2.2.1, S19.2.2.2.2.2.1, (va_up S19.2.2.2.2.2.2 a0 (.inr (9, vs21.set 1 (.int (a2))))))) H := hP
          have hD : va_D A (wC g (S19.1, S19.2.1, S19.2.2.1, S19.2.2.2.1, S19.2.2.2.2.1, S19.2.2.2.2.2.1, (va_up S19.2.2.2.2.2.2 a0 (.inr (9, vs21.set 1 (.int (a2))))))) := hD
          exact J83 (S19.1, S19.2.1, S19.2.2.1, S19.2.2.2.1, S19.2.2.2.2.1, S19.2.2.2.2.2.1, (va_up S19.2.2.2.2.2.2 a0 (.inr (9, vs21.set 1 (.int (a2))))))  _ _ _ hw (lv_sub hl [] rfl) hP hD hS
theorem qC_61 {R : Room} {s : State} {args : Array Value} (hts : ∀ w ∈ w_C, w.before args s = true) (hR : (rmM 0 0).frames + 1 ≤ R.frames ∧ 8 + (1 + 11) + (rmM 0 0).locals ≤ R.locals) : CallW R s args "WordSmith$Machine" R_Ma 76 y_Ma_burn b_Ma_burn 1 (some .boolean) (.code y_Ma_burn b_Ma_burn 1 (some .boolean) :: w_C) (rmM 0 0) 0 0 0 := ⟨callB_of 0 hts (good_C k_C_385) rfl rfl rfl (hts _ k_C_6) (hts _ k_C_701) ⟨by decide +kernel, by decide +kernel, by decide +kernel⟩ hR, hts _ k_C_383, hts _ k_C_384⟩
theorem qC_62 {R : Room} {s : State} {args : Array Value} (hts : ∀ w ∈ w_C, w.before args s = true) (hR : (rmM 3 63).frames + 1 ≤ R.frames ∧ 8 + (4 + 11) + (rmM 3 63).locals ≤ R.locals) : CallW R s args "WordSmith$Machine" R_Ma 92 y_Ma_jump b_Ma_jump 4 (some .int) (.code y_Ma_jump b_Ma_jump 4 (some .int) :: w_C) (rmM 3 63) 0 0 3 := ⟨callB_of 3 hts (good_C k_C_706) rfl rfl rfl (hts _ k_C_6) (hts _ k_C_704) ⟨by decide +kernel, by decide +kernel, by decide +kernel⟩ hR, hts _ k_C_705, hts _ k_C_807⟩
theorem qC_63 {R : Room} {s : State} {args : Array Value} (hts : ∀ w ∈ w_C, w.before args s = true) (hR : (rmM 5 132).frames + 1 ≤ R.frames ∧ 8 + (5 + 11) + (rmM 5 132).locals ≤ R.locals) : CallW R s args "WordSmith$Machine" R_Ma 89 y_Ma_start b_Ma_start 5 (some .int) (.code y_Ma_start b_Ma_start 5 (some .int) :: w_C) (rmM 5 132) 0 0 1 := ⟨callB_of 1 hts (good_C k_C_584) rfl rfl rfl (hts _ k_C_6) (hts _ k_C_703) ⟨by decide +kernel, by decide +kernel, by decide +kernel⟩ hR, hts _ k_C_582, hts _ k_C_583⟩
theorem qC_64 {R : Room} {s : State} {args : Array Value} (hts : ∀ w ∈ w_C, w.before args s = true) (hR : (rmM 1 21).frames + 1 ≤ R.frames ∧ 8 + (2 + 11) + (rmM 1 21).locals ≤ R.locals) : CallW R s args "WordSmith$Machine" R_Ma 85 y_Ma_putNumber b_Ma_putNumber 2 (some .int) (.code y_Ma_putNumber b_Ma_putNumber 2 (some .int) :: w_C) (rmM 1 21) 0 0 1 := ⟨callB_of 1 hts (good_C k_C_414) rfl rfl rfl (hts _ k_C_6) (hts _ k_C_702) ⟨by decide +kernel, by decide +kernel, by decide +kernel⟩ hR, hts _ k_C_412, hts _ k_C_413⟩
theorem d_Ma_finishCalls_0 : decode b_Ma_finishCalls 0 = .ok (.iconst 0, 1) := by decide +kernel
theorem d_Ma_finishCalls_1 : decode b_Ma_finishCalls 1 = .ok (.istore_n 1, 1) := by decide +kernel
theorem d_Ma_finishCalls_2 : decode b_Ma_finishCalls 2 = .ok (.iconst 0, 1) := by decide +kernel
theorem d_Ma_finishCalls_3 : decode b_Ma_finishCalls 3 = .ok (.istore_n 2, 1) := by decide +kernel
theorem d_Ma_finishCalls_4 : decode b_Ma_finishCalls 4 = .ok (.iload_n 2, 1) := by decide +kernel
theorem d_Ma_finishCalls_5 : decode b_Ma_finishCalls 5 = .ok (.sipush 2400, 3) := by decide +kernel
theorem d_Ma_finishCalls_8 : decode b_Ma_finishCalls 8 = .ok (.if_icmp .ge 169, 3) := by decide +kernel
theorem d_Ma_finishCalls_11 : decode b_Ma_finishCalls 11 = .ok (.iload_n 1, 1) := by decide +kernel
theorem d_Ma_finishCalls_12 : decode b_Ma_finishCalls 12 = .ok (.ifCond .ne 165, 3) := by decide +kernel
theorem d_Ma_finishCalls_15 : decode b_Ma_finishCalls 15 = .ok (.aload_n 0, 1) := by decide +kernel
theorem d_Ma_finishCalls_16 : decode b_Ma_finishCalls 16 = .ok (.getfield 53, 3) := by decide +kernel
theorem d_Ma_finishCalls_19 : decode b_Ma_finishCalls 19 = .ok (.ifCond .le 158, 3) := by decide +kernel
theorem d_Ma_finishCalls_22 : decode b_Ma_finishCalls 22 = .ok (.aload_n 0, 1) := by decide +kernel
theorem d_Ma_finishCalls_23 : decode b_Ma_finishCalls 23 = .ok (.getfield 37, 3) := by decide +kernel
theorem d_Ma_finishCalls_26 : decode b_Ma_finishCalls 26 = .ok (.aload_n 0, 1) := by decide +kernel
theorem d_Ma_finishCalls_27 : decode b_Ma_finishCalls 27 = .ok (.getfield 53, 3) := by decide +kernel
theorem d_Ma_finishCalls_30 : decode b_Ma_finishCalls 30 = .ok (.iconst 1, 1) := by decide +kernel
theorem d_Ma_finishCalls_31 : decode b_Ma_finishCalls 31 = .ok (.isub, 1) := by decide +kernel
theorem d_Ma_finishCalls_32 : decode b_Ma_finishCalls 32 = .ok (.aaload, 1) := by decide +kernel
theorem d_Ma_finishCalls_33 : decode b_Ma_finishCalls 33 = .ok (.astore_n 3, 1) := by decide +kernel
theorem d_Ma_finishCalls_34 : decode b_Ma_finishCalls 34 = .ok (.aload_n 3, 1) := by decide +kernel
theorem d_Ma_finishCalls_35 : decode b_Ma_finishCalls 35 = .ok (.getfield 64, 3) := by decide +kernel
theorem d_Ma_finishCalls_38 : decode b_Ma_finishCalls 38 = .ok (.astore 4, 2) := by decide +kernel
theorem d_Ma_finishCalls_40 : decode b_Ma_finishCalls 40 = .ok (.aload_n 3, 1) := by decide +kernel
theorem d_Ma_finishCalls_41 : decode b_Ma_finishCalls 41 = .ok (.getfield 68, 3) := by decide +kernel
theorem d_Ma_finishCalls_44 : decode b_Ma_finishCalls 44 = .ok (.istore 5, 2) := by decide +kernel
theorem d_Ma_finishCalls_46 : decode b_Ma_finishCalls 46 = .ok (.aload 4, 2) := by decide +kernel
theorem d_Ma_finishCalls_48 : decode b_Ma_finishCalls 48 = .ok (.ifnull 13, 3) := by decide +kernel
theorem d_Ma_finishCalls_51 : decode b_Ma_finishCalls 51 = .ok (.iload 5, 2) := by decide +kernel
theorem d_Ma_finishCalls_53 : decode b_Ma_finishCalls 53 = .ok (.aload 4, 2) := by decide +kernel
theorem d_Ma_finishCalls_55 : decode b_Ma_finishCalls 55 = .ok (.getfield 71, 3) := by decide +kernel
theorem d_Ma_finishCalls_58 : decode b_Ma_finishCalls 58 = .ok (.if_icmp .lt 16, 3) := by decide +kernel
theorem d_Ma_finishCalls_61 : decode b_Ma_finishCalls 61 = .ok (.aload_n 0, 1) := by decide +kernel
theorem d_Ma_finishCalls_62 : decode b_Ma_finishCalls 62 = .ok (.dup, 1) := by decide +kernel
theorem d_Ma_finishCalls_63 : decode b_Ma_finishCalls 63 = .ok (.getfield 53, 3) := by decide +kernel
theorem d_Ma_finishCalls_66 : decode b_Ma_finishCalls 66 = .ok (.iconst 1, 1) := by decide +kernel
theorem d_Ma_finishCalls_67 : decode b_Ma_finishCalls 67 = .ok (.isub, 1) := by decide +kernel
theorem d_Ma_finishCalls_68 : decode b_Ma_finishCalls 68 = .ok (.putfield 53, 3) := by decide +kernel
theorem d_Ma_finishCalls_71 : decode b_Ma_finishCalls 71 = .ok (.goto 100, 3) := by decide +kernel
theorem d_Ma_finishCalls_74 : decode b_Ma_finishCalls 74 = .ok (.aload_n 0, 1) := by decide +kernel
theorem d_Ma_finishCalls_75 : decode b_Ma_finishCalls 75 = .ok (.invokevirtual 76, 3) := by decide +kernel
theorem d_Ma_finishCalls_78 : decode b_Ma_finishCalls 78 = .ok (.ifCond .ne 6, 3) := by decide +kernel
theorem d_Ma_finishCalls_81 : decode b_Ma_finishCalls 81 = .ok (.bipush 7, 2) := by decide +kernel
theorem d_Ma_finishCalls_83 : decode b_Ma_finishCalls 83 = .ok (.ireturn, 1) := by decide +kernel
theorem d_Ma_finishCalls_84 : decode b_Ma_finishCalls 84 = .ok (.aload_n 3, 1) := by decide +kernel
theorem d_Ma_finishCalls_85 : decode b_Ma_finishCalls 85 = .ok (.dup, 1) := by decide +kernel
theorem d_Ma_finishCalls_86 : decode b_Ma_finishCalls 86 = .ok (.getfield 68, 3) := by decide +kernel
theorem d_Ma_finishCalls_89 : decode b_Ma_finishCalls 89 = .ok (.iconst 1, 1) := by decide +kernel
theorem d_Ma_finishCalls_90 : decode b_Ma_finishCalls 90 = .ok (.iadd, 1) := by decide +kernel
theorem d_Ma_finishCalls_91 : decode b_Ma_finishCalls 91 = .ok (.putfield 68, 3) := by decide +kernel
theorem d_Ma_finishCalls_94 : decode b_Ma_finishCalls 94 = .ok (.aload 4, 2) := by decide +kernel
theorem d_Ma_finishCalls_96 : decode b_Ma_finishCalls 96 = .ok (.getfield 79, 3) := by decide +kernel
theorem d_Ma_finishCalls_99 : decode b_Ma_finishCalls 99 = .ok (.iload 5, 2) := by decide +kernel
theorem d_Ma_finishCalls_101 : decode b_Ma_finishCalls 101 = .ok (.iaload, 1) := by decide +kernel
theorem d_Ma_finishCalls_102 : decode b_Ma_finishCalls 102 = .ok (.ifCond .ne 19, 3) := by decide +kernel
theorem d_Ma_finishCalls_105 : decode b_Ma_finishCalls 105 = .ok (.aload_n 0, 1) := by decide +kernel
theorem d_Ma_finishCalls_106 : decode b_Ma_finishCalls 106 = .ok (.aload 4, 2) := by decide +kernel
theorem d_Ma_finishCalls_108 : decode b_Ma_finishCalls 108 = .ok (.getfield 82, 3) := by decide +kernel
theorem d_Ma_finishCalls_111 : decode b_Ma_finishCalls 111 = .ok (.iload 5, 2) := by decide +kernel
theorem d_Ma_finishCalls_113 : decode b_Ma_finishCalls 113 = .ok (.iaload, 1) := by decide +kernel
theorem d_Ma_finishCalls_114 : decode b_Ma_finishCalls 114 = .ok (.invokevirtual 85, 3) := by decide +kernel
theorem d_Ma_finishCalls_117 : decode b_Ma_finishCalls 117 = .ok (.istore_n 1, 1) := by decide +kernel
theorem d_Ma_finishCalls_118 : decode b_Ma_finishCalls 118 = .ok (.goto 53, 3) := by decide +kernel
theorem d_Ma_finishCalls_121 : decode b_Ma_finishCalls 121 = .ok (.aload 4, 2) := by decide +kernel
theorem d_Ma_finishCalls_123 : decode b_Ma_finishCalls 123 = .ok (.getfield 79, 3) := by decide +kernel
theorem d_Ma_finishCalls_126 : decode b_Ma_finishCalls 126 = .ok (.iload 5, 2) := by decide +kernel
theorem d_Ma_finishCalls_128 : decode b_Ma_finishCalls 128 = .ok (.iaload, 1) := by decide +kernel
theorem d_Ma_finishCalls_129 : decode b_Ma_finishCalls 129 = .ok (.iconst 1, 1) := by decide +kernel
theorem d_Ma_finishCalls_130 : decode b_Ma_finishCalls 130 = .ok (.if_icmp .ne 19, 3) := by decide +kernel
theorem d_Ma_finishCalls_133 : decode b_Ma_finishCalls 133 = .ok (.aload_n 0, 1) := by decide +kernel
theorem d_Ma_finishCalls_134 : decode b_Ma_finishCalls 134 = .ok (.aload 4, 2) := by decide +kernel
theorem d_Ma_finishCalls_136 : decode b_Ma_finishCalls 136 = .ok (.getfield 82, 3) := by decide +kernel
theorem d_Ma_finishCalls_139 : decode b_Ma_finishCalls 139 = .ok (.iload 5, 2) := by decide +kernel
theorem d_Ma_finishCalls_141 : decode b_Ma_finishCalls 141 = .ok (.iaload, 1) := by decide +kernel
theorem d_Ma_finishCalls_142 : decode b_Ma_finishCalls 142 = .ok (.invokevirtual 89, 3) := by decide +kernel
theorem d_Ma_finishCalls_145 : decode b_Ma_finishCalls 145 = .ok (.istore_n 1, 1) := by decide +kernel
theorem d_Ma_finishCalls_146 : decode b_Ma_finishCalls 146 = .ok (.goto 25, 3) := by decide +kernel
theorem d_Ma_finishCalls_149 : decode b_Ma_finishCalls 149 = .ok (.aload_n 0, 1) := by decide +kernel
theorem d_Ma_finishCalls_150 : decode b_Ma_finishCalls 150 = .ok (.aload_n 3, 1) := by decide +kernel
theorem d_Ma_finishCalls_151 : decode b_Ma_finishCalls 151 = .ok (.aload 4, 2) := by decide +kernel
theorem d_Ma_finishCalls_153 : decode b_Ma_finishCalls 153 = .ok (.getfield 79, 3) := by decide +kernel
theorem d_Ma_finishCalls_156 : decode b_Ma_finishCalls 156 = .ok (.iload 5, 2) := by decide +kernel
theorem d_Ma_finishCalls_158 : decode b_Ma_finishCalls 158 = .ok (.iaload, 1) := by decide +kernel
theorem d_Ma_finishCalls_159 : decode b_Ma_finishCalls 159 = .ok (.aload 4, 2) := by decide +kernel
theorem d_Ma_finishCalls_161 : decode b_Ma_finishCalls 161 = .ok (.getfield 82, 3) := by decide +kernel
theorem d_Ma_finishCalls_164 : decode b_Ma_finishCalls 164 = .ok (.iload 5, 2) := by decide +kernel
theorem d_Ma_finishCalls_166 : decode b_Ma_finishCalls 166 = .ok (.iaload, 1) := by decide +kernel
theorem d_Ma_finishCalls_167 : decode b_Ma_finishCalls 167 = .ok (.invokevirtual 92, 3) := by decide +kernel
theorem d_Ma_finishCalls_170 : decode b_Ma_finishCalls 170 = .ok (.istore_n 1, 1) := by decide +kernel
theorem d_Ma_finishCalls_171 : decode b_Ma_finishCalls 171 = .ok (.iinc 2 1, 3) := by decide +kernel
theorem d_Ma_finishCalls_174 : decode b_Ma_finishCalls 174 = .ok (.goto (-170), 3) := by decide +kernel
theorem d_Ma_finishCalls_177 : decode b_Ma_finishCalls 177 = .ok (.iload_n 1, 1) := by decide +kernel
theorem d_Ma_finishCalls_178 : decode b_Ma_finishCalls 178 = .ok (.ireturn, 1) := by decide +kernel
def wq_Ma_finishCalls_177 (g : Gm) (post : Int32 → StC → Prop)  (S : StC) (x1 : Int32) : Prop :=
  post (x1) S
def wq_Ma_finishCalls_171 (g : Gm) (post : Int32 → StC → Prop) (k4 : StC → Int32 → Int32 → Prop) (S : StC) (x1 : Int32) (x2 : Int32) : Prop :=
  k4 S (x1) ((x2 + 1))
def wq_Ma_finishCalls_61 (g : Gm) (post : Int32 → StC → Prop) (k4 : StC → Int32 → Int32 → Prop) (S : StC) (x1 : Int32) (x2 : Int32) : Prop :=
  wq_Ma_finishCalls_171 g post k4 ((upd S.1 5 (((S.1 5) - 1))), S.2) (x1) (x2)
def wq_Ma_finishCalls_4 (g : Gm) (post : Int32 → StC → Prop)  : Nat → StC → Int32 → Int32 → Prop
  | 0, _, _, _ => False
  | n4 + 1, S, x1, x2 =>
    ((2400 ≤ x2) → wq_Ma_finishCalls_177 g post  S (x1)) ∧ (¬ (2400 ≤ x2) → ((x1 = 0) → (((S.1 5) ≤ 0) → wq_Ma_finishCalls_177 g post  S (x1)) ∧ (¬ ((S.1 5) ≤ 0) → (vp_in ((S.1 5) - 1) 16) ∧ (∃ (y1 : Nat), (((S.2.2.2.2.1 1) (Int32.toNatClampNeg (((S.1 5) - 1)))) = some y1) ∧ (∃ (vs3 : List Value) (z7 : Option Nat), (y1 ∈ S.2.2.2.2.2.1) ∧ (S.2.2.2.2.2.2 y1 = .inr (9, vs3)) ∧ (vs3[0]? = some (va_rf (z7))) ∧ (∃ (vs8 : List Value) (z12 : Int32), (y1 ∈ S.2.2.2.2.2.1) ∧ (S.2.2.2.2.2.2 y1 = .inr (9, vs8)) ∧ (vs8[1]? = some (.int (z12))) ∧ (((z7) = none → wq_Ma_finishCalls_61 g post (wq_Ma_finishCalls_4 g post  n4) S (x1) (x2)) ∧ (∀ y13 : Nat, (z7) = some y13 → ∃ (vs15 : List Value) (z19 : Int32), (y13 ∈ S.2.2.2.2.2.1) ∧ (S.2.2.2.2.2.2 y13 = .inr (11, vs15)) ∧ (vs15[3]? = some (.int (z19))) ∧ (((z12 < z19) → wp_Ma_burn g (fun (r21 : Int32) (S20 : StC) => (((r21 = 0) → post (7) S20) ∧ (¬ (r21 = 0) → ∃ (vs22 : List Value) (z26 : Int32), (y1 ∈ S20.2.2.2.2.2.1) ∧ (S20.2.2.2.2.2.2 y1 = .inr (9, vs22)) ∧ (vs22[1]? = some (.int (z26))) ∧ (∃ (vs27 : List Value), (y1 ∈ S20.2.2.2.2.2.1) ∧ (S20.2.2.2.2.2.2 y1 = .inr (9, vs27)) ∧ (1 < vs27.length) ∧ (∃ (vs31 : List Value) (z35 : Nat), (y13 ∈ S20.2.2.2.2.2.1) ∧ ((va_up S20.2.2.2.2.2.2 y1 (.inr (9, vs27.set 1 (.int ((z26 + 1)))))) y13 = .inr (11, vs31)) ∧ (vs31[1]? = some (.ref (z35))) ∧ (∃ (n36 : Nat) (f37 : Nat → Int32), (z35 ∈ S20.2.2.2.2.2.1) ∧ ((va_up S20.2.2.2.2.2.2 y1 (.inr (9, vs27.set 1 (.int ((z26 + 1)))))) z35 = .inl (g.2.1 0, n36, .inl f37)) ∧ (vp_in z12 n36) ∧ ((((f37 (Int32.toNatClampNeg (z12))) = 0) → ∃ (vs85 : List Value) (z89 : Nat), (y13 ∈ S20.2.2.2.2.2.1) ∧ ((va_up S20.2.2.2.2.2.2 y1 (.inr (9, vs27.set 1 (.int ((z26 + 1)))))) y13 = .inr (11, vs85)) ∧ (vs85[2]? = some (.ref (z89))) ∧ (∃ (n90 : Nat) (f91 : Nat → Int32), (z89 ∈ S20.2.2.2.2.2.1) ∧ ((va_up S20.2.2.2.2.2.2 y1 (.inr (9, vs27.set 1 (.int ((z26 + 1)))))) z89 = .inl (g.2.1 0, n90, .inl f91)) ∧ (vp_in z12 n90) ∧ (wp_Ma_putNumber g (fun (r96 : Int32) (S95 : StC) => (wq_Ma_finishCalls_171 g post (wq_Ma_finishCalls_4 g post  n4) S95 (r96) (x2))) (S20.1, S20.2.1, S20.2.2.1, S20.2.2.2.1, S20.2.2.2.2.1, S20.2.2.2.2.2.1, (va_up S20.2.2.2.2.2.2 y1 (.inr (9, vs27.set 1 (.int ((z26 + 1))))))) ((f91 (Int32.toNatClampNeg (z12))))))) ∧ (¬ ((f37 (Int32.toNatClampNeg (z12))) = 0) → ∃ (vs41 : List Value) (z45 : Nat), (y13 ∈ S20.2.2.2.2.2.1) ∧ ((va_up S20.2.2.2.2.2.2 y1 (.inr (9, vs27.set 1 (.int ((z26 + 1)))))) y13 = .inr (11, vs41)) ∧ (vs41[1]? = some (.ref (z45))) ∧ (∃ (n46 : Nat) (f47 : Nat → Int32), (z45 ∈ S20.2.2.2.2.2.1) ∧ ((va_up S20.2.2.2.2.2.2 y1 (.inr (9, vs27.set 1 (.int ((z26 + 1)))))) z45 = .inl (g.2.1 0, n46, .inl f47)) ∧ (vp_in z12 n46) ∧ ((((f47 (Int32.toNatClampNeg (z12))) = 1) → ∃ (vs73 : List Value) (z77 : Nat), (y13 ∈ S20.2.2.2.2.2.1) ∧ ((va_up S20.2.2.2.2.2.2 y1 (.inr (9, vs27.set 1 (.int ((z26 + 1)))))) y13 = .inr (11, vs73)) ∧ (vs73[2]? = some (.ref (z77))) ∧ (∃ (n78 : Nat) (f79 : Nat → Int32), (z77 ∈ S20.2.2.2.2.2.1) ∧ ((va_up S20.2.2.2.2.2.2 y1 (.inr (9, vs27.set 1 (.int ((z26 + 1)))))) z77 = .inl (g.2.1 0, n78, .inl f79)) ∧ (vp_in z12 n78) ∧ (wp_Ma_start g (fun (r84 : Int32) (S83 : StC) => (wq_Ma_finishCalls_171 g post (wq_Ma_finishCalls_4 g post  n4) S83 (r84) (x2))) (S20.1, S20.2.1, S20.2.2.1, S20.2.2.2.1, S20.2.2.2.2.1, S20.2.2.2.2.2.1, (va_up S20.2.2.2.2.2.2 y1 (.inr (9, vs27.set 1 (.int ((z26 + 1))))))) ((f79 (Int32.toNatClampNeg (z12))))))) ∧ (¬ ((f47 (Int32.toNatClampNeg (z12))) = 1) → ∃ (vs51 : List Value) (z55 : Nat), (y13 ∈ S20.2.2.2.2.2.1) ∧ ((va_up S20.2.2.2.2.2.2 y1 (.inr (9, vs27.set 1 (.int ((z26 + 1)))))) y13 = .inr (11, vs51)) ∧ (vs51[1]? = some (.ref (z55))) ∧ (∃ (n56 : Nat) (f57 : Nat → Int32), (z55 ∈ S20.2.2.2.2.2.1) ∧ ((va_up S20.2.2.2.2.2.2 y1 (.inr (9, vs27.set 1 (.int ((z26 + 1)))))) z55 = .inl (g.2.1 0, n56, .inl f57)) ∧ (vp_in z12 n56) ∧ (∃ (vs61 : List Value) (z65 : Nat), (y13 ∈ S20.2.2.2.2.2.1) ∧ ((va_up S20.2.2.2.2.2.2 y1 (.inr (9, vs27.set 1 (.int ((z26 + 1)))))) y13 = .inr (11, vs61)) ∧ (vs61[2]? = some (.ref (z65))) ∧ (∃ (n66 : Nat) (f67 : Nat → Int32), (z65 ∈ S20.2.2.2.2.2.1) ∧ ((va_up S20.2.2.2.2.2.2 y1 (.inr (9, vs27.set 1 (.int ((z26 + 1)))))) z65 = .inl (g.2.1 0, n66, .inl f67)) ∧ (vp_in z12 n66) ∧ (wp_Ma_jump g (fun (r72 : Int32) (S71 : StC) => (wq_Ma_finishCalls_171 g post (wq_Ma_finishCalls_4 g post  n4) S71 (r72) (x2))) (S20.1, S20.2.1, S20.2.2.1, S20.2.2.2.1, S20.2.2.2.2.1, S20.2.2.2.2.2.1, (va_up S20.2.2.2.2.2.2 y1 (.inr (9, vs27.set 1 (.int ((z26 + 1))))))) (y1) ((f57 (Int32.toNatClampNeg (z12)))) ((f67 (Int32.toNatClampNeg (z12))))))))))))))))))) S ) ∧ (¬ (z12 < z19) → wq_Ma_finishCalls_61 g post (wq_Ma_finishCalls_4 g post  n4) S (x1) (x2)))))))))) ∧ (¬ (x1 = 0) → wq_Ma_finishCalls_177 g post  S (x1)))
def wp_Ma_finishCalls (g : Gm) (post : Int32 → StC → Prop) (S : StC)  : Prop :=
  ∃ nn : Nat, wq_Ma_finishCalls_4 g post  nn S (0) (0)
set_option maxRecDepth 100000 in
set_option maxHeartbeats 4000000 in
theorem c_Ma_finishCalls (l : Launch) (g : Gm) (sz : Nat) (S : StC)  (post : Int32 → StC → Prop) (hw : wp_Ma_finishCalls g post S ) : Met l y_Ma_finishCalls (.code y_Ma_finishCalls b_Ma_finishCalls 6 (some .int) :: w_C) (rmM 6 156) (va_Pc [.ref (g.2.2 3)] (PC g sz S)) (va_Qi post (BC g (AC g sz S)) (AC g sz S)) 0 0 (AC g sz S) := by
  refine ofC_i (by decide) (Nat.le_of_ble_eq_true rfl) (fun p e s m args below meth c Q A H locs ls hx hb hml hts hown hK hA hC hN kr hl hP hD hS => ?_)
  have hl : lv_has ls 6 [(0, .ref (g.2.2 3))] := hl
  unfold wp_Ma_finishCalls at hw
  have J177 : ∀ (S : StC) (x1 : Int32) (H : Heap) (locs : List Loc) (ls : Array Slot), wq_Ma_finishCalls_177 g post  S x1 → lv_has ls 6 [(1, .int (x1))] → va_P g.1 classes (wC g S) H → va_D A (wC g S) → va_S A s.heap H locs → W p l e (rmM 6 156) s m args below meth c H locs 0 0 Q (F0 m 177 ls []) := by
    intro S x1 H locs ls hw hl hP hD hS
    unfold wq_Ma_finishCalls_177 at hw
    refine lv_iload_n hx hb d_Ma_finishCalls_177 rfl (lv_at hl 0 rfl) ?_
    exact kr (x1) S _ _ _ _ hw hP hD hS d_Ma_finishCalls_178
  have J4 : ∀ (n4 : Nat), ∀ (S : StC) (x1 : Int32) (x2 : Int32) (H : Heap) (locs : List Loc) (ls : Array Slot), wq_Ma_finishCalls_4 g post  n4 S x1 x2 → lv_has ls 6 [(0, .ref (g.2.2 3)), (1, .int (x1)), (2, .int (x2))] → va_P g.1 classes (wC g S) H → va_D A (wC g S) → va_S A s.heap H locs → W p l e (rmM 6 156) s m args below meth c H locs 0 0 Q (F0 m 4 ls []) := by
    intro n4
    induction n4 with
    | zero => intro S x1 x2 H locs ls hw; exact hw.elim
    | succ n4 ih4 =>
      have J171 : ∀ (S : StC) (x1 : Int32) (x2 : Int32) (H : Heap) (locs : List Loc) (ls : Array Slot), wq_Ma_finishCalls_171 g post (wq_Ma_finishCalls_4 g post  n4) S x1 x2 → lv_has ls 6 [(0, .ref (g.2.2 3)), (1, .int (x1)), (2, .int (x2))] → va_P g.1 classes (wC g S) H → va_D A (wC g S) → va_S A s.heap H locs → W p l e (rmM 6 156) s m args below meth c H locs 0 0 Q (F0 m 171 ls []) := by
        intro S x1 x2 H locs ls hw hl hP hD hS
        unfold wq_Ma_finishCalls_171 at hw
        refine lv_iinc (k := 2) (v := (x2 + 1)) (lv' := [(2, .int ((x2 + 1))), (0, .ref (g.2.2 3)), (1, .int (x1))]) hx hb d_Ma_finishCalls_171 hl rfl rfl (by decide) rfl (fun ls hl => ?_)
        refine lv_goto hx hb d_Ma_finishCalls_174 (tgt := 4) (by decide) ?_
        exact ih4 S (x1) ((x2 + 1)) _ _ _ hw (lv_sub hl [1, 2, 0] rfl) hP hD hS
      have J61 : ∀ (S : StC) (x1 : Int32) (x2 : Int32) (H : Heap) (locs : List Loc) (ls : Array Slot), wq_Ma_finishCalls_61 g post (wq_Ma_finishCalls_4 g post  n4) S x1 x2 → lv_has ls 6 [(0, .ref (g.2.2 3)), (1, .int (x1)), (2, .int (x2))] → va_P g.1 classes (wC g S) H → va_D A (wC g S) → va_S A s.heap H locs → W p l e (rmM 6 156) s m args below meth c H locs 0 0 Q (F0 m 61 ls []) := by
        intro S x1 x2 H locs ls hw hl hP hD hS
        unfold wq_Ma_finishCalls_61 at hw
        refine lv_aload_n hx hb d_Ma_finishCalls_61 rfl (lv_at hl 0 rfl) ?_
        refine lv_dup hx hb d_Ma_finishCalls_62 rfl ?_
        refine va_get (D := g.1) (ci := 5) (v := .int ((S.1 5))) (C := R_Ma) (T := F_Ma) (N := 9) hx hb hts hin_Ma hown hK hP 3 rfl rfl 5 (by decide) (hts _ k_C_111) (fun _ h9 => h9) rfl d_Ma_finishCalls_63 ?_
        refine lv_iconst (v := 1) hx hb d_Ma_finishCalls_66 (by decide) ?_
        refine lv_isub hx hb d_Ma_finishCalls_67 ?_
        refine pt_C (S2 := ((upd S.1 5 (((S.1 5) - 1))), S.2)) (v := .int (((S.1 5) - 1))) (C := R_Ma) (F := F_Ma) (N := 9) (ci := 5) hx hb hts hin_Ma t_Ma t_Ma_ok n_Ma hown hK hP hD hS 3 rfl rfl 5 (by decide) rfl rfl rfl (Nat.le_of_ble_eq_true rfl) (sI_C_5 g _ _) k_C_111 d_Ma_finishCalls_68 (fun H locs hP hD hS => ?_)
        refine lv_goto hx hb d_Ma_finishCalls_71 (tgt := 171) (by decide) ?_
        exact J171 ((upd S.1 5 (((S.1 5) - 1))), S.2) (x1) (x2) _ _ _ hw (lv_sub hl [0, 1, 2] rfl) hP hD hS
      intro S x1 x2 H locs ls hw hl hP hD hS
      unfold wq_Ma_finishCalls_4 at hw
      refine lv_iload_n hx hb d_Ma_finishCalls_4 rfl (lv_at hl 2 rfl) ?_
      refine lv_sipush (v := 2400) hx hb d_Ma_finishCalls_5 (by decide) ?_
      refine lv_icmp_ge hx hb d_Ma_finishCalls_8 (tgt := 177) (by decide) (fun hc => ?_) (fun hc => ?_)
      · have hw := hw.1 hc
        exact J177 S (x1) _ _ _ hw (lv_sub hl [1] rfl) hP hD hS
      · have hw := hw.2 hc
        refine lv_iload_n hx hb d_Ma_finishCalls_11 rfl (lv_at hl 1 rfl) ?_
        refine lv_if_ne hx hb d_Ma_finishCalls_12 (tgt := 177) (by decide) (fun hc => ?_) (fun hc => ?_)
        · have hw := hw.2 hc
          exact J177 S (x1) _ _ _ hw (lv_sub hl [1] rfl) hP hD hS
        · have hw := hw.1 hc
          refine lv_aload_n hx hb d_Ma_finishCalls_15 rfl (lv_at hl 0 rfl) ?_
          refine va_get (D := g.1) (ci := 5) (v := .int ((S.1 5))) (C := R_Ma) (T := F_Ma) (N := 9) hx hb hts hin_Ma hown hK hP 3 rfl rfl 5 (by decide) (hts _ k_C_111) (fun _ h9 => h9) rfl d_Ma_finishCalls_16 ?_
          refine lv_if_le hx hb d_Ma_finishCalls_19 (tgt := 177) (by decide) (fun hc => ?_) (fun hc => ?_)
          · have hw := hw.1 hc
            exact J177 S (x1) _ _ _ hw (lv_sub hl [1] rfl) hP hD hS
          · have hw := hw.2 hc
            refine lv_aload_n hx hb d_Ma_finishCalls_22 rfl (lv_at hl 0 rfl) ?_
            refine va_get (D := g.1) (ci := 5) (v := .ref (g.2.2 15)) (C := R_Ma) (T := F_Ma) (N := 9) hx hb hts hin_Ma hown hK hP 3 rfl rfl 4 (by decide) (hts _ k_C_110) (fun _ h9 => h9) rfl d_Ma_finishCalls_23 ?_
            refine lv_aload_n hx hb d_Ma_finishCalls_26 rfl (lv_at hl 0 rfl) ?_
            refine va_get (D := g.1) (ci := 5) (v := .int ((S.1 5))) (C := R_Ma) (T := F_Ma) (N := 9) hx hb hts hin_Ma hown hK hP 3 rfl rfl 5 (by decide) (hts _ k_C_111) (fun _ h9 => h9) rfl d_Ma_finishCalls_27 ?_
            refine lv_iconst (v := 1) hx hb d_Ma_finishCalls_30 (by decide) ?_
            refine lv_isub hx hb d_Ma_finishCalls_31 ?_
            obtain ⟨hi, hw⟩ := hw
            refine va_aldq (f := (S.2.2.2.2.1 1)) hx hb hK hP 15 4 rfl rfl hi d_Ma_finishCalls_32 ?_
            obtain ⟨y1, hy2, hw⟩ := hw
            refine W_rf hy2 ?_
            refine lv_astore_n (lv' := [(3, .ref (y1)), (0, .ref (g.2.2 3)), (1, .int (x1)), (2, .int (x2))]) hx hb d_Ma_finishCalls_33 rfl hl (by decide) rfl (fun ls hl => ?_)
            refine lv_aload_n hx hb d_Ma_finishCalls_34 rfl (lv_at hl 0 rfl) ?_
            obtain ⟨vs3, z7, ha4, hf5, hv6, hw⟩ := hw
            refine pgN_C (S := S) (vs := vs3) (v := va_rf (z7)) (C := R_Ca) (F := F_Ca) (N := 5) hx hb hts hin_Ca hown hK hP ha4 hf5 rfl 0 (by decide) hv6 (va_Nw.use rfl (hN.1 _ kn_C_12)) d_Ma_finishCalls_35 ?_
            refine lv_astoreq (lv' := [(4, va_rf (z7)), (3, .ref (y1)), (0, .ref (g.2.2 3)), (1, .int (x1)), (2, .int (x2))]) hx hb d_Ma_finishCalls_38 hl (by decide) rfl (fun ls hl => ?_)
            refine lv_aload_n hx hb d_Ma_finishCalls_40 rfl (lv_at hl 1 rfl) ?_
            obtain ⟨vs8, z12, ha9, hf10, hv11, hw⟩ := hw
            refine pgN_C (S := S) (vs := vs8) (v := .int (z12)) (C := R_Ca) (F := F_Ca) (N := 5) hx hb hts hin_Ca hown hK hP ha9 hf10 rfl 1 (by decide) hv11 (va_Nw.use rfl (hN.1 _ kn_C_13)) d_Ma_finishCalls_41 ?_
            refine lv_istore (lv' := [(5, .int (z12)), (4, va_rf (z7)), (3, .ref (y1)), (0, .ref (g.2.2 3)), (1, .int (x1)), (2, .int (x2))]) hx hb d_Ma_finishCalls_44 hl (by decide) (by first | (cases z7 <;> rfl) | simp [rf_cat]) (fun ls hl => ?_)
            refine lv_aloadq hx hb d_Ma_finishCalls_46 (lv_at hl 1 rfl) ?_
            refine lv_ifnullq hx hb d_Ma_finishCalls_48 (tgt := 61) (by decide) (fun hq14 => ?_) (fun y13 hq14 => ?_)
            · have hw := hw.1 hq14
              have hl : lv_has ls 6 [(5, .int (z12)), (4, .null), (3, .ref (y1)), (0, .ref (g.2.2 3)), (1, .int (x1)), (2, .int (x2))] := by rw [hq14] at hl; exact hl
              exact J61 S (x1) (x2) _ _ _ hw (lv_sub hl [3, 4, 5] rfl) hP hD hS
            · have hw := hw.2 y13 hq14
              have hl : lv_has ls 6 [(5, .int (z12)), (4, .ref (y13)), (3, .ref (y1)), (0, .ref (g.2.2 3)), (1, .int (x1)), (2, .int (x2))] := by rw [hq14] at hl; exact hl
              refine lv_iload hx hb d_Ma_finishCalls_51 (lv_at hl 0 rfl) ?_
              refine lv_aload hx hb d_Ma_finishCalls_53 (lv_at hl 1 rfl) ?_
              obtain ⟨vs15, z19, ha16, hf17, hv18, hw⟩ := hw
              refine pgN_C (S := S) (vs := vs15) (v := .int (z19)) (C := R_Mw) (F := F_Mw) (N := 5) hx hb hts hin_Mw hown hK hP ha16 hf17 rfl 3 (by decide) hv18 (va_Nw.use rfl (hN.1 _ kn_C_32)) d_Ma_finishCalls_55 ?_
              refine lv_icmp_lt hx hb d_Ma_finishCalls_58 (tgt := 74) (by decide) (fun hc => ?_) (fun hc => ?_)
              · have hw := hw.1 hc
                refine lv_aload_n hx hb d_Ma_finishCalls_74 rfl (lv_at hl 3 rfl) ?_
                refine cC_iV (As := []) (rest := []) hx hb hml hown hts hK hC hN hP hD hS hA (Nat.zero_le _) (Nat.zero_le _) hl.1 (va_recv (q0 := 3) (ci := 5) (q := (R_Ma, F_Ma, 9)) hK hP rfl rfl) (qC_61 hts ⟨Nat.le_of_ble_eq_true rfl, Nat.le_of_ble_eq_true rfl⟩) (c_Ma_burn l g H.size _  _ hw) rfl rfl (Nat.le_of_ble_eq_true rfl) d_Ma_finishCalls_75 (fun r21 S20 H locs hw hP hD hS => ?_)
                refine lv_if_ne hx hb d_Ma_finishCalls_78 (tgt := 84) (by decide) (fun hc => ?_) (fun hc => ?_)
                · have hw := hw.2 hc
                  refine lv_aload_n hx hb d_Ma_finishCalls_84 rfl (lv_at hl 2 rfl) ?_
                  refine lv_dup hx hb d_Ma_finishCalls_85 rfl ?_
                  obtain ⟨vs22, z26, ha23, hf24, hv25, hw⟩ := hw
                  refine pgN_C (S := S20) (vs := vs22) (v := .int (z26)) (C := R_Ca) (F := F_Ca) (N := 5) hx hb hts hin_Ca hown hK hP ha23 hf24 rfl 1 (by decide) hv25 (va_Nw.use rfl (hN.1 _ kn_C_13)) d_Ma_finishCalls_86 ?_
                  refine lv_iconst (v := 1) hx hb d_Ma_finishCalls_89 (by decide) ?_
                  refine lv_iadd hx hb d_Ma_finishCalls_90 ?_
                  obtain ⟨vs27, ha28, hf29, hk30, hw⟩ := hw
                  refine ppN_C (S := S20) (vs := vs27) (v := .int ((z26 + 1))) (C := R_Ca) (F := F_Ca) (N := 5) hx hb hts hin_Ca t_Ca t_Ca_ok n_Ca hown hK hP hD hS ha28 hf29 rfl 1 (by decide) rfl rfl rfl hk30 (va_Nw.use rfl (hN.1 _ kn_C_13)) d_Ma_finishCalls_91 (fun H locs hP hD hS => ?_)
                  have hP : va_P g.1 classes (wC g (S20.1, S20.2.1, S20.2.2.1, S20.2.2.2.1, S20.2.2.2.2.1, S20.2.2.2.2.2.1, (va_up S20.2.2.2.2.2.2 y1 (.inr (9, vs27.set 1 (.int ((z26 + 1)))))))) H := hP
                  have hD : va_D A (wC g (S20.1, S20.2.1, S20.2.2.1, S20.2.2.2.1, S20.2.2.2.2.1, S20.2.2.2.2.2.1, (va_up S20.2.2.2.2.2.2 y1 (.inr (9, vs27.set 1 (.int ((z26 + 1)))))))) := hD
                  refine lv_aload hx hb d_Ma_finishCalls_94 (lv_at hl 1 rfl) ?_
                  obtain ⟨vs31, z35, ha32, hf33, hv34, hw⟩ := hw
                  refine pgN_C (S := (S20.1, S20.2.1, S20.2.2.1, S20.2.2.2.1, S20.2.2.2.2.1, S20.2.2.2.2.2.1, (va_up S20.2.2.2.2.2.2 y1 (.inr (9, vs27.set 1 (.int ((z26 + 1)))))))) (vs := vs31) (v := .ref (z35)) (C := R_Mw) (F := F_Mw) (N := 5) hx hb hts hin_Mw hown hK hP ha32 hf33 rfl 1 (by decide) hv34 (va_Nw.use rfl (hN.1 _ kn_C_30)) d_Ma_finishCalls_96 ?_
                  refine lv_iload hx hb d_Ma_finishCalls_99 (lv_at hl 0 rfl) ?_
                  obtain ⟨n36, f37, ha38, hf39, hi40, hw⟩ := hw
                  refine pil_C (S := (S20.1, S20.2.1, S20.2.2.1, S20.2.2.2.1, S20.2.2.2.2.1, S20.2.2.2.2.2.1, (va_up S20.2.2.2.2.2.2 y1 (.inr (9, vs27.set 1 (.int ((z26 + 1)))))))) hx hb hK hP ha38 hf39 hi40 d_Ma_finishCalls_101 ?_
                  refine lv_if_ne hx hb d_Ma_finishCalls_102 (tgt := 121) (by decide) (fun hc => ?_) (fun hc => ?_)
                  · have hw := hw.2 hc
                    refine lv_aload hx hb d_Ma_finishCalls_121 (lv_at hl 1 rfl) ?_
                    obtain ⟨vs41, z45, ha42, hf43, hv44, hw⟩ := hw
                    refine pgN_C (S := (S20.1, S20.2.1, S20.2.2.1, S20.2.2.2.1, S20.2.2.2.2.1, S20.2.2.2.2.2.1, (va_up S20.2.2.2.2.2.2 y1 (.inr (9, vs27.set 1 (.int ((z26 + 1)))))))) (vs := vs41) (v := .ref (z45)) (C := R_Mw) (F := F_Mw) (N := 5) hx hb hts hin_Mw hown hK hP ha42 hf43 rfl 1 (by decide) hv44 (va_Nw.use rfl (hN.1 _ kn_C_30)) d_Ma_finishCalls_123 ?_
                    refine lv_iload hx hb d_Ma_finishCalls_126 (lv_at hl 0 rfl) ?_
                    obtain ⟨n46, f47, ha48, hf49, hi50, hw⟩ := hw
                    refine pil_C (S := (S20.1, S20.2.1, S20.2.2.1, S20.2.2.2.1, S20.2.2.2.2.1, S20.2.2.2.2.2.1, (va_up S20.2.2.2.2.2.2 y1 (.inr (9, vs27.set 1 (.int ((z26 + 1)))))))) hx hb hK hP ha48 hf49 hi50 d_Ma_finishCalls_128 ?_
                    refine lv_iconst (v := 1) hx hb d_Ma_finishCalls_129 (by decide) ?_
                    refine lv_icmp_ne hx hb d_Ma_finishCalls_130 (tgt := 149) (by decide) (fun hc => ?_) (fun hc => ?_)
                    · have hw := hw.2 hc
                      refine lv_aload_n hx hb d_Ma_finishCalls_149 rfl (lv_at hl 3 rfl) ?_
                      refine lv_aload_n hx hb d_Ma_finishCalls_150 rfl (lv_at hl 2 rfl) ?_
                      refine lv_aload hx hb d_Ma_finishCalls_151 (lv_at hl 1 rfl) ?_
                      obtain ⟨vs51, z55, ha52, hf53, hv54, hw⟩ := hw
                      refine pgN_C (S := (S20.1, S20.2.1, S20.2.2.1, S20.2.2.2.1, S20.2.2.2.2.1, S20.2.2.2.2.2.1, (va_up S20.2.2.2.2.2.2 y1 (.inr (9, vs27.set 1 (.int ((z26 + 1)))))))) (vs := vs51) (v := .ref (z55)) (C := R_Mw) (F := F_Mw) (N := 5) hx hb hts hin_Mw hown hK hP ha52 hf53 rfl 1 (by decide) hv54 (va_Nw.use rfl (hN.1 _ kn_C_30)) d_Ma_finishCalls_153 ?_
                      refine lv_iload hx hb d_Ma_finishCalls_156 (lv_at hl 0 rfl) ?_
                      obtain ⟨n56, f57, ha58, hf59, hi60, hw⟩ := hw
                      refine pil_C (S := (S20.1, S20.2.1, S20.2.2.1, S20.2.2.2.1, S20.2.2.2.2.1, S20.2.2.2.2.2.1, (va_up S20.2.2.2.2.2.2 y1 (.inr (9, vs27.set 1 (.int ((z26 + 1)))))))) hx hb hK hP ha58 hf59 hi60 d_Ma_finishCalls_158 ?_
                      refine lv_aload hx hb d_Ma_finishCalls_159 (lv_at hl 1 rfl) ?_
                      obtain ⟨vs61, z65, ha62, hf63, hv64, hw⟩ := hw
                      refine pgN_C (S := (S20.1, S20.2.1, S20.2.2.1, S20.2.2.2.1, S20.2.2.2.2.1, S20.2.2.2.2.2.1, (va_up S20.2.2.2.2.2.2 y1 (.inr (9, vs27.set 1 (.int ((z26 + 1)))))))) (vs := vs61) (v := .ref (z65)) (C := R_Mw) (F := F_Mw) (N := 5) hx hb hts hin_Mw hown hK hP ha62 hf63 rfl 2 (by decide) hv64 (va_Nw.use rfl (hN.1 _ kn_C_31)) d_Ma_finishCalls_161 ?_
                      refine lv_iload hx hb d_Ma_finishCalls_164 (lv_at hl 0 rfl) ?_
                      obtain ⟨n66, f67, ha68, hf69, hi70, hw⟩ := hw
                      refine pil_C (S := (S20.1, S20.2.1, S20.2.2.1, S20.2.2.2.1, S20.2.2.2.2.1, S20.2.2.2.2.2.1, (va_up S20.2.2.2.2.2.2 y1 (.inr (9, vs27.set 1 (.int ((z26 + 1)))))))) hx hb hK hP ha68 hf69 hi70 d_Ma_finishCalls_166 ?_
                      refine cC_iV (As := [.ref (y1), .int ((f57 (Int32.toNatClampNeg (z12)))), .int ((f67 (Int32.toNatClampNeg (z12))))]) (rest := []) hx hb hml hown hts hK hC hN hP hD hS hA (Nat.zero_le _) (Nat.zero_le _) hl.1 (va_recv (q0 := 3) (ci := 5) (q := (R_Ma, F_Ma, 9)) hK hP rfl rfl) (qC_62 hts ⟨Nat.le_of_ble_eq_true rfl, Nat.le_of_ble_eq_true rfl⟩) (c_Ma_jump l g H.size _ (y1) ((f57 (Int32.toNatClampNeg (z12)))) ((f67 (Int32.toNatClampNeg (z12)))) _ hw) rfl rfl (Nat.le_of_ble_eq_true rfl) d_Ma_finishCalls_167 (fun r72 S71 H locs hw hP hD hS => ?_)
                      refine lv_istore_n (lv' := [(1, .int (r72)), (5, .int (z12)), (4, .ref (y13)), (3, .ref (y1)), (0, .ref (g.2.2 3)), (2, .int (x2))]) hx hb d_Ma_finishCalls_170 rfl hl (by decide) rfl (fun ls hl => ?_)
                      exact J171 S71 (r72) (x2) _ _ _ hw (lv_sub hl [4, 0, 5] rfl) hP hD hS
                    · have hw := hw.1 hc
                      refine lv_aload_n hx hb d_Ma_finishCalls_133 rfl (lv_at hl 3 rfl) ?_
                      refine lv_aload hx hb d_Ma_finishCalls_134 (lv_at hl 1 rfl) ?_
                      obtain ⟨vs73, z77, ha74, hf75, hv76, hw⟩ := hw
                      refine pgN_C (S := (S20.1, S20.2.1, S20.2.2.1, S20.2.2.2.1, S20.2.2.2.2.1, S20.2.2.2.2.2.1, (va_up S20.2.2.2.2.2.2 y1 (.inr (9, vs27.set 1 (.int ((z26 + 1)))))))) (vs := vs73) (v := .ref (z77)) (C := R_Mw) (F := F_Mw) (N := 5) hx hb hts hin_Mw hown hK hP ha74 hf75 rfl 2 (by decide) hv76 (va_Nw.use rfl (hN.1 _ kn_C_31)) d_Ma_finishCalls_136 ?_
                      refine lv_iload hx hb d_Ma_finishCalls_139 (lv_at hl 0 rfl) ?_
                      obtain ⟨n78, f79, ha80, hf81, hi82, hw⟩ := hw
                      refine pil_C (S := (S20.1, S20.2.1, S20.2.2.1, S20.2.2.2.1, S20.2.2.2.2.1, S20.2.2.2.2.2.1, (va_up S20.2.2.2.2.2.2 y1 (.inr (9, vs27.set 1 (.int ((z26 + 1)))))))) hx hb hK hP ha80 hf81 hi82 d_Ma_finishCalls_141 ?_
                      refine cC_iV (As := [.int ((f79 (Int32.toNatClampNeg (z12))))]) (rest := []) hx hb hml hown hts hK hC hN hP hD hS hA (Nat.zero_le _) (Nat.zero_le _) hl.1 (va_recv (q0 := 3) (ci := 5) (q := (R_Ma, F_Ma, 9)) hK hP rfl rfl) (qC_63 hts ⟨Nat.le_of_ble_eq_true rfl, Nat.le_of_ble_eq_true rfl⟩) (c_Ma_start l g H.size _ ((f79 (Int32.toNatClampNeg (z12)))) _ hw) rfl rfl (Nat.le_of_ble_eq_true rfl) d_Ma_finishCalls_142 (fun r84 S83 H locs hw hP hD hS => ?_)
                      refine lv_istore_n (lv' := [(1, .int (r84)), (5, .int (z12)), (4, .ref (y13)), (3, .ref (y1)), (0, .ref (g.2.2 3)), (2, .int (x2))]) hx hb d_Ma_finishCalls_145 rfl hl (by decide) rfl (fun ls hl => ?_)
                      refine lv_goto hx hb d_Ma_finishCalls_146 (tgt := 171) (by decide) ?_
                      exact J171 S83 (r84) (x2) _ _ _ hw (lv_sub hl [4, 0, 5] rfl) hP hD hS
                  · have hw := hw.1 hc
                    refine lv_aload_n hx hb d_Ma_finishCalls_105 rfl (lv_at hl 3 rfl) ?_
                    refine lv_aload hx hb d_Ma_finishCalls_106 (lv_at hl 1 rfl) ?_
                    obtain ⟨vs85, z89, ha86, hf87, hv88, hw⟩ := hw
                    refine pgN_C (S := (S20.1, S20.2.1, S20.2.2.1, S20.2.2.2.1, S20.2.2.2.2.1, S20.2.2.2.2.2.1, (va_up S20.2.2.2.2.2.2 y1 (.inr (9, vs27.set 1 (.int ((z26 + 1)))))))) (vs := vs85) (v := .ref (z89)) (C := R_Mw) (F := F_Mw) (N := 5) hx hb hts hin_Mw hown hK hP ha86 hf87 rfl 2 (by decide) hv88 (va_Nw.use rfl (hN.1 _ kn_C_31)) d_Ma_finishCalls_108 ?_
                    refine lv_iload hx hb d_Ma_finishCalls_111 (lv_at hl 0 rfl) ?_
                    obtain ⟨n90, f91, ha92, hf93, hi94, hw⟩ := hw
                    refine pil_C (S := (S20.1, S20.2.1, S20.2.2.1, S20.2.2.2.1, S20.2.2.2.2.1, S20.2.2.2.2.2.1, (va_up S20.2.2.2.2.2.2 y1 (.inr (9, vs27.set 1 (.int ((z26 + 1)))))))) hx hb hK hP ha92 hf93 hi94 d_Ma_finishCalls_113 ?_
                    refine cC_iV (As := [.int ((f91 (Int32.toNatClampNeg (z12))))]) (rest := []) hx hb hml hown hts hK hC hN hP hD hS hA (Nat.zero_le _) (Nat.zero_le _) hl.1 (va_recv (q0 := 3) (ci := 5) (q := (R_Ma, F_Ma, 9)) hK hP rfl rfl) (qC_64 hts ⟨Nat.le_of_ble_eq_true rfl, Nat.le_of_ble_eq_true rfl⟩) (c_Ma_putNumber l g H.size _ ((f91 (Int32.toNatClampNeg (z12)))) _ hw) rfl rfl (Nat.le_of_ble_eq_true rfl) d_Ma_finishCalls_114 (fun r96 S95 H locs hw hP hD hS => ?_)
                    refine lv_istore_n (lv' := [(1, .int (r96)), (5, .int (z12)), (4, .ref (y13)), (3, .ref (y1)), (0, .ref (g.2.2 3)), (2, .int (x2))]) hx hb d_Ma_finishCalls_117 rfl hl (by decide) rfl (fun ls hl => ?_)
                    refine lv_goto hx hb d_Ma_finishCalls_118 (tgt := 171) (by decide) ?_
                    exact J171 S95 (r96) (x2) _ _ _ hw (lv_sub hl [4, 0, 5] rfl) hP hD hS
                · have hw := hw.1 hc
                  refine lv_bipush (v := 7) hx hb d_Ma_finishCalls_81 (by decide) ?_
                  exact kr (7) S20 _ _ _ _ hw hP hD hS d_Ma_finishCalls_83
              · have hw := hw.2 hc
                exact J61 S (x1) (x2) _ _ _ hw (lv_sub hl [3, 4, 5] rfl) hP hD hS
  refine lv_iconst (v := 0) hx hb d_Ma_finishCalls_0 (by decide) ?_
  refine lv_istore_n (lv' := [(1, .int (0)), (0, .ref (g.2.2 3))]) hx hb d_Ma_finishCalls_1 rfl hl (by decide) rfl (fun ls hl => ?_)
  refine lv_iconst (v := 0) hx hb d_Ma_finishCalls_2 (by decide) ?_
  refine lv_istore_n (lv' := [(2, .int (0)), (1, .int (0)), (0, .ref (g.2.2 3))]) hx hb d_Ma_finishCalls_3 rfl hl (by decide) rfl (fun ls hl => ?_)
  obtain ⟨nn, hw⟩ := hw
  exact J4 nn S (0) (0) _ _ _ hw (lv_sub hl [2, 1, 0] rfl) hP hD hS
