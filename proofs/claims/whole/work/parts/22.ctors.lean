theorem d_N_init_0 : decode b_N_init 0 = .ok (.aload_n 0, 1) := by decide +kernel
theorem d_N_init_1 : decode b_N_init 1 = .ok (.invokespecial 3, 3) := by decide +kernel
theorem d_N_init_4 : decode b_N_init 4 = .ok (.aload_n 0, 1) := by decide +kernel
theorem d_N_init_5 : decode b_N_init 5 = .ok (.bipush 24, 2) := by decide +kernel
theorem d_N_init_7 : decode b_N_init 7 = .ok (.newarray .int, 2) := by decide +kernel
theorem d_N_init_9 : decode b_N_init 9 = .ok (.putfield 9, 3) := by decide +kernel
theorem d_N_init_12 : decode b_N_init 12 = .ok (.return_, 1) := by decide +kernel
def wp_N_init (g : Gm) (post : StP → Prop) (mc ms : Nat) (S : StP) (h0 : Nat) : Prop :=
  (¬ (24 : Int32) < 0) ∧ ((Int32.toNatClampNeg (24)) * 4 ≤ 536870912) ∧ (0 + 1 ≤ mc) ∧ (0 + (Int32.toNatClampNeg (24)) ≤ ms) ∧ (∀ q1 : Nat, q1 ∉ S.1 → ∃ (vs3 : List Value), (h0 ∈ (S.1 ++ [q1])) ∧ ((va_up S.2 q1 (.inl (g.2.1 0, (Int32.toNatClampNeg (24)), .inl (fun _ => 0)))) h0 = .inr (6, vs3)) ∧ (0 < vs3.length) ∧ (post ((S.1 ++ [q1]), (va_up (va_up S.2 q1 (.inl (g.2.1 0, (Int32.toNatClampNeg (24)), .inl (fun _ => 0)))) h0 (.inr (6, vs3.set 0 (.ref (q1))))))))
set_option maxRecDepth 100000 in
set_option maxHeartbeats 4000000 in
theorem c_N_init (l : Launch) (g : Gm) (sz : Nat) (S : StP) (h0 : Nat) (post : StP → Prop) (mc ms : Nat) (hw : wp_N_init g post mc ms S h0) : Met l y_N_init (.code y_N_init b_N_init 1 none :: w_C) (rmA 1 20 mc ms) (va_Pc [.ref (h0)] (PP g sz S)) (va_Qv post (BP g (AP sz S)) (AP sz S)) mc ms (AP sz S) := by
  refine ofP_v (by decide) (Nat.le_of_ble_eq_true rfl) (fun p e s m args below meth c Q A H locs ls hx hb hml hts hown hK hA hC hN hmn kr hl hP hD hS => ?_)
  have hl : lv_has ls 1 [(0, .ref (h0))] := hl
  unfold wp_N_init at hw
  have hcm : 0 ≤ mc := Nat.zero_le _
  have hzm : 0 ≤ ms := Nat.zero_le _
  refine lv_aload_n hx hb d_N_init_0 rfl (lv_at hl 0 rfl) ?_
  refine W.objInit hx hb hown (hts _ k_C_67) (hts _ k_C_26) (hts _ k_C_27) rfl (by rw [hml]; exact hl.1) rfl d_N_init_1 (Nat.le_of_ble_eq_true rfl) (Nat.le_of_ble_eq_true rfl) ?_
  refine W.eq (g2 := F0 m 4 ls []) rfl ?_
  refine lv_aload_n hx hb d_N_init_4 rfl (lv_at hl 0 rfl) ?_
  refine lv_bipush (v := 24) hx hb d_N_init_5 (by decide) ?_
  obtain ⟨hn9, hb9, hcm, hzm, hw⟩ := hw
  refine pni_P (S := S) hx hb hts k_C_71 hK hP hD hS hA hn9 hb9 hcm hzm d_N_init_7 (fun q1 H hq2 hP hD hS => ?_)
  have hP : va_P g.1 classes (wP ((S.1 ++ [q1]), (va_up S.2 q1 (.inl (g.2.1 0, (Int32.toNatClampNeg (24)), .inl (fun _ => 0)))))) H := hP
  have hD : va_D A (wP ((S.1 ++ [q1]), (va_up S.2 q1 (.inl (g.2.1 0, (Int32.toNatClampNeg (24)), .inl (fun _ => 0)))))) := hD
  have hw := hw q1 hq2
  obtain ⟨vs3, ha4, hf5, hk6, hw⟩ := hw
  refine ppF_P (S := ((S.1 ++ [q1]), (va_up S.2 q1 (.inl (g.2.1 0, (Int32.toNatClampNeg (24)), .inl (fun _ => 0)))))) (vs := vs3) (v := .ref (q1)) (C := R_N) (F := F_N) (N := 2) hx hb hts hin_N t_N t_N_ok n_N hown hK hP hD hS ha4 hf5 rfl 0 (by decide) rfl hmn rfl rfl rfl hk6 k_C_68 d_N_init_9 (fun H locs hP hD hS => ?_)
  have hP : va_P g.1 classes (wP ((S.1 ++ [q1]), (va_up (va_up S.2 q1 (.inl (g.2.1 0, (Int32.toNatClampNeg (24)), .inl (fun _ => 0)))) h0 (.inr (6, vs3.set 0 (.ref (q1))))))) H := hP
  have hD : va_D A (wP ((S.1 ++ [q1]), (va_up (va_up S.2 q1 (.inl (g.2.1 0, (Int32.toNatClampNeg (24)), .inl (fun _ => 0)))) h0 (.inr (6, vs3.set 0 (.ref (q1))))))) := hD
  exact kr ((S.1 ++ [q1]), (va_up (va_up S.2 q1 (.inl (g.2.1 0, (Int32.toNatClampNeg (24)), .inl (fun _ => 0)))) h0 (.inr (6, vs3.set 0 (.ref (q1)))))) _ _ _ _ _ _ hcm hzm hw hP hD hS d_N_init_12
theorem d_Me_init_0 : decode b_Me_init 0 = .ok (.aload_n 0, 1) := by decide +kernel
theorem d_Me_init_1 : decode b_Me_init 1 = .ok (.invokespecial 3, 3) := by decide +kernel
theorem d_Me_init_4 : decode b_Me_init 4 = .ok (.aload_n 0, 1) := by decide +kernel
theorem d_Me_init_5 : decode b_Me_init 5 = .ok (.bipush 96, 2) := by decide +kernel
theorem d_Me_init_7 : decode b_Me_init 7 = .ok (.newarray .int, 2) := by decide +kernel
theorem d_Me_init_9 : decode b_Me_init 9 = .ok (.putfield 9, 3) := by decide +kernel
theorem d_Me_init_12 : decode b_Me_init 12 = .ok (.aload_n 0, 1) := by decide +kernel
theorem d_Me_init_13 : decode b_Me_init 13 = .ok (.iconst 4, 1) := by decide +kernel
theorem d_Me_init_14 : decode b_Me_init 14 = .ok (.bipush 16, 2) := by decide +kernel
theorem d_Me_init_16 : decode b_Me_init 16 = .ok (.multianewarray 15 2, 4) := by decide +kernel
theorem d_Me_init_20 : decode b_Me_init 20 = .ok (.putfield 17, 3) := by decide +kernel
theorem d_Me_init_23 : decode b_Me_init 23 = .ok (.aload_n 0, 1) := by decide +kernel
theorem d_Me_init_24 : decode b_Me_init 24 = .ok (.iconst 2, 1) := by decide +kernel
theorem d_Me_init_25 : decode b_Me_init 25 = .ok (.newarray .int, 2) := by decide +kernel
theorem d_Me_init_27 : decode b_Me_init 27 = .ok (.dup, 1) := by decide +kernel
theorem d_Me_init_28 : decode b_Me_init 28 = .ok (.iconst 0, 1) := by decide +kernel
theorem d_Me_init_29 : decode b_Me_init 29 = .ok (.iconst (-1), 1) := by decide +kernel
theorem d_Me_init_30 : decode b_Me_init 30 = .ok (.iastore, 1) := by decide +kernel
theorem d_Me_init_31 : decode b_Me_init 31 = .ok (.dup, 1) := by decide +kernel
theorem d_Me_init_32 : decode b_Me_init 32 = .ok (.iconst 1, 1) := by decide +kernel
theorem d_Me_init_33 : decode b_Me_init 33 = .ok (.iconst (-1), 1) := by decide +kernel
theorem d_Me_init_34 : decode b_Me_init 34 = .ok (.iastore, 1) := by decide +kernel
theorem d_Me_init_35 : decode b_Me_init 35 = .ok (.putfield 20, 3) := by decide +kernel
theorem d_Me_init_38 : decode b_Me_init 38 = .ok (.aload_n 0, 1) := by decide +kernel
theorem d_Me_init_39 : decode b_Me_init 39 = .ok (.iconst 2, 1) := by decide +kernel
theorem d_Me_init_40 : decode b_Me_init 40 = .ok (.newarray .boolean, 2) := by decide +kernel
theorem d_Me_init_42 : decode b_Me_init 42 = .ok (.putfield 23, 3) := by decide +kernel
theorem d_Me_init_45 : decode b_Me_init 45 = .ok (.aload_n 0, 1) := by decide +kernel
theorem d_Me_init_46 : decode b_Me_init 46 = .ok (.iconst (-1), 1) := by decide +kernel
theorem d_Me_init_47 : decode b_Me_init 47 = .ok (.putfield 27, 3) := by decide +kernel
theorem d_Me_init_50 : decode b_Me_init 50 = .ok (.return_, 1) := by decide +kernel
def wp_Me_init (g : Gm) (post : StP → Prop) (mc ms : Nat) (S : StP) (h0 : Nat) : Prop :=
  (¬ (96 : Int32) < 0) ∧ ((Int32.toNatClampNeg (96)) * 4 ≤ 536870912) ∧ (0 + 1 ≤ mc) ∧ (0 + (Int32.toNatClampNeg (96)) ≤ ms) ∧ (∀ q1 : Nat, q1 ∉ S.1 → ∃ (vs3 : List Value), (h0 ∈ (S.1 ++ [q1])) ∧ ((va_up S.2 q1 (.inl (g.2.1 0, (Int32.toNatClampNeg (96)), .inl (fun _ => 0)))) h0 = .inr (7, vs3)) ∧ (0 < vs3.length) ∧ (((0 + 1) + 5 ≤ mc) ∧ ((0 + (Int32.toNatClampNeg (96))) + 68 ≤ ms) ∧ (∀ (q7 : Nat) (r8 : Nat → Nat), (∀ i j : Nat, i < 4 → j < 4 → r8 i = r8 j → i = j) → (∀ i : Nat, i < 4 → r8 i ∉ (S.1 ++ [q1])) → q7 ∉ (S.1 ++ [q1]) ++ (List.range 4).map r8 → ∃ (vs12 : List Value), (h0 ∈ (((S.1 ++ [q1]) ++ (List.range 4).map r8) ++ [q7])) ∧ ((va_up (vr_up (va_up (va_up S.2 q1 (.inl (g.2.1 0, (Int32.toNatClampNeg (96)), .inl (fun _ => 0)))) h0 (.inr (7, vs3.set 0 (.ref (q1))))) ((List.range 4).map r8) (.inl (g.2.1 0, 16, .inl (fun _ => 0)))) q7 (.inl (g.2.1 7, 4, .inr (.inr (.inr (.inr (fun i => if i < 4 then some (r8 i) else none))))))) h0 = .inr (7, vs12)) ∧ (2 < vs12.length) ∧ ((¬ (2 : Int32) < 0) ∧ ((Int32.toNatClampNeg (2)) * 4 ≤ 536870912) ∧ (((0 + 1) + 5) + 1 ≤ mc) ∧ (((0 + (Int32.toNatClampNeg (96))) + 68) + (Int32.toNatClampNeg (2)) ≤ ms) ∧ (∀ q16 : Nat, q16 ∉ (((S.1 ++ [q1]) ++ (List.range 4).map r8) ++ [q7]) → ∃ (n18 : Nat) (f19 : Nat → Int32), (q16 ∈ ((((S.1 ++ [q1]) ++ (List.range 4).map r8) ++ [q7]) ++ [q16])) ∧ ((va_up (va_up (va_up (vr_up (va_up (va_up S.2 q1 (.inl (g.2.1 0, (Int32.toNatClampNeg (96)), .inl (fun _ => 0)))) h0 (.inr (7, vs3.set 0 (.ref (q1))))) ((List.range 4).map r8) (.inl (g.2.1 0, 16, .inl (fun _ => 0)))) q7 (.inl (g.2.1 7, 4, .inr (.inr (.inr (.inr (fun i => if i < 4 then some (r8 i) else none))))))) h0 (.inr (7, vs12.set 2 (.ref (q7))))) q16 (.inl (g.2.1 0, (Int32.toNatClampNeg (2)), .inl (fun _ => 0)))) q16 = .inl (g.2.1 0, n18, .inl f19)) ∧ (vp_in 0 n18) ∧ (∃ (n23 : Nat) (f24 : Nat → Int32), (q16 ∈ ((((S.1 ++ [q1]) ++ (List.range 4).map r8) ++ [q7]) ++ [q16])) ∧ ((va_up (va_up (va_up (va_up (vr_up (va_up (va_up S.2 q1 (.inl (g.2.1 0, (Int32.toNatClampNeg (96)), .inl (fun _ => 0)))) h0 (.inr (7, vs3.set 0 (.ref (q1))))) ((List.range 4).map r8) (.inl (g.2.1 0, 16, .inl (fun _ => 0)))) q7 (.inl (g.2.1 7, 4, .inr (.inr (.inr (.inr (fun i => if i < 4 then some (r8 i) else none))))))) h0 (.inr (7, vs12.set 2 (.ref (q7))))) q16 (.inl (g.2.1 0, (Int32.toNatClampNeg (2)), .inl (fun _ => 0)))) q16 (.inl (g.2.1 0, n18, .inl (upd f19 (Int32.toNatClampNeg (0)) ((-1)))))) q16 = .inl (g.2.1 0, n23, .inl f24)) ∧ (vp_in 1 n23) ∧ (∃ (vs28 : List Value), (h0 ∈ ((((S.1 ++ [q1]) ++ (List.range 4).map r8) ++ [q7]) ++ [q16])) ∧ ((va_up (va_up (va_up (va_up (va_up (vr_up (va_up (va_up S.2 q1 (.inl (g.2.1 0, (Int32.toNatClampNeg (96)), .inl (fun _ => 0)))) h0 (.inr (7, vs3.set 0 (.ref (q1))))) ((List.range 4).map r8) (.inl (g.2.1 0, 16, .inl (fun _ => 0)))) q7 (.inl (g.2.1 7, 4, .inr (.inr (.inr (.inr (fun i => if i < 4 then some (r8 i) else none))))))) h0 (.inr (7, vs12.set 2 (.ref (q7))))) q16 (.inl (g.2.1 0, (Int32.toNatClampNeg (2)), .inl (fun _ => 0)))) q16 (.inl (g.2.1 0, n18, .inl (upd f19 (Int32.toNatClampNeg (0)) ((-1)))))) q16 (.inl (g.2.1 0, n23, .inl (upd f24 (Int32.toNatClampNeg (1)) ((-1)))))) h0 = .inr (7, vs28)) ∧ (3 < vs28.length) ∧ ((¬ (2 : Int32) < 0) ∧ ((Int32.toNatClampNeg (2)) * 1 ≤ 536870912) ∧ ((((0 + 1) + 5) + 1) + 1 ≤ mc) ∧ ((((0 + (Int32.toNatClampNeg (96))) + 68) + (Int32.toNatClampNeg (2))) + (Int32.toNatClampNeg (2)) ≤ ms) ∧ (∀ q32 : Nat, q32 ∉ ((((S.1 ++ [q1]) ++ (List.range 4).map r8) ++ [q7]) ++ [q16]) → ∃ (vs34 : List Value), (h0 ∈ (((((S.1 ++ [q1]) ++ (List.range 4).map r8) ++ [q7]) ++ [q16]) ++ [q32])) ∧ ((va_up (va_up (va_up (va_up (va_up (va_up (va_up (vr_up (va_up (va_up S.2 q1 (.inl (g.2.1 0, (Int32.toNatClampNeg (96)), .inl (fun _ => 0)))) h0 (.inr (7, vs3.set 0 (.ref (q1))))) ((List.range 4).map r8) (.inl (g.2.1 0, 16, .inl (fun _ => 0)))) q7 (.inl (g.2.1 7, 4, .inr (.inr (.inr (.inr (fun i => if i < 4 then some (r8 i) else none))))))) h0 (.inr (7, vs12.set 2 (.ref (q7))))) q16 (.inl (g.2.1 0, (Int32.toNatClampNeg (2)), .inl (fun _ => 0)))) q16 (.inl (g.2.1 0, n18, .inl (upd f19 (Int32.toNatClampNeg (0)) ((-1)))))) q16 (.inl (g.2.1 0, n23, .inl (upd f24 (Int32.toNatClampNeg (1)) ((-1)))))) h0 (.inr (7, vs28.set 3 (.ref (q16))))) q32 (.inl (g.2.1 1, (Int32.toNatClampNeg (2)), .inl (fun _ => 0)))) h0 = .inr (7, vs34)) ∧ (4 < vs34.length) ∧ (∃ (vs38 : List Value), (h0 ∈ (((((S.1 ++ [q1]) ++ (List.range 4).map r8) ++ [q7]) ++ [q16]) ++ [q32])) ∧ ((va_up (va_up (va_up (va_up (va_up (va_up (va_up (va_up (vr_up (va_up (va_up S.2 q1 (.inl (g.2.1 0, (Int32.toNatClampNeg (96)), .inl (fun _ => 0)))) h0 (.inr (7, vs3.set 0 (.ref (q1))))) ((List.range 4).map r8) (.inl (g.2.1 0, 16, .inl (fun _ => 0)))) q7 (.inl (g.2.1 7, 4, .inr (.inr (.inr (.inr (fun i => if i < 4 then some (r8 i) else none))))))) h0 (.inr (7, vs12.set 2 (.ref (q7))))) q16 (.inl (g.2.1 0, (Int32.toNatClampNeg (2)), .inl (fun _ => 0)))) q16 (.inl (g.2.1 0, n18, .inl (upd f19 (Int32.toNatClampNeg (0)) ((-1)))))) q16 (.inl (g.2.1 0, n23, .inl (upd f24 (Int32.toNatClampNeg (1)) ((-1)))))) h0 (.inr (7, vs28.set 3 (.ref (q16))))) q32 (.inl (g.2.1 1, (Int32.toNatClampNeg (2)), .inl (fun _ => 0)))) h0 (.inr (7, vs34.set 4 (.ref (q32))))) h0 = .inr (7, vs38)) ∧ (5 < vs38.length) ∧ (post ((((((S.1 ++ [q1]) ++ (List.range 4).map r8) ++ [q7]) ++ [q16]) ++ [q32]), (va_up (va_up (va_up (va_up (va_up (va_up (va_up (va_up (va_up (vr_up (va_up (va_up S.2 q1 (.inl (g.2.1 0, (Int32.toNatClampNeg (96)), .inl (fun _ => 0)))) h0 (.inr (7, vs3.set 0 (.ref (q1))))) ((List.range 4).map r8) (.inl (g.2.1 0, 16, .inl (fun _ => 0)))) q7 (.inl (g.2.1 7, 4, .inr (.inr (.inr (.inr (fun i => if i < 4 then some (r8 i) else none))))))) h0 (.inr (7, vs12.set 2 (.ref (q7))))) q16 (.inl (g.2.1 0, (Int32.toNatClampNeg (2)), .inl (fun _ => 0)))) q16 (.inl (g.2.1 0, n18, .inl (upd f19 (Int32.toNatClampNeg (0)) ((-1)))))) q16 (.inl (g.2.1 0, n23, .inl (upd f24 (Int32.toNatClampNeg (1)) ((-1)))))) h0 (.inr (7, vs28.set 3 (.ref (q16))))) q32 (.inl (g.2.1 1, (Int32.toNatClampNeg (2)), .inl (fun _ => 0)))) h0 (.inr (7, vs34.set 4 (.ref (q32))))) h0 (.inr (7, vs38.set 5 (.int ((-1))))))))))))))))))
set_option maxRecDepth 100000 in
set_option maxHeartbeats 4000000 in
theorem c_Me_init (l : Launch) (g : Gm) (sz : Nat) (S : StP) (h0 : Nat) (post : StP → Prop) (mc ms : Nat) (hw : wp_Me_init g post mc ms S h0) : Met l y_Me_init (.code y_Me_init b_Me_init 1 none :: w_C) (rmA 1 20 mc ms) (va_Pc [.ref (h0)] (PP g sz S)) (va_Qv post (BP g (AP sz S)) (AP sz S)) mc ms (AP sz S) := by
  refine ofP_v (by decide) (Nat.le_of_ble_eq_true rfl) (fun p e s m args below meth c Q A H locs ls hx hb hml hts hown hK hA hC hN hmn kr hl hP hD hS => ?_)
  have hl : lv_has ls 1 [(0, .ref (h0))] := hl
  unfold wp_Me_init at hw
  have hcm : 0 ≤ mc := Nat.zero_le _
  have hzm : 0 ≤ ms := Nat.zero_le _
  refine lv_aload_n hx hb d_Me_init_0 rfl (lv_at hl 0 rfl) ?_
  refine W.objInit hx hb hown (hts _ k_C_76) (hts _ k_C_26) (hts _ k_C_27) rfl (by rw [hml]; exact hl.1) rfl d_Me_init_1 (Nat.le_of_ble_eq_true rfl) (Nat.le_of_ble_eq_true rfl) ?_
  refine W.eq (g2 := F0 m 4 ls []) rfl ?_
  refine lv_aload_n hx hb d_Me_init_4 rfl (lv_at hl 0 rfl) ?_
  refine lv_bipush (v := 96) hx hb d_Me_init_5 (by decide) ?_
  obtain ⟨hn9, hb9, hcm, hzm, hw⟩ := hw
  refine pni_P (S := S) hx hb hts k_C_71 hK hP hD hS hA hn9 hb9 hcm hzm d_Me_init_7 (fun q1 H hq2 hP hD hS => ?_)
  have hP : va_P g.1 classes (wP ((S.1 ++ [q1]), (va_up S.2 q1 (.inl (g.2.1 0, (Int32.toNatClampNeg (96)), .inl (fun _ => 0)))))) H := hP
  have hD : va_D A (wP ((S.1 ++ [q1]), (va_up S.2 q1 (.inl (g.2.1 0, (Int32.toNatClampNeg (96)), .inl (fun _ => 0)))))) := hD
  have hw := hw q1 hq2
  obtain ⟨vs3, ha4, hf5, hk6, hw⟩ := hw
  refine ppF_P (S := ((S.1 ++ [q1]), (va_up S.2 q1 (.inl (g.2.1 0, (Int32.toNatClampNeg (96)), .inl (fun _ => 0)))))) (vs := vs3) (v := .ref (q1)) (C := R_Me) (F := F_Me) (N := 6) hx hb hts hin_Me t_Me t_Me_ok n_Me hown hK hP hD hS ha4 hf5 rfl 0 (by decide) rfl hmn rfl rfl rfl hk6 k_C_78 d_Me_init_9 (fun H locs hP hD hS => ?_)
  have hP : va_P g.1 classes (wP ((S.1 ++ [q1]), (va_up (va_up S.2 q1 (.inl (g.2.1 0, (Int32.toNatClampNeg (96)), .inl (fun _ => 0)))) h0 (.inr (7, vs3.set 0 (.ref (q1))))))) H := hP
  have hD : va_D A (wP ((S.1 ++ [q1]), (va_up (va_up S.2 q1 (.inl (g.2.1 0, (Int32.toNatClampNeg (96)), .inl (fun _ => 0)))) h0 (.inr (7, vs3.set 0 (.ref (q1))))))) := hD
  refine lv_aload_n hx hb d_Me_init_12 rfl (lv_at hl 0 rfl) ?_
  refine lv_iconst (v := 4) hx hb d_Me_init_13 (by decide) ?_
  refine lv_bipush (v := 16) hx hb d_Me_init_14 (by decide) ?_
  obtain ⟨hcm, hzm, hw⟩ := hw
  refine mna_P (S := ((S.1 ++ [q1]), (va_up (va_up S.2 q1 (.inl (g.2.1 0, (Int32.toNatClampNeg (96)), .inl (fun _ => 0)))) h0 (.inr (7, vs3.set 0 (.ref (q1))))))) hx hb hts hown k_C_77 hC.2.2.2.2.2 k_C_71 hK hP hD hS hA hcm hzm d_Me_init_16 (fun q7 r8 H h9 h10 h11 hP hD hS => ?_)
  have hP : va_P g.1 classes (wP ((((S.1 ++ [q1]) ++ (List.range 4).map r8) ++ [q7]), (va_up (vr_up (va_up (va_up S.2 q1 (.inl (g.2.1 0, (Int32.toNatClampNeg (96)), .inl (fun _ => 0)))) h0 (.inr (7, vs3.set 0 (.ref (q1))))) ((List.range 4).map r8) (.inl (g.2.1 0, 16, .inl (fun _ => 0)))) q7 (.inl (g.2.1 7, 4, .inr (.inr (.inr (.inr (fun i => if i < 4 then some (r8 i) else none))))))))) H := hP
  have hD : va_D A (wP ((((S.1 ++ [q1]) ++ (List.range 4).map r8) ++ [q7]), (va_up (vr_up (va_up (va_up S.2 q1 (.inl (g.2.1 0, (Int32.toNatClampNeg (96)), .inl (fun _ => 0)))) h0 (.inr (7, vs3.set 0 (.ref (q1))))) ((List.range 4).map r8) (.inl (g.2.1 0, 16, .inl (fun _ => 0)))) q7 (.inl (g.2.1 7, 4, .inr (.inr (.inr (.inr (fun i => if i < 4 then some (r8 i) else none))))))))) := hD
  have hw := hw q7 r8 h9 h10 h11
  obtain ⟨vs12, ha13, hf14, hk15, hw⟩ := hw
  refine ppF_P (S := ((((S.1 ++ [q1]) ++ (List.range 4).map r8) ++ [q7]), (va_up (vr_up (va_up (va_up S.2 q1 (.inl (g.2.1 0, (Int32.toNatClampNeg (96)), .inl (fun _ => 0)))) h0 (.inr (7, vs3.set 0 (.ref (q1))))) ((List.range 4).map r8) (.inl (g.2.1 0, 16, .inl (fun _ => 0)))) q7 (.inl (g.2.1 7, 4, .inr (.inr (.inr (.inr (fun i => if i < 4 then some (r8 i) else none))))))))) (vs := vs12) (v := .ref (q7)) (C := R_Me) (F := F_Me) (N := 6) hx hb hts hin_Me t_Me t_Me_ok n_Me hown hK hP hD hS ha13 hf14 rfl 2 (by decide) rfl hmn rfl rfl rfl hk15 k_C_80 d_Me_init_20 (fun H locs hP hD hS => ?_)
  have hP : va_P g.1 classes (wP ((((S.1 ++ [q1]) ++ (List.range 4).map r8) ++ [q7]), (va_up (va_up (vr_up (va_up (va_up S.2 q1 (.inl (g.2.1 0, (Int32.toNatClampNeg (96)), .inl (fun _ => 0)))) h0 (.inr (7, vs3.set 0 (.ref (q1))))) ((List.range 4).map r8) (.inl (g.2.1 0, 16, .inl (fun _ => 0)))) q7 (.inl (g.2.1 7, 4, .inr (.inr (.inr (.inr (fun i => if i < 4 then some (r8 i) else none))))))) h0 (.inr (7, vs12.set 2 (.ref (q7))))))) H := hP
  have hD : va_D A (wP ((((S.1 ++ [q1]) ++ (List.range 4).map r8) ++ [q7]), (va_up (va_up (vr_up (va_up (va_up S.2 q1 (.inl (g.2.1 0, (Int32.toNatClampNeg (96)), .inl (fun _ => 0)))) h0 (.inr (7, vs3.set 0 (.ref (q1))))) ((List.range 4).map r8) (.inl (g.2.1 0, 16, .inl (fun _ => 0)))) q7 (.inl (g.2.1 7, 4, .inr (.inr (.inr (.inr (fun i => if i < 4 then some (r8 i) else none))))))) h0 (.inr (7, vs12.set 2 (.ref (q7))))))) := hD
  refine lv_aload_n hx hb d_Me_init_23 rfl (lv_at hl 0 rfl) ?_
  refine lv_iconst (v := 2) hx hb d_Me_init_24 (by decide) ?_
  obtain ⟨hn9, hb9, hcm, hzm, hw⟩ := hw
  refine pni_P (S := ((((S.1 ++ [q1]) ++ (List.range 4).map r8) ++ [q7]), (va_up (va_up (vr_up (va_up (va_up S.2 q1 (.inl (g.2.1 0, (Int32.toNatClampNeg (96)), .inl (fun _ => 0)))) h0 (.inr (7, vs3.set 0 (.ref (q1))))) ((List.range 4).map r8) (.inl (g.2.1 0, 16, .inl (fun _ => 0)))) q7 (.inl (g.2.1 7, 4, .inr (.inr (.inr (.inr (fun i => if i < 4 then some (r8 i) else none))))))) h0 (.inr (7, vs12.set 2 (.ref (q7))))))) hx hb hts k_C_71 hK hP hD hS hA hn9 hb9 hcm hzm d_Me_init_25 (fun q16 H hq17 hP hD hS => ?_)
  have hP : va_P g.1 classes (wP (((((S.1 ++ [q1]) ++ (List.range 4).map r8) ++ [q7]) ++ [q16]), (va_up (va_up (va_up (vr_up (va_up (va_up S.2 q1 (.inl (g.2.1 0, (Int32.toNatClampNeg (96)), .inl (fun _ => 0)))) h0 (.inr (7, vs3.set 0 (.ref (q1))))) ((List.range 4).map r8) (.inl (g.2.1 0, 16, .inl (fun _ => 0)))) q7 (.inl (g.2.1 7, 4, .inr (.inr (.inr (.inr (fun i => if i < 4 then some (r8 i) else none))))))) h0 (.inr (7, vs12.set 2 (.ref (q7))))) q16 (.inl (g.2.1 0, (Int32.toNatClampNeg (2)), .inl (fun _ => 0)))))) H := hP
  have hD : va_D A (wP (((((S.1 ++ [q1]) ++ (List.range 4).map r8) ++ [q7]) ++ [q16]), (va_up (va_up (va_up (vr_up (va_up (va_up S.2 q1 (.inl (g.2.1 0, (Int32.toNatClampNeg (96)), .inl (fun _ => 0)))) h0 (.inr (7, vs3.set 0 (.ref (q1))))) ((List.range 4).map r8) (.inl (g.2.1 0, 16, .inl (fun _ => 0)))) q7 (.inl (g.2.1 7, 4, .inr (.inr (.inr (.inr (fun i => if i < 4 then some (r8 i) else none))))))) h0 (.inr (7, vs12.set 2 (.ref (q7))))) q16 (.inl (g.2.1 0, (Int32.toNatClampNeg (2)), .inl (fun _ => 0)))))) := hD
  have hw := hw q16 hq17
  refine lv_dup hx hb d_Me_init_27 rfl ?_
  refine lv_iconst (v := 0) hx hb d_Me_init_28 (by decide) ?_
  refine lv_iconst (v := -1) hx hb d_Me_init_29 (by decide) ?_
  obtain ⟨n18, f19, ha20, hf21, hi22, hw⟩ := hw
  refine pis_P (S := (((((S.1 ++ [q1]) ++ (List.range 4).map r8) ++ [q7]) ++ [q16]), (va_up (va_up (va_up (vr_up (va_up (va_up S.2 q1 (.inl (g.2.1 0, (Int32.toNatClampNeg (96)), .inl (fun _ => 0)))) h0 (.inr (7, vs3.set 0 (.ref (q1))))) ((List.range 4).map r8) (.inl (g.2.1 0, 16, .inl (fun _ => 0)))) q7 (.inl (g.2.1 7, 4, .inr (.inr (.inr (.inr (fun i => if i < 4 then some (r8 i) else none))))))) h0 (.inr (7, vs12.set 2 (.ref (q7))))) q16 (.inl (g.2.1 0, (Int32.toNatClampNeg (2)), .inl (fun _ => 0)))))) hx hb hK hP hD hS ha20 hf21 hi22 d_Me_init_30 (fun H locs hP hD hS => ?_)
  have hP : va_P g.1 classes (wP (((((S.1 ++ [q1]) ++ (List.range 4).map r8) ++ [q7]) ++ [q16]), (va_up (va_up (va_up (va_up (vr_up (va_up (va_up S.2 q1 (.inl (g.2.1 0, (Int32.toNatClampNeg (96)), .inl (fun _ => 0)))) h0 (.inr (7, vs3.set 0 (.ref (q1))))) ((List.range 4).map r8) (.inl (g.2.1 0, 16, .inl (fun _ => 0)))) q7 (.inl (g.2.1 7, 4, .inr (.inr (.inr (.inr (fun i => if i < 4 then some (r8 i) else none))))))) h0 (.inr (7, vs12.set 2 (.ref (q7))))) q16 (.inl (g.2.1 0, (Int32.toNatClampNeg (2)), .inl (fun _ => 0)))) q16 (.inl (g.2.1 0, n18, .inl (upd f19 (Int32.toNatClampNeg (0)) ((-1)))))))) H := hP
  have hD : va_D A (wP (((((S.1 ++ [q1]) ++ (List.range 4).map r8) ++ [q7]) ++ [q16]), (va_up (va_up (va_up (va_up (vr_up (va_up (va_up S.2 q1 (.inl (g.2.1 0, (Int32.toNatClampNeg (96)), .inl (fun _ => 0)))) h0 (.inr (7, vs3.set 0 (.ref (q1))))) ((List.range 4).map r8) (.inl (g.2.1 0, 16, .inl (fun _ => 0)))) q7 (.inl (g.2.1 7, 4, .inr (.inr (.inr (.inr (fun i => if i < 4 then some (r8 i) else none))))))) h0 (.inr (7, vs12.set 2 (.ref (q7))))) q16 (.inl (g.2.1 0, (Int32.toNatClampNeg (2)), .inl (fun _ => 0)))) q16 (.inl (g.2.1 0, n18, .inl (upd f19 (Int32.toNatClampNeg (0)) ((-1)))))))) := hD
  refine lv_dup hx hb d_Me_init_31 rfl ?_
  refine lv_iconst (v := 1) hx hb d_Me_init_32 (by decide) ?_
  refine lv_iconst (v := -1) hx hb d_Me_init_33 (by decide) ?_
  obtain ⟨n23, f24, ha25, hf26, hi27, hw⟩ := hw
  refine pis_P (S := (((((S.1 ++ [q1]) ++ (List.range 4).map r8) ++ [q7]) ++ [q16]), (va_up (va_up (va_up (va_up (vr_up (va_up (va_up S.2 q1 (.inl (g.2.1 0, (Int32.toNatClampNeg (96)), .inl (fun _ => 0)))) h0 (.inr (7, vs3.set 0 (.ref (q1))))) ((List.range 4).map r8) (.inl (g.2.1 0, 16, .inl (fun _ => 0)))) q7 (.inl (g.2.1 7, 4, .inr (.inr (.inr (.inr (fun i => if i < 4 then some (r8 i) else none))))))) h0 (.inr (7, vs12.set 2 (.ref (q7))))) q16 (.inl (g.2.1 0, (Int32.toNatClampNeg (2)), .inl (fun _ => 0)))) q16 (.inl (g.2.1 0, n18, .inl (upd f19 (Int32.toNatClampNeg (0)) ((-1)))))))) hx hb hK hP hD hS ha25 hf26 hi27 d_Me_init_34 (fun H locs hP hD hS => ?_)
  have hP : va_P g.1 classes (wP (((((S.1 ++ [q1]) ++ (List.range 4).map r8) ++ [q7]) ++ [q16]), (va_up (va_up (va_up (va_up (va_up (vr_up (va_up (va_up S.2 q1 (.inl (g.2.1 0, (Int32.toNatClampNeg (96)), .inl (fun _ => 0)))) h0 (.inr (7, vs3.set 0 (.ref (q1))))) ((List.range 4).map r8) (.inl (g.2.1 0, 16, .inl (fun _ => 0)))) q7 (.inl (g.2.1 7, 4, .inr (.inr (.inr (.inr (fun i => if i < 4 then some (r8 i) else none))))))) h0 (.inr (7, vs12.set 2 (.ref (q7))))) q16 (.inl (g.2.1 0, (Int32.toNatClampNeg (2)), .inl (fun _ => 0)))) q16 (.inl (g.2.1 0, n18, .inl (upd f19 (Int32.toNatClampNeg (0)) ((-1)))))) q16 (.inl (g.2.1 0, n23, .inl (upd f24 (Int32.toNatClampNeg (1)) ((-1)))))))) H := hP
  have hD : va_D A (wP (((((S.1 ++ [q1]) ++ (List.range 4).map r8) ++ [q7]) ++ [q16]), (va_up (va_up (va_up (va_up (va_up (vr_up (va_up (va_up S.2 q1 (.inl (g.2.1 0, (Int32.toNatClampNeg (96)), .inl (fun _ => 0)))) h0 (.inr (7, vs3.set 0 (.ref (q1))))) ((List.range 4).map r8) (.inl (g.2.1 0, 16, .inl (fun _ => 0)))) q7 (.inl (g.2.1 7, 4, .inr (.inr (.inr (.inr (fun i => if i < 4 then some (r8 i) else none))))))) h0 (.inr (7, vs12.set 2 (.ref (q7))))) q16 (.inl (g.2.1 0, (Int32.toNatClampNeg (2)), .inl (fun _ => 0)))) q16 (.inl (g.2.1 0, n18, .inl (upd f19 (Int32.toNatClampNeg (0)) ((-1)))))) q16 (.inl (g.2.1 0, n23, .inl (upd f24 (Int32.toNatClampNeg (1)) ((-1)))))))) := hD
  obtain ⟨vs28, ha29, hf30, hk31, hw⟩ := hw
  refine ppF_P (S := (((((S.1 ++ [q1]) ++ (List.range 4).map r8) ++ [q7]) ++ [q16]), (va_up (va_up (va_up (va_up (va_up (vr_up (va_up (va_up S.2 q1 (.inl (g.2.1 0, (Int32.toNatClampNeg (96)), .inl (fun _ => 0)))) h0 (.inr (7, vs3.set 0 (.ref (q1))))) ((List.range 4).map r8) (.inl (g.2.1 0, 16, .inl (fun _ => 0)))) q7 (.inl (g.2.1 7, 4, .inr (.inr (.inr (.inr (fun i => if i < 4 then some (r8 i) else none))))))) h0 (.inr (7, vs12.set 2 (.ref (q7))))) q16 (.inl (g.2.1 0, (Int32.toNatClampNeg (2)), .inl (fun _ => 0)))) q16 (.inl (g.2.1 0, n18, .inl (upd f19 (Int32.toNatClampNeg (0)) ((-1)))))) q16 (.inl (g.2.1 0, n23, .inl (upd f24 (Int32.toNatClampNeg (1)) ((-1)))))))) (vs := vs28) (v := .ref (q16)) (C := R_Me) (F := F_Me) (N := 6) hx hb hts hin_Me t_Me t_Me_ok n_Me hown hK hP hD hS ha29 hf30 rfl 3 (by decide) rfl hmn rfl rfl rfl hk31 k_C_81 d_Me_init_35 (fun H locs hP hD hS => ?_)
  have hP : va_P g.1 classes (wP (((((S.1 ++ [q1]) ++ (List.range 4).map r8) ++ [q7]) ++ [q16]), (va_up (va_up (va_up (va_up (va_up (va_up (vr_up (va_up (va_up S.2 q1 (.inl (g.2.1 0, (Int32.toNatClampNeg (96)), .inl (fun _ => 0)))) h0 (.inr (7, vs3.set 0 (.ref (q1))))) ((List.range 4).map r8) (.inl (g.2.1 0, 16, .inl (fun _ => 0)))) q7 (.inl (g.2.1 7, 4, .inr (.inr (.inr (.inr (fun i => if i < 4 then some (r8 i) else none))))))) h0 (.inr (7, vs12.set 2 (.ref (q7))))) q16 (.inl (g.2.1 0, (Int32.toNatClampNeg (2)), .inl (fun _ => 0)))) q16 (.inl (g.2.1 0, n18, .inl (upd f19 (Int32.toNatClampNeg (0)) ((-1)))))) q16 (.inl (g.2.1 0, n23, .inl (upd f24 (Int32.toNatClampNeg (1)) ((-1)))))) h0 (.inr (7, vs28.set 3 (.ref (q16))))))) H := hP
  have hD : va_D A (wP (((((S.1 ++ [q1]) ++ (List.range 4).map r8) ++ [q7]) ++ [q16]), (va_up (va_up (va_up (va_up (va_up (va_up (vr_up (va_up (va_up S.2 q1 (.inl (g.2.1 0, (Int32.toNatClampNeg (96)), .inl (fun _ => 0)))) h0 (.inr (7, vs3.set 0 (.ref (q1))))) ((List.range 4).map r8) (.inl (g.2.1 0, 16, .inl (fun _ => 0)))) q7 (.inl (g.2.1 7, 4, .inr (.inr (.inr (.inr (fun i => if i < 4 then some (r8 i) else none))))))) h0 (.inr (7, vs12.set 2 (.ref (q7))))) q16 (.inl (g.2.1 0, (Int32.toNatClampNeg (2)), .inl (fun _ => 0)))) q16 (.inl (g.2.1 0, n18, .inl (upd f19 (Int32.toNatClampNeg (0)) ((-1)))))) q16 (.inl (g.2.1 0, n23, .inl (upd f24 (Int32.toNatClampNeg (1)) ((-1)))))) h0 (.inr (7, vs28.set 3 (.ref (q16))))))) := hD
  refine lv_aload_n hx hb d_Me_init_38 rfl (lv_at hl 0 rfl) ?_
  refine lv_iconst (v := 2) hx hb d_Me_init_39 (by decide) ?_
  obtain ⟨hn9, hb9, hcm, hzm, hw⟩ := hw
  refine pnz_P (S := (((((S.1 ++ [q1]) ++ (List.range 4).map r8) ++ [q7]) ++ [q16]), (va_up (va_up (va_up (va_up (va_up (va_up (vr_up (va_up (va_up S.2 q1 (.inl (g.2.1 0, (Int32.toNatClampNeg (96)), .inl (fun _ => 0)))) h0 (.inr (7, vs3.set 0 (.ref (q1))))) ((List.range 4).map r8) (.inl (g.2.1 0, 16, .inl (fun _ => 0)))) q7 (.inl (g.2.1 7, 4, .inr (.inr (.inr (.inr (fun i => if i < 4 then some (r8 i) else none))))))) h0 (.inr (7, vs12.set 2 (.ref (q7))))) q16 (.inl (g.2.1 0, (Int32.toNatClampNeg (2)), .inl (fun _ => 0)))) q16 (.inl (g.2.1 0, n18, .inl (upd f19 (Int32.toNatClampNeg (0)) ((-1)))))) q16 (.inl (g.2.1 0, n23, .inl (upd f24 (Int32.toNatClampNeg (1)) ((-1)))))) h0 (.inr (7, vs28.set 3 (.ref (q16))))))) hx hb hts k_C_85 hK hP hD hS hA hn9 hb9 hcm hzm d_Me_init_40 (fun q32 H hq33 hP hD hS => ?_)
  have hP : va_P g.1 classes (wP ((((((S.1 ++ [q1]) ++ (List.range 4).map r8) ++ [q7]) ++ [q16]) ++ [q32]), (va_up (va_up (va_up (va_up (va_up (va_up (va_up (vr_up (va_up (va_up S.2 q1 (.inl (g.2.1 0, (Int32.toNatClampNeg (96)), .inl (fun _ => 0)))) h0 (.inr (7, vs3.set 0 (.ref (q1))))) ((List.range 4).map r8) (.inl (g.2.1 0, 16, .inl (fun _ => 0)))) q7 (.inl (g.2.1 7, 4, .inr (.inr (.inr (.inr (fun i => if i < 4 then some (r8 i) else none))))))) h0 (.inr (7, vs12.set 2 (.ref (q7))))) q16 (.inl (g.2.1 0, (Int32.toNatClampNeg (2)), .inl (fun _ => 0)))) q16 (.inl (g.2.1 0, n18, .inl (upd f19 (Int32.toNatClampNeg (0)) ((-1)))))) q16 (.inl (g.2.1 0, n23, .inl (upd f24 (Int32.toNatClampNeg (1)) ((-1)))))) h0 (.inr (7, vs28.set 3 (.ref (q16))))) q32 (.inl (g.2.1 1, (Int32.toNatClampNeg (2)), .inl (fun _ => 0)))))) H := hP
  have hD : va_D A (wP ((((((S.1 ++ [q1]) ++ (List.range 4).map r8) ++ [q7]) ++ [q16]) ++ [q32]), (va_up (va_up (va_up (va_up (va_up (va_up (va_up (vr_up (va_up (va_up S.2 q1 (.inl (g.2.1 0, (Int32.toNatClampNeg (96)), .inl (fun _ => 0)))) h0 (.inr (7, vs3.set 0 (.ref (q1))))) ((List.range 4).map r8) (.inl (g.2.1 0, 16, .inl (fun _ => 0)))) q7 (.inl (g.2.1 7, 4, .inr (.inr (.inr (.inr (fun i => if i < 4 then some (r8 i) else none))))))) h0 (.inr (7, vs12.set 2 (.ref (q7))))) q16 (.inl (g.2.1 0, (Int32.toNatClampNeg (2)), .inl (fun _ => 0)))) q16 (.inl (g.2.1 0, n18, .inl (upd f19 (Int32.toNatClampNeg (0)) ((-1)))))) q16 (.inl (g.2.1 0, n23, .inl (upd f24 (Int32.toNatClampNeg (1)) ((-1)))))) h0 (.inr (7, vs28.set 3 (.ref (q16))))) q32 (.inl (g.2.1 1, (Int32.toNatClampNeg (2)), .inl (fun _ => 0)))))) := hD
  have hw := hw q32 hq33
  obtain ⟨vs34, ha35, hf36, hk37, hw⟩ := hw
  refine ppF_P (S := ((((((S.1 ++ [q1]) ++ (List.range 4).map r8) ++ [q7]) ++ [q16]) ++ [q32]), (va_up (va_up (va_up (va_up (va_up (va_up (va_up (vr_up (va_up (va_up S.2 q1 (.inl (g.2.1 0, (Int32.toNatClampNeg (96)), .inl (fun _ => 0)))) h0 (.inr (7, vs3.set 0 (.ref (q1))))) ((List.range 4).map r8) (.inl (g.2.1 0, 16, .inl (fun _ => 0)))) q7 (.inl (g.2.1 7, 4, .inr (.inr (.inr (.inr (fun i => if i < 4 then some (r8 i) else none))))))) h0 (.inr (7, vs12.set 2 (.ref (q7))))) q16 (.inl (g.2.1 0, (Int32.toNatClampNeg (2)), .inl (fun _ => 0)))) q16 (.inl (g.2.1 0, n18, .inl (upd f19 (Int32.toNatClampNeg (0)) ((-1)))))) q16 (.inl (g.2.1 0, n23, .inl (upd f24 (Int32.toNatClampNeg (1)) ((-1)))))) h0 (.inr (7, vs28.set 3 (.ref (q16))))) q32 (.inl (g.2.1 1, (Int32.toNatClampNeg (2)), .inl (fun _ => 0)))))) (vs := vs34) (v := .ref (q32)) (C := R_Me) (F := F_Me) (N := 6) hx hb hts hin_Me t_Me t_Me_ok n_Me hown hK hP hD hS ha35 hf36 rfl 4 (by decide) rfl hmn rfl rfl rfl hk37 k_C_82 d_Me_init_42 (fun H locs hP hD hS => ?_)
  have hP : va_P g.1 classes (wP ((((((S.1 ++ [q1]) ++ (List.range 4).map r8) ++ [q7]) ++ [q16]) ++ [q32]), (va_up (va_up (va_up (va_up (va_up (va_up (va_up (va_up (vr_up (va_up (va_up S.2 q1 (.inl (g.2.1 0, (Int32.toNatClampNeg (96)), .inl (fun _ => 0)))) h0 (.inr (7, vs3.set 0 (.ref (q1))))) ((List.range 4).map r8) (.inl (g.2.1 0, 16, .inl (fun _ => 0)))) q7 (.inl (g.2.1 7, 4, .inr (.inr (.inr (.inr (fun i => if i < 4 then some (r8 i) else none))))))) h0 (.inr (7, vs12.set 2 (.ref (q7))))) q16 (.inl (g.2.1 0, (Int32.toNatClampNeg (2)), .inl (fun _ => 0)))) q16 (.inl (g.2.1 0, n18, .inl (upd f19 (Int32.toNatClampNeg (0)) ((-1)))))) q16 (.inl (g.2.1 0, n23, .inl (upd f24 (Int32.toNatClampNeg (1)) ((-1)))))) h0 (.inr (7, vs28.set 3 (.ref (q16))))) q32 (.inl (g.2.1 1, (Int32.toNatClampNeg (2)), .inl (fun _ => 0)))) h0 (.inr (7, vs34.set 4 (.ref (q32))))))) H := hP
  have hD : va_D A (wP ((((((S.1 ++ [q1]) ++ (List.range 4).map r8) ++ [q7]) ++ [q16]) ++ [q32]), (va_up (va_up (va_up (va_up (va_up (va_up (va_up (va_up (vr_up (va_up (va_up S.2 q1 (.inl (g.2.1 0, (Int32.toNatClampNeg (96)), .inl (fun _ => 0)))) h0 (.inr (7, vs3.set 0 (.ref (q1))))) ((List.range 4).map r8) (.inl (g.2.1 0, 16, .inl (fun _ => 0)))) q7 (.inl (g.2.1 7, 4, .inr (.inr (.inr (.inr (fun i => if i < 4 then some (r8 i) else none))))))) h0 (.inr (7, vs12.set 2 (.ref (q7))))) q16 (.inl (g.2.1 0, (Int32.toNatClampNeg (2)), .inl (fun _ => 0)))) q16 (.inl (g.2.1 0, n18, .inl (upd f19 (Int32.toNatClampNeg (0)) ((-1)))))) q16 (.inl (g.2.1 0, n23, .inl (upd f24 (Int32.toNatClampNeg (1)) ((-1)))))) h0 (.inr (7, vs28.set 3 (.ref (q16))))) q32 (.inl (g.2.1 1, (Int32.toNatClampNeg (2)), .inl (fun _ => 0)))) h0 (.inr (7, vs34.set 4 (.ref (q32))))))) := hD
  refine lv_aload_n hx hb d_Me_init_45 rfl (lv_at hl 0 rfl) ?_
  refine lv_iconst (v := -1) hx hb d_Me_init_46 (by decide) ?_
  obtain ⟨vs38, ha39, hf40, hk41, hw⟩ := hw
  refine pp_P (S := ((((((S.1 ++ [q1]) ++ (List.range 4).map r8) ++ [q7]) ++ [q16]) ++ [q32]), (va_up (va_up (va_up (va_up (va_up (va_up (va_up (va_up (vr_up (va_up (va_up S.2 q1 (.inl (g.2.1 0, (Int32.toNatClampNeg (96)), .inl (fun _ => 0)))) h0 (.inr (7, vs3.set 0 (.ref (q1))))) ((List.range 4).map r8) (.inl (g.2.1 0, 16, .inl (fun _ => 0)))) q7 (.inl (g.2.1 7, 4, .inr (.inr (.inr (.inr (fun i => if i < 4 then some (r8 i) else none))))))) h0 (.inr (7, vs12.set 2 (.ref (q7))))) q16 (.inl (g.2.1 0, (Int32.toNatClampNeg (2)), .inl (fun _ => 0)))) q16 (.inl (g.2.1 0, n18, .inl (upd f19 (Int32.toNatClampNeg (0)) ((-1)))))) q16 (.inl (g.2.1 0, n23, .inl (upd f24 (Int32.toNatClampNeg (1)) ((-1)))))) h0 (.inr (7, vs28.set 3 (.ref (q16))))) q32 (.inl (g.2.1 1, (Int32.toNatClampNeg (2)), .inl (fun _ => 0)))) h0 (.inr (7, vs34.set 4 (.ref (q32))))))) (vs := vs38) (v := .int ((-1))) (C := R_Me) (F := F_Me) (N := 6) hx hb hts hin_Me t_Me t_Me_ok n_Me hown hK hP hD hS ha39 hf40 rfl 5 (by decide) rfl rfl rfl hk41 k_C_83 d_Me_init_47 (fun H locs hP hD hS => ?_)
  have hP : va_P g.1 classes (wP ((((((S.1 ++ [q1]) ++ (List.range 4).map r8) ++ [q7]) ++ [q16]) ++ [q32]), (va_up (va_up (va_up (va_up (va_up (va_up (va_up (va_up (va_up (vr_up (va_up (va_up S.2 q1 (.inl (g.2.1 0, (Int32.toNatClampNeg (96)), .inl (fun _ => 0)))) h0 (.inr (7, vs3.set 0 (.ref (q1))))) ((List.range 4).map r8) (.inl (g.2.1 0, 16, .inl (fun _ => 0)))) q7 (.inl (g.2.1 7, 4, .inr (.inr (.inr (.inr (fun i => if i < 4 then some (r8 i) else none))))))) h0 (.inr (7, vs12.set 2 (.ref (q7))))) q16 (.inl (g.2.1 0, (Int32.toNatClampNeg (2)), .inl (fun _ => 0)))) q16 (.inl (g.2.1 0, n18, .inl (upd f19 (Int32.toNatClampNeg (0)) ((-1)))))) q16 (.inl (g.2.1 0, n23, .inl (upd f24 (Int32.toNatClampNeg (1)) ((-1)))))) h0 (.inr (7, vs28.set 3 (.ref (q16))))) q32 (.inl (g.2.1 1, (Int32.toNatClampNeg (2)), .inl (fun _ => 0)))) h0 (.inr (7, vs34.set 4 (.ref (q32))))) h0 (.inr (7, vs38.set 5 (.int ((-1)))))))) H := hP
  have hD : va_D A (wP ((((((S.1 ++ [q1]) ++ (List.range 4).map r8) ++ [q7]) ++ [q16]) ++ [q32]), (va_up (va_up (va_up (va_up (va_up (va_up (va_up (va_up (va_up (vr_up (va_up (va_up S.2 q1 (.inl (g.2.1 0, (Int32.toNatClampNeg (96)), .inl (fun _ => 0)))) h0 (.inr (7, vs3.set 0 (.ref (q1))))) ((List.range 4).map r8) (.inl (g.2.1 0, 16, .inl (fun _ => 0)))) q7 (.inl (g.2.1 7, 4, .inr (.inr (.inr (.inr (fun i => if i < 4 then some (r8 i) else none))))))) h0 (.inr (7, vs12.set 2 (.ref (q7))))) q16 (.inl (g.2.1 0, (Int32.toNatClampNeg (2)), .inl (fun _ => 0)))) q16 (.inl (g.2.1 0, n18, .inl (upd f19 (Int32.toNatClampNeg (0)) ((-1)))))) q16 (.inl (g.2.1 0, n23, .inl (upd f24 (Int32.toNatClampNeg (1)) ((-1)))))) h0 (.inr (7, vs28.set 3 (.ref (q16))))) q32 (.inl (g.2.1 1, (Int32.toNatClampNeg (2)), .inl (fun _ => 0)))) h0 (.inr (7, vs34.set 4 (.ref (q32))))) h0 (.inr (7, vs38.set 5 (.int ((-1)))))))) := hD
  exact kr ((((((S.1 ++ [q1]) ++ (List.range 4).map r8) ++ [q7]) ++ [q16]) ++ [q32]), (va_up (va_up (va_up (va_up (va_up (va_up (va_up (va_up (va_up (vr_up (va_up (va_up S.2 q1 (.inl (g.2.1 0, (Int32.toNatClampNeg (96)), .inl (fun _ => 0)))) h0 (.inr (7, vs3.set 0 (.ref (q1))))) ((List.range 4).map r8) (.inl (g.2.1 0, 16, .inl (fun _ => 0)))) q7 (.inl (g.2.1 7, 4, .inr (.inr (.inr (.inr (fun i => if i < 4 then some (r8 i) else none))))))) h0 (.inr (7, vs12.set 2 (.ref (q7))))) q16 (.inl (g.2.1 0, (Int32.toNatClampNeg (2)), .inl (fun _ => 0)))) q16 (.inl (g.2.1 0, n18, .inl (upd f19 (Int32.toNatClampNeg (0)) ((-1)))))) q16 (.inl (g.2.1 0, n23, .inl (upd f24 (Int32.toNatClampNeg (1)) ((-1)))))) h0 (.inr (7, vs28.set 3 (.ref (q16))))) q32 (.inl (g.2.1 1, (Int32.toNatClampNeg (2)), .inl (fun _ => 0)))) h0 (.inr (7, vs34.set 4 (.ref (q32))))) h0 (.inr (7, vs38.set 5 (.int ((-1))))))) _ _ _ _ _ _ hcm hzm hw hP hD hS d_Me_init_50
theorem d_Di_init_0 : decode b_Di_init 0 = .ok (.aload_n 0, 1) := by decide +kernel
theorem d_Di_init_1 : decode b_Di_init 1 = .ok (.invokespecial 3, 3) := by decide +kernel
theorem d_Di_init_4 : decode b_Di_init 4 = .ok (.aload_n 0, 1) := by decide +kernel
theorem d_Di_init_5 : decode b_Di_init 5 = .ok (.bipush 24, 2) := by decide +kernel
theorem d_Di_init_7 : decode b_Di_init 7 = .ok (.anewarray 9, 3) := by decide +kernel
theorem d_Di_init_10 : decode b_Di_init 10 = .ok (.putfield 11, 3) := by decide +kernel
theorem d_Di_init_13 : decode b_Di_init 13 = .ok (.return_, 1) := by decide +kernel
def wp_Di_init (g : Gm) (post : StP → Prop) (mc ms : Nat) (S : StP) (h0 : Nat) : Prop :=
  (¬ (24 : Int32) < 0) ∧ ((Int32.toNatClampNeg (24)) * 4 ≤ 536870912) ∧ (0 + 1 ≤ mc) ∧ (0 + (Int32.toNatClampNeg (24)) ≤ ms) ∧ (∀ q1 : Nat, q1 ∉ S.1 → ∃ (vs3 : List Value), (h0 ∈ (S.1 ++ [q1])) ∧ ((va_up S.2 q1 (.inl (g.2.1 4, (Int32.toNatClampNeg (24)), .inr (.inr (.inr (.inr (fun _ => none))))))) h0 = .inr (8, vs3)) ∧ (0 < vs3.length) ∧ (post ((S.1 ++ [q1]), (va_up (va_up S.2 q1 (.inl (g.2.1 4, (Int32.toNatClampNeg (24)), .inr (.inr (.inr (.inr (fun _ => none))))))) h0 (.inr (8, vs3.set 0 (.ref (q1))))))))
set_option maxRecDepth 100000 in
set_option maxHeartbeats 4000000 in
theorem c_Di_init (l : Launch) (g : Gm) (sz : Nat) (S : StP) (h0 : Nat) (post : StP → Prop) (mc ms : Nat) (hw : wp_Di_init g post mc ms S h0) : Met l y_Di_init (.code y_Di_init b_Di_init 1 none :: w_C) (rmA 1 20 mc ms) (va_Pc [.ref (h0)] (PP g sz S)) (va_Qv post (BP g (AP sz S)) (AP sz S)) mc ms (AP sz S) := by
  refine ofP_v (by decide) (Nat.le_of_ble_eq_true rfl) (fun p e s m args below meth c Q A H locs ls hx hb hml hts hown hK hA hC hN hmn kr hl hP hD hS => ?_)
  have hl : lv_has ls 1 [(0, .ref (h0))] := hl
  unfold wp_Di_init at hw
  have hcm : 0 ≤ mc := Nat.zero_le _
  have hzm : 0 ≤ ms := Nat.zero_le _
  refine lv_aload_n hx hb d_Di_init_0 rfl (lv_at hl 0 rfl) ?_
  refine W.objInit hx hb hown (hts _ k_C_90) (hts _ k_C_26) (hts _ k_C_27) rfl (by rw [hml]; exact hl.1) rfl d_Di_init_1 (Nat.le_of_ble_eq_true rfl) (Nat.le_of_ble_eq_true rfl) ?_
  refine W.eq (g2 := F0 m 4 ls []) rfl ?_
  refine lv_aload_n hx hb d_Di_init_4 rfl (lv_at hl 0 rfl) ?_
  refine lv_bipush (v := 24) hx hb d_Di_init_5 (by decide) ?_
  obtain ⟨hn9, hb9, hcm, hzm, hw⟩ := hw
  refine pnq_P (S := S) (j := 4) (t0 := 3) hx hb hts hown k_C_91 hC.2.2.1 rfl hK hP hD hS hA hn9 hb9 hcm hzm d_Di_init_7 (fun q1 H hq2 hP hD hS => ?_)
  have hP : va_P g.1 classes (wP ((S.1 ++ [q1]), (va_up S.2 q1 (.inl (g.2.1 4, (Int32.toNatClampNeg (24)), .inr (.inr (.inr (.inr (fun _ => none))))))))) H := hP
  have hD : va_D A (wP ((S.1 ++ [q1]), (va_up S.2 q1 (.inl (g.2.1 4, (Int32.toNatClampNeg (24)), .inr (.inr (.inr (.inr (fun _ => none))))))))) := hD
  have hw := hw q1 hq2
  obtain ⟨vs3, ha4, hf5, hk6, hw⟩ := hw
  refine ppF_P (S := ((S.1 ++ [q1]), (va_up S.2 q1 (.inl (g.2.1 4, (Int32.toNatClampNeg (24)), .inr (.inr (.inr (.inr (fun _ => none))))))))) (vs := vs3) (v := .ref (q1)) (C := R_Di) (F := F_Di) (N := 2) hx hb hts hin_Di t_Di t_Di_ok n_Di hown hK hP hD hS ha4 hf5 rfl 0 (by decide) rfl hmn rfl rfl rfl hk6 k_C_92 d_Di_init_10 (fun H locs hP hD hS => ?_)
  have hP : va_P g.1 classes (wP ((S.1 ++ [q1]), (va_up (va_up S.2 q1 (.inl (g.2.1 4, (Int32.toNatClampNeg (24)), .inr (.inr (.inr (.inr (fun _ => none))))))) h0 (.inr (8, vs3.set 0 (.ref (q1))))))) H := hP
  have hD : va_D A (wP ((S.1 ++ [q1]), (va_up (va_up S.2 q1 (.inl (g.2.1 4, (Int32.toNatClampNeg (24)), .inr (.inr (.inr (.inr (fun _ => none))))))) h0 (.inr (8, vs3.set 0 (.ref (q1))))))) := hD
  exact kr ((S.1 ++ [q1]), (va_up (va_up S.2 q1 (.inl (g.2.1 4, (Int32.toNatClampNeg (24)), .inr (.inr (.inr (.inr (fun _ => none))))))) h0 (.inr (8, vs3.set 0 (.ref (q1)))))) _ _ _ _ _ _ hcm hzm hw hP hD hS d_Di_init_13
theorem d_Ca_init_0 : decode b_Ca_init 0 = .ok (.aload_n 0, 1) := by decide +kernel
theorem d_Ca_init_1 : decode b_Ca_init 1 = .ok (.invokespecial 3, 3) := by decide +kernel
theorem d_Ca_init_4 : decode b_Ca_init 4 = .ok (.aload_n 0, 1) := by decide +kernel
theorem d_Ca_init_5 : decode b_Ca_init 5 = .ok (.iconst 4, 1) := by decide +kernel
theorem d_Ca_init_6 : decode b_Ca_init 6 = .ok (.newarray .int, 2) := by decide +kernel
theorem d_Ca_init_8 : decode b_Ca_init 8 = .ok (.putfield 9, 3) := by decide +kernel
theorem d_Ca_init_11 : decode b_Ca_init 11 = .ok (.aload_n 0, 1) := by decide +kernel
theorem d_Ca_init_12 : decode b_Ca_init 12 = .ok (.iconst 4, 1) := by decide +kernel
theorem d_Ca_init_13 : decode b_Ca_init 13 = .ok (.newarray .int, 2) := by decide +kernel
theorem d_Ca_init_15 : decode b_Ca_init 15 = .ok (.putfield 15, 3) := by decide +kernel
theorem d_Ca_init_18 : decode b_Ca_init 18 = .ok (.return_, 1) := by decide +kernel
def wp_Ca_init (g : Gm) (post : StP → Prop) (mc ms : Nat) (S : StP) (h0 : Nat) : Prop :=
  (¬ (4 : Int32) < 0) ∧ ((Int32.toNatClampNeg (4)) * 4 ≤ 536870912) ∧ (0 + 1 ≤ mc) ∧ (0 + (Int32.toNatClampNeg (4)) ≤ ms) ∧ (∀ q1 : Nat, q1 ∉ S.1 → ∃ (vs3 : List Value), (h0 ∈ (S.1 ++ [q1])) ∧ ((va_up S.2 q1 (.inl (g.2.1 0, (Int32.toNatClampNeg (4)), .inl (fun _ => 0)))) h0 = .inr (9, vs3)) ∧ (2 < vs3.length) ∧ ((¬ (4 : Int32) < 0) ∧ ((Int32.toNatClampNeg (4)) * 4 ≤ 536870912) ∧ ((0 + 1) + 1 ≤ mc) ∧ ((0 + (Int32.toNatClampNeg (4))) + (Int32.toNatClampNeg (4)) ≤ ms) ∧ (∀ q7 : Nat, q7 ∉ (S.1 ++ [q1]) → ∃ (vs9 : List Value), (h0 ∈ ((S.1 ++ [q1]) ++ [q7])) ∧ ((va_up (va_up (va_up S.2 q1 (.inl (g.2.1 0, (Int32.toNatClampNeg (4)), .inl (fun _ => 0)))) h0 (.inr (9, vs3.set 2 (.ref (q1))))) q7 (.inl (g.2.1 0, (Int32.toNatClampNeg (4)), .inl (fun _ => 0)))) h0 = .inr (9, vs9)) ∧ (3 < vs9.length) ∧ (post (((S.1 ++ [q1]) ++ [q7]), (va_up (va_up (va_up (va_up S.2 q1 (.inl (g.2.1 0, (Int32.toNatClampNeg (4)), .inl (fun _ => 0)))) h0 (.inr (9, vs3.set 2 (.ref (q1))))) q7 (.inl (g.2.1 0, (Int32.toNatClampNeg (4)), .inl (fun _ => 0)))) h0 (.inr (9, vs9.set 3 (.ref (q7))))))))))
set_option maxRecDepth 100000 in
set_option maxHeartbeats 4000000 in
theorem c_Ca_init (l : Launch) (g : Gm) (sz : Nat) (S : StP) (h0 : Nat) (post : StP → Prop) (mc ms : Nat) (hw : wp_Ca_init g post mc ms S h0) : Met l y_Ca_init (.code y_Ca_init b_Ca_init 1 none :: w_C) (rmA 1 20 mc ms) (va_Pc [.ref (h0)] (PP g sz S)) (va_Qv post (BP g (AP sz S)) (AP sz S)) mc ms (AP sz S) := by
  refine ofP_v (by decide) (Nat.le_of_ble_eq_true rfl) (fun p e s m args below meth c Q A H locs ls hx hb hml hts hown hK hA hC hN hmn kr hl hP hD hS => ?_)
  have hl : lv_has ls 1 [(0, .ref (h0))] := hl
  unfold wp_Ca_init at hw
  have hcm : 0 ≤ mc := Nat.zero_le _
  have hzm : 0 ≤ ms := Nat.zero_le _
  refine lv_aload_n hx hb d_Ca_init_0 rfl (lv_at hl 0 rfl) ?_
  refine W.objInit hx hb hown (hts _ k_C_99) (hts _ k_C_26) (hts _ k_C_27) rfl (by rw [hml]; exact hl.1) rfl d_Ca_init_1 (Nat.le_of_ble_eq_true rfl) (Nat.le_of_ble_eq_true rfl) ?_
  refine W.eq (g2 := F0 m 4 ls []) rfl ?_
  refine lv_aload_n hx hb d_Ca_init_4 rfl (lv_at hl 0 rfl) ?_
  refine lv_iconst (v := 4) hx hb d_Ca_init_5 (by decide) ?_
  obtain ⟨hn9, hb9, hcm, hzm, hw⟩ := hw
  refine pni_P (S := S) hx hb hts k_C_71 hK hP hD hS hA hn9 hb9 hcm hzm d_Ca_init_6 (fun q1 H hq2 hP hD hS => ?_)
  have hP : va_P g.1 classes (wP ((S.1 ++ [q1]), (va_up S.2 q1 (.inl (g.2.1 0, (Int32.toNatClampNeg (4)), .inl (fun _ => 0)))))) H := hP
  have hD : va_D A (wP ((S.1 ++ [q1]), (va_up S.2 q1 (.inl (g.2.1 0, (Int32.toNatClampNeg (4)), .inl (fun _ => 0)))))) := hD
  have hw := hw q1 hq2
  obtain ⟨vs3, ha4, hf5, hk6, hw⟩ := hw
  refine ppF_P (S := ((S.1 ++ [q1]), (va_up S.2 q1 (.inl (g.2.1 0, (Int32.toNatClampNeg (4)), .inl (fun _ => 0)))))) (vs := vs3) (v := .ref (q1)) (C := R_Ca) (F := F_Ca) (N := 5) hx hb hts hin_Ca t_Ca t_Ca_ok n_Ca hown hK hP hD hS ha4 hf5 rfl 2 (by decide) rfl hmn rfl rfl rfl hk6 k_C_102 d_Ca_init_8 (fun H locs hP hD hS => ?_)
  have hP : va_P g.1 classes (wP ((S.1 ++ [q1]), (va_up (va_up S.2 q1 (.inl (g.2.1 0, (Int32.toNatClampNeg (4)), .inl (fun _ => 0)))) h0 (.inr (9, vs3.set 2 (.ref (q1))))))) H := hP
  have hD : va_D A (wP ((S.1 ++ [q1]), (va_up (va_up S.2 q1 (.inl (g.2.1 0, (Int32.toNatClampNeg (4)), .inl (fun _ => 0)))) h0 (.inr (9, vs3.set 2 (.ref (q1))))))) := hD
  refine lv_aload_n hx hb d_Ca_init_11 rfl (lv_at hl 0 rfl) ?_
  refine lv_iconst (v := 4) hx hb d_Ca_init_12 (by decide) ?_
  obtain ⟨hn9, hb9, hcm, hzm, hw⟩ := hw
  refine pni_P (S := ((S.1 ++ [q1]), (va_up (va_up S.2 q1 (.inl (g.2.1 0, (Int32.toNatClampNeg (4)), .inl (fun _ => 0)))) h0 (.inr (9, vs3.set 2 (.ref (q1))))))) hx hb hts k_C_71 hK hP hD hS hA hn9 hb9 hcm hzm d_Ca_init_13 (fun q7 H hq8 hP hD hS => ?_)
  have hP : va_P g.1 classes (wP (((S.1 ++ [q1]) ++ [q7]), (va_up (va_up (va_up S.2 q1 (.inl (g.2.1 0, (Int32.toNatClampNeg (4)), .inl (fun _ => 0)))) h0 (.inr (9, vs3.set 2 (.ref (q1))))) q7 (.inl (g.2.1 0, (Int32.toNatClampNeg (4)), .inl (fun _ => 0)))))) H := hP
  have hD : va_D A (wP (((S.1 ++ [q1]) ++ [q7]), (va_up (va_up (va_up S.2 q1 (.inl (g.2.1 0, (Int32.toNatClampNeg (4)), .inl (fun _ => 0)))) h0 (.inr (9, vs3.set 2 (.ref (q1))))) q7 (.inl (g.2.1 0, (Int32.toNatClampNeg (4)), .inl (fun _ => 0)))))) := hD
  have hw := hw q7 hq8
  obtain ⟨vs9, ha10, hf11, hk12, hw⟩ := hw
  refine ppF_P (S := (((S.1 ++ [q1]) ++ [q7]), (va_up (va_up (va_up S.2 q1 (.inl (g.2.1 0, (Int32.toNatClampNeg (4)), .inl (fun _ => 0)))) h0 (.inr (9, vs3.set 2 (.ref (q1))))) q7 (.inl (g.2.1 0, (Int32.toNatClampNeg (4)), .inl (fun _ => 0)))))) (vs := vs9) (v := .ref (q7)) (C := R_Ca) (F := F_Ca) (N := 5) hx hb hts hin_Ca t_Ca t_Ca_ok n_Ca hown hK hP hD hS ha10 hf11 rfl 3 (by decide) rfl hmn rfl rfl rfl hk12 k_C_103 d_Ca_init_15 (fun H locs hP hD hS => ?_)
  have hP : va_P g.1 classes (wP (((S.1 ++ [q1]) ++ [q7]), (va_up (va_up (va_up (va_up S.2 q1 (.inl (g.2.1 0, (Int32.toNatClampNeg (4)), .inl (fun _ => 0)))) h0 (.inr (9, vs3.set 2 (.ref (q1))))) q7 (.inl (g.2.1 0, (Int32.toNatClampNeg (4)), .inl (fun _ => 0)))) h0 (.inr (9, vs9.set 3 (.ref (q7))))))) H := hP
  have hD : va_D A (wP (((S.1 ++ [q1]) ++ [q7]), (va_up (va_up (va_up (va_up S.2 q1 (.inl (g.2.1 0, (Int32.toNatClampNeg (4)), .inl (fun _ => 0)))) h0 (.inr (9, vs3.set 2 (.ref (q1))))) q7 (.inl (g.2.1 0, (Int32.toNatClampNeg (4)), .inl (fun _ => 0)))) h0 (.inr (9, vs9.set 3 (.ref (q7))))))) := hD
  exact kr (((S.1 ++ [q1]) ++ [q7]), (va_up (va_up (va_up (va_up S.2 q1 (.inl (g.2.1 0, (Int32.toNatClampNeg (4)), .inl (fun _ => 0)))) h0 (.inr (9, vs3.set 2 (.ref (q1))))) q7 (.inl (g.2.1 0, (Int32.toNatClampNeg (4)), .inl (fun _ => 0)))) h0 (.inr (9, vs9.set 3 (.ref (q7)))))) _ _ _ _ _ _ hcm hzm hw hP hD hS d_Ca_init_18
theorem d_Co_init_0 : decode b_Co_init 0 = .ok (.aload_n 0, 1) := by decide +kernel
theorem d_Co_init_1 : decode b_Co_init 1 = .ok (.invokespecial 3, 3) := by decide +kernel
theorem d_Co_init_4 : decode b_Co_init 4 = .ok (.aload_n 0, 1) := by decide +kernel
theorem d_Co_init_5 : decode b_Co_init 5 = .ok (.bipush 8, 2) := by decide +kernel
theorem d_Co_init_7 : decode b_Co_init 7 = .ok (.anewarray 9, 3) := by decide +kernel
theorem d_Co_init_10 : decode b_Co_init 10 = .ok (.putfield 11, 3) := by decide +kernel
theorem d_Co_init_13 : decode b_Co_init 13 = .ok (.aload_n 0, 1) := by decide +kernel
theorem d_Co_init_14 : decode b_Co_init 14 = .ok (.bipush 8, 2) := by decide +kernel
theorem d_Co_init_16 : decode b_Co_init 16 = .ok (.newarray .int, 2) := by decide +kernel
theorem d_Co_init_18 : decode b_Co_init 18 = .ok (.putfield 17, 3) := by decide +kernel
theorem d_Co_init_21 : decode b_Co_init 21 = .ok (.return_, 1) := by decide +kernel
def wp_Co_init (g : Gm) (post : StP → Prop) (mc ms : Nat) (S : StP) (h0 : Nat) : Prop :=
  (¬ (8 : Int32) < 0) ∧ ((Int32.toNatClampNeg (8)) * 4 ≤ 536870912) ∧ (0 + 1 ≤ mc) ∧ (0 + (Int32.toNatClampNeg (8)) ≤ ms) ∧ (∀ q1 : Nat, q1 ∉ S.1 → ∃ (vs3 : List Value), (h0 ∈ (S.1 ++ [q1])) ∧ ((va_up S.2 q1 (.inl (g.2.1 6, (Int32.toNatClampNeg (8)), .inr (.inr (.inr (.inr (fun _ => none))))))) h0 = .inr (10, vs3)) ∧ (1 < vs3.length) ∧ ((¬ (8 : Int32) < 0) ∧ ((Int32.toNatClampNeg (8)) * 4 ≤ 536870912) ∧ ((0 + 1) + 1 ≤ mc) ∧ ((0 + (Int32.toNatClampNeg (8))) + (Int32.toNatClampNeg (8)) ≤ ms) ∧ (∀ q7 : Nat, q7 ∉ (S.1 ++ [q1]) → ∃ (vs9 : List Value), (h0 ∈ ((S.1 ++ [q1]) ++ [q7])) ∧ ((va_up (va_up (va_up S.2 q1 (.inl (g.2.1 6, (Int32.toNatClampNeg (8)), .inr (.inr (.inr (.inr (fun _ => none))))))) h0 (.inr (10, vs3.set 1 (.ref (q1))))) q7 (.inl (g.2.1 0, (Int32.toNatClampNeg (8)), .inl (fun _ => 0)))) h0 = .inr (10, vs9)) ∧ (2 < vs9.length) ∧ (post (((S.1 ++ [q1]) ++ [q7]), (va_up (va_up (va_up (va_up S.2 q1 (.inl (g.2.1 6, (Int32.toNatClampNeg (8)), .inr (.inr (.inr (.inr (fun _ => none))))))) h0 (.inr (10, vs3.set 1 (.ref (q1))))) q7 (.inl (g.2.1 0, (Int32.toNatClampNeg (8)), .inl (fun _ => 0)))) h0 (.inr (10, vs9.set 2 (.ref (q7))))))))))
set_option maxRecDepth 100000 in
set_option maxHeartbeats 4000000 in
theorem c_Co_init (l : Launch) (g : Gm) (sz : Nat) (S : StP) (h0 : Nat) (post : StP → Prop) (mc ms : Nat) (hw : wp_Co_init g post mc ms S h0) : Met l y_Co_init (.code y_Co_init b_Co_init 1 none :: w_C) (rmA 1 20 mc ms) (va_Pc [.ref (h0)] (PP g sz S)) (va_Qv post (BP g (AP sz S)) (AP sz S)) mc ms (AP sz S) := by
  refine ofP_v (by decide) (Nat.le_of_ble_eq_true rfl) (fun p e s m args below meth c Q A H locs ls hx hb hml hts hown hK hA hC hN hmn kr hl hP hD hS => ?_)
  have hl : lv_has ls 1 [(0, .ref (h0))] := hl
  unfold wp_Co_init at hw
  have hcm : 0 ≤ mc := Nat.zero_le _
  have hzm : 0 ≤ ms := Nat.zero_le _
  refine lv_aload_n hx hb d_Co_init_0 rfl (lv_at hl 0 rfl) ?_
  refine W.objInit hx hb hown (hts _ k_C_120) (hts _ k_C_26) (hts _ k_C_27) rfl (by rw [hml]; exact hl.1) rfl d_Co_init_1 (Nat.le_of_ble_eq_true rfl) (Nat.le_of_ble_eq_true rfl) ?_
  refine W.eq (g2 := F0 m 4 ls []) rfl ?_
  refine lv_aload_n hx hb d_Co_init_4 rfl (lv_at hl 0 rfl) ?_
  refine lv_bipush (v := 8) hx hb d_Co_init_5 (by decide) ?_
  obtain ⟨hn9, hb9, hcm, hzm, hw⟩ := hw
  refine pnq_P (S := S) (j := 6) (t0 := 5) hx hb hts hown k_C_121 hC.2.2.2.2.1 rfl hK hP hD hS hA hn9 hb9 hcm hzm d_Co_init_7 (fun q1 H hq2 hP hD hS => ?_)
  have hP : va_P g.1 classes (wP ((S.1 ++ [q1]), (va_up S.2 q1 (.inl (g.2.1 6, (Int32.toNatClampNeg (8)), .inr (.inr (.inr (.inr (fun _ => none))))))))) H := hP
  have hD : va_D A (wP ((S.1 ++ [q1]), (va_up S.2 q1 (.inl (g.2.1 6, (Int32.toNatClampNeg (8)), .inr (.inr (.inr (.inr (fun _ => none))))))))) := hD
  have hw := hw q1 hq2
  obtain ⟨vs3, ha4, hf5, hk6, hw⟩ := hw
  refine ppF_P (S := ((S.1 ++ [q1]), (va_up S.2 q1 (.inl (g.2.1 6, (Int32.toNatClampNeg (8)), .inr (.inr (.inr (.inr (fun _ => none))))))))) (vs := vs3) (v := .ref (q1)) (C := R_Co) (F := F_Co) (N := 4) hx hb hts hin_Co t_Co t_Co_ok n_Co hown hK hP hD hS ha4 hf5 rfl 1 (by decide) rfl hmn rfl rfl rfl hk6 k_C_123 d_Co_init_10 (fun H locs hP hD hS => ?_)
  have hP : va_P g.1 classes (wP ((S.1 ++ [q1]), (va_up (va_up S.2 q1 (.inl (g.2.1 6, (Int32.toNatClampNeg (8)), .inr (.inr (.inr (.inr (fun _ => none))))))) h0 (.inr (10, vs3.set 1 (.ref (q1))))))) H := hP
  have hD : va_D A (wP ((S.1 ++ [q1]), (va_up (va_up S.2 q1 (.inl (g.2.1 6, (Int32.toNatClampNeg (8)), .inr (.inr (.inr (.inr (fun _ => none))))))) h0 (.inr (10, vs3.set 1 (.ref (q1))))))) := hD
  refine lv_aload_n hx hb d_Co_init_13 rfl (lv_at hl 0 rfl) ?_
  refine lv_bipush (v := 8) hx hb d_Co_init_14 (by decide) ?_
  obtain ⟨hn9, hb9, hcm, hzm, hw⟩ := hw
  refine pni_P (S := ((S.1 ++ [q1]), (va_up (va_up S.2 q1 (.inl (g.2.1 6, (Int32.toNatClampNeg (8)), .inr (.inr (.inr (.inr (fun _ => none))))))) h0 (.inr (10, vs3.set 1 (.ref (q1))))))) hx hb hts k_C_71 hK hP hD hS hA hn9 hb9 hcm hzm d_Co_init_16 (fun q7 H hq8 hP hD hS => ?_)
  have hP : va_P g.1 classes (wP (((S.1 ++ [q1]) ++ [q7]), (va_up (va_up (va_up S.2 q1 (.inl (g.2.1 6, (Int32.toNatClampNeg (8)), .inr (.inr (.inr (.inr (fun _ => none))))))) h0 (.inr (10, vs3.set 1 (.ref (q1))))) q7 (.inl (g.2.1 0, (Int32.toNatClampNeg (8)), .inl (fun _ => 0)))))) H := hP
  have hD : va_D A (wP (((S.1 ++ [q1]) ++ [q7]), (va_up (va_up (va_up S.2 q1 (.inl (g.2.1 6, (Int32.toNatClampNeg (8)), .inr (.inr (.inr (.inr (fun _ => none))))))) h0 (.inr (10, vs3.set 1 (.ref (q1))))) q7 (.inl (g.2.1 0, (Int32.toNatClampNeg (8)), .inl (fun _ => 0)))))) := hD
  have hw := hw q7 hq8
  obtain ⟨vs9, ha10, hf11, hk12, hw⟩ := hw
  refine ppF_P (S := (((S.1 ++ [q1]) ++ [q7]), (va_up (va_up (va_up S.2 q1 (.inl (g.2.1 6, (Int32.toNatClampNeg (8)), .inr (.inr (.inr (.inr (fun _ => none))))))) h0 (.inr (10, vs3.set 1 (.ref (q1))))) q7 (.inl (g.2.1 0, (Int32.toNatClampNeg (8)), .inl (fun _ => 0)))))) (vs := vs9) (v := .ref (q7)) (C := R_Co) (F := F_Co) (N := 4) hx hb hts hin_Co t_Co t_Co_ok n_Co hown hK hP hD hS ha10 hf11 rfl 2 (by decide) rfl hmn rfl rfl rfl hk12 k_C_124 d_Co_init_18 (fun H locs hP hD hS => ?_)
  have hP : va_P g.1 classes (wP (((S.1 ++ [q1]) ++ [q7]), (va_up (va_up (va_up (va_up S.2 q1 (.inl (g.2.1 6, (Int32.toNatClampNeg (8)), .inr (.inr (.inr (.inr (fun _ => none))))))) h0 (.inr (10, vs3.set 1 (.ref (q1))))) q7 (.inl (g.2.1 0, (Int32.toNatClampNeg (8)), .inl (fun _ => 0)))) h0 (.inr (10, vs9.set 2 (.ref (q7))))))) H := hP
  have hD : va_D A (wP (((S.1 ++ [q1]) ++ [q7]), (va_up (va_up (va_up (va_up S.2 q1 (.inl (g.2.1 6, (Int32.toNatClampNeg (8)), .inr (.inr (.inr (.inr (fun _ => none))))))) h0 (.inr (10, vs3.set 1 (.ref (q1))))) q7 (.inl (g.2.1 0, (Int32.toNatClampNeg (8)), .inl (fun _ => 0)))) h0 (.inr (10, vs9.set 2 (.ref (q7))))))) := hD
  exact kr (((S.1 ++ [q1]) ++ [q7]), (va_up (va_up (va_up (va_up S.2 q1 (.inl (g.2.1 6, (Int32.toNatClampNeg (8)), .inr (.inr (.inr (.inr (fun _ => none))))))) h0 (.inr (10, vs3.set 1 (.ref (q1))))) q7 (.inl (g.2.1 0, (Int32.toNatClampNeg (8)), .inl (fun _ => 0)))) h0 (.inr (10, vs9.set 2 (.ref (q7)))))) _ _ _ _ _ _ hcm hzm hw hP hD hS d_Co_init_21
theorem qP_0 {R : Room} {s : State} {args : Array Value} {g : Gm} {mc1 ms1 : Nat} (hN : NW g s) (hts : ∀ w ∈ w_C, w.before args s = true) (hR : (rmA 1 20 mc1 ms1).frames + 1 ≤ R.frames ∧ 8 + (1 + 11) + (rmA 1 20 mc1 ms1).locals ≤ R.locals) : va_CN R s args "WordSmith$Machine" 45 y_Ca_init "WordSmith" b_Ca_init 1 none (.code y_Ca_init b_Ca_init 1 none :: w_C) (rmA 1 20 mc1 ms1) mc1 ms1 0 ∧ y_Ca_init.name = "<init>" ∧ (Cond.instanceMethod y_Ca_init).before args s = true := ⟨va_cnB 0 hts (good_C k_C_98) rfl rfl rfl (hN.1 _ kn_C_11) (hts _ k_C_10) ⟨by decide +kernel, by decide +kernel, by decide +kernel⟩ hR, rfl, hts _ k_C_97⟩
theorem qP_1 {R : Room} {s : State} {args : Array Value} {g : Gm} {mc1 ms1 : Nat} (hN : NW g s) (hts : ∀ w ∈ w_C, w.before args s = true) (hR : (rmA 1 20 mc1 ms1).frames + 1 ≤ R.frames ∧ 8 + (1 + 11) + (rmA 1 20 mc1 ms1).locals ≤ R.locals) : va_CN R s args "WordSmith$Machine" 11 y_N_init "WordSmith" b_N_init 1 none (.code y_N_init b_N_init 1 none :: w_C) (rmA 1 20 mc1 ms1) mc1 ms1 0 ∧ y_N_init.name = "<init>" ∧ (Cond.instanceMethod y_N_init).before args s = true := ⟨va_cnB 0 hts (good_C k_C_66) rfl rfl rfl (hN.1 _ kn_C_1) (hts _ k_C_7) ⟨by decide +kernel, by decide +kernel, by decide +kernel⟩ hR, rfl, hts _ k_C_65⟩
theorem qP_2 {R : Room} {s : State} {args : Array Value} {g : Gm} {mc1 ms1 : Nat} (hN : NW g s) (hts : ∀ w ∈ w_C, w.before args s = true) (hR : (rmA 1 20 mc1 ms1).frames + 1 ≤ R.frames ∧ 8 + (1 + 11) + (rmA 1 20 mc1 ms1).locals ≤ R.locals) : va_CN R s args "WordSmith$Machine" 23 y_Me_init "WordSmith" b_Me_init 1 none (.code y_Me_init b_Me_init 1 none :: w_C) (rmA 1 20 mc1 ms1) mc1 ms1 0 ∧ y_Me_init.name = "<init>" ∧ (Cond.instanceMethod y_Me_init).before args s = true := ⟨va_cnB 0 hts (good_C k_C_75) rfl rfl rfl (hN.1 _ kn_C_5) (hts _ k_C_8) ⟨by decide +kernel, by decide +kernel, by decide +kernel⟩ hR, rfl, hts _ k_C_74⟩
theorem qP_3 {R : Room} {s : State} {args : Array Value} {g : Gm} {mc1 ms1 : Nat} (hN : NW g s) (hts : ∀ w ∈ w_C, w.before args s = true) (hR : (rmA 1 20 mc1 ms1).frames + 1 ≤ R.frames ∧ 8 + (1 + 11) + (rmA 1 20 mc1 ms1).locals ≤ R.locals) : va_CN R s args "WordSmith$Machine" 30 y_Di_init "WordSmith" b_Di_init 1 none (.code y_Di_init b_Di_init 1 none :: w_C) (rmA 1 20 mc1 ms1) mc1 ms1 0 ∧ y_Di_init.name = "<init>" ∧ (Cond.instanceMethod y_Di_init).before args s = true := ⟨va_cnB 0 hts (good_C k_C_89) rfl rfl rfl (hN.1 _ kn_C_9) (hts _ k_C_9) ⟨by decide +kernel, by decide +kernel, by decide +kernel⟩ hR, rfl, hts _ k_C_88⟩
theorem d_Ma_init_0 : decode b_Ma_init 0 = .ok (.aload_n 0, 1) := by decide +kernel
theorem d_Ma_init_1 : decode b_Ma_init 1 = .ok (.invokespecial 3, 3) := by decide +kernel
theorem d_Ma_init_4 : decode b_Ma_init 4 = .ok (.aload_n 0, 1) := by decide +kernel
theorem d_Ma_init_5 : decode b_Ma_init 5 = .ok (.new 9, 3) := by decide +kernel
theorem d_Ma_init_8 : decode b_Ma_init 8 = .ok (.dup, 1) := by decide +kernel
theorem d_Ma_init_9 : decode b_Ma_init 9 = .ok (.invokespecial 11, 3) := by decide +kernel
theorem d_Ma_init_12 : decode b_Ma_init 12 = .ok (.putfield 12, 3) := by decide +kernel
theorem d_Ma_init_15 : decode b_Ma_init 15 = .ok (.aload_n 0, 1) := by decide +kernel
theorem d_Ma_init_16 : decode b_Ma_init 16 = .ok (.new 9, 3) := by decide +kernel
theorem d_Ma_init_19 : decode b_Ma_init 19 = .ok (.dup, 1) := by decide +kernel
theorem d_Ma_init_20 : decode b_Ma_init 20 = .ok (.invokespecial 11, 3) := by decide +kernel
theorem d_Ma_init_23 : decode b_Ma_init 23 = .ok (.putfield 18, 3) := by decide +kernel
theorem d_Ma_init_26 : decode b_Ma_init 26 = .ok (.aload_n 0, 1) := by decide +kernel
theorem d_Ma_init_27 : decode b_Ma_init 27 = .ok (.new 21, 3) := by decide +kernel
theorem d_Ma_init_30 : decode b_Ma_init 30 = .ok (.dup, 1) := by decide +kernel
theorem d_Ma_init_31 : decode b_Ma_init 31 = .ok (.invokespecial 23, 3) := by decide +kernel
theorem d_Ma_init_34 : decode b_Ma_init 34 = .ok (.putfield 24, 3) := by decide +kernel
theorem d_Ma_init_37 : decode b_Ma_init 37 = .ok (.aload_n 0, 1) := by decide +kernel
theorem d_Ma_init_38 : decode b_Ma_init 38 = .ok (.new 28, 3) := by decide +kernel
theorem d_Ma_init_41 : decode b_Ma_init 41 = .ok (.dup, 1) := by decide +kernel
theorem d_Ma_init_42 : decode b_Ma_init 42 = .ok (.invokespecial 30, 3) := by decide +kernel
theorem d_Ma_init_45 : decode b_Ma_init 45 = .ok (.putfield 31, 3) := by decide +kernel
theorem d_Ma_init_48 : decode b_Ma_init 48 = .ok (.aload_n 0, 1) := by decide +kernel
theorem d_Ma_init_49 : decode b_Ma_init 49 = .ok (.bipush 16, 2) := by decide +kernel
theorem d_Ma_init_51 : decode b_Ma_init 51 = .ok (.anewarray 35, 3) := by decide +kernel
theorem d_Ma_init_54 : decode b_Ma_init 54 = .ok (.putfield 37, 3) := by decide +kernel
theorem d_Ma_init_57 : decode b_Ma_init 57 = .ok (.aload_n 0, 1) := by decide +kernel
theorem d_Ma_init_58 : decode b_Ma_init 58 = .ok (.bipush 40, 2) := by decide +kernel
theorem d_Ma_init_60 : decode b_Ma_init 60 = .ok (.newarray .int, 2) := by decide +kernel
theorem d_Ma_init_62 : decode b_Ma_init 62 = .ok (.putfield 41, 3) := by decide +kernel
theorem d_Ma_init_65 : decode b_Ma_init 65 = .ok (.iconst 0, 1) := by decide +kernel
theorem d_Ma_init_66 : decode b_Ma_init 66 = .ok (.istore_n 1, 1) := by decide +kernel
theorem d_Ma_init_67 : decode b_Ma_init 67 = .ok (.iload_n 1, 1) := by decide +kernel
theorem d_Ma_init_68 : decode b_Ma_init 68 = .ok (.bipush 16, 2) := by decide +kernel
theorem d_Ma_init_70 : decode b_Ma_init 70 = .ok (.if_icmp .ge 22, 3) := by decide +kernel
theorem d_Ma_init_73 : decode b_Ma_init 73 = .ok (.aload_n 0, 1) := by decide +kernel
theorem d_Ma_init_74 : decode b_Ma_init 74 = .ok (.getfield 37, 3) := by decide +kernel
theorem d_Ma_init_77 : decode b_Ma_init 77 = .ok (.iload_n 1, 1) := by decide +kernel
theorem d_Ma_init_78 : decode b_Ma_init 78 = .ok (.new 35, 3) := by decide +kernel
theorem d_Ma_init_81 : decode b_Ma_init 81 = .ok (.dup, 1) := by decide +kernel
theorem d_Ma_init_82 : decode b_Ma_init 82 = .ok (.invokespecial 45, 3) := by decide +kernel
theorem d_Ma_init_85 : decode b_Ma_init 85 = .ok (.aastore, 1) := by decide +kernel
theorem d_Ma_init_86 : decode b_Ma_init 86 = .ok (.iinc 1 1, 3) := by decide +kernel
theorem d_Ma_init_89 : decode b_Ma_init 89 = .ok (.goto (-22), 3) := by decide +kernel
theorem d_Ma_init_92 : decode b_Ma_init 92 = .ok (.return_, 1) := by decide +kernel
def wq_Ma_init_67 (g : Gm) (post : StP → Prop) (mc ms : Nat)  : Nat → StP → Nat → Int32 → Nat → Nat → Prop
  | 0, _, _, _, _, _ => False
  | n67 + 1, S, x0, x1, c0, z0 =>
    ((16 ≤ x1) → post S) ∧ (¬ (16 ≤ x1) → ∃ (vs1 : List Value) (z5 : Nat), (x0 ∈ S.1) ∧ (S.2 x0 = .inr (5, vs1)) ∧ (vs1[4]? = some (.ref (z5))) ∧ ((c0 + 1 ≤ mc) ∧ (z0 + 5 ≤ ms) ∧ (∀ q6 : Nat, q6 ∉ S.1 → ∃ (mc8 : Nat) (ms9 : Nat), ((c0 + 1) + mc8 ≤ mc) ∧ ((z0 + 5) + ms9 ≤ ms) ∧ (wp_Ca_init g (fun S10 : StP => (∃ (n11 : Nat) (f12 : Nat → Option Nat) (vs13 : List Value), (z5 ∈ S10.1) ∧ (S10.2 z5 = .inl (g.2.1 5, n11, .inr (.inr (.inr (.inr f12))))) ∧ (q6 ∈ S10.1) ∧ (S10.2 q6 = .inr (9, vs13)) ∧ (vp_in x1 n11) ∧ ((wq_Ma_init_67 g post mc ms  n67) (S10.1, (va_up S10.2 z5 (.inl (g.2.1 5, n11, .inr (.inr (.inr (.inr (va_up f12 (Int32.toNatClampNeg (x1)) (some (q6)))))))))) (x0) ((x1 + 1)) (((c0 + 1) + mc8)) (((z0 + 5) + ms9))))) mc8 ms9 ((S.1 ++ [q6]), (va_up S.2 q6 (.inr (9, [.null, .int 0, .null, .null, .int 0])))) (q6)))))
def wp_Ma_init (g : Gm) (post : StP → Prop) (mc ms : Nat) (S : StP) (h0 : Nat) : Prop :=
  (0 + 1 ≤ mc) ∧ (0 + 2 ≤ ms) ∧ (∀ q19 : Nat, q19 ∉ S.1 → ∃ (mc21 : Nat) (ms22 : Nat), ((0 + 1) + mc21 ≤ mc) ∧ ((0 + 2) + ms22 ≤ ms) ∧ (wp_N_init g (fun S23 : StP => (∃ (vs24 : List Value), (h0 ∈ S23.1) ∧ (S23.2 h0 = .inr (5, vs24)) ∧ (0 < vs24.length) ∧ ((((0 + 1) + mc21) + 1 ≤ mc) ∧ (((0 + 2) + ms22) + 2 ≤ ms) ∧ (∀ q28 : Nat, q28 ∉ S23.1 → ∃ (mc30 : Nat) (ms31 : Nat), ((((0 + 1) + mc21) + 1) + mc30 ≤ mc) ∧ ((((0 + 2) + ms22) + 2) + ms31 ≤ ms) ∧ (wp_N_init g (fun S32 : StP => (∃ (vs33 : List Value), (h0 ∈ S32.1) ∧ (S32.2 h0 = .inr (5, vs33)) ∧ (1 < vs33.length) ∧ ((((((0 + 1) + mc21) + 1) + mc30) + 1 ≤ mc) ∧ (((((0 + 2) + ms22) + 2) + ms31) + 6 ≤ ms) ∧ (∀ q37 : Nat, q37 ∉ S32.1 → ∃ (mc39 : Nat) (ms40 : Nat), ((((((0 + 1) + mc21) + 1) + mc30) + 1) + mc39 ≤ mc) ∧ ((((((0 + 2) + ms22) + 2) + ms31) + 6) + ms40 ≤ ms) ∧ (wp_Me_init g (fun S41 : StP => (∃ (vs42 : List Value), (h0 ∈ S41.1) ∧ (S41.2 h0 = .inr (5, vs42)) ∧ (2 < vs42.length) ∧ ((((((((0 + 1) + mc21) + 1) + mc30) + 1) + mc39) + 1 ≤ mc) ∧ (((((((0 + 2) + ms22) + 2) + ms31) + 6) + ms40) + 2 ≤ ms) ∧ (∀ q46 : Nat, q46 ∉ S41.1 → ∃ (mc48 : Nat) (ms49 : Nat), ((((((((0 + 1) + mc21) + 1) + mc30) + 1) + mc39) + 1) + mc48 ≤ mc) ∧ ((((((((0 + 2) + ms22) + 2) + ms31) + 6) + ms40) + 2) + ms49 ≤ ms) ∧ (wp_Di_init g (fun S50 : StP => (∃ (vs51 : List Value), (h0 ∈ S50.1) ∧ (S50.2 h0 = .inr (5, vs51)) ∧ (3 < vs51.length) ∧ ((¬ (16 : Int32) < 0) ∧ ((Int32.toNatClampNeg (16)) * 4 ≤ 536870912) ∧ (((((((((0 + 1) + mc21) + 1) + mc30) + 1) + mc39) + 1) + mc48) + 1 ≤ mc) ∧ (((((((((0 + 2) + ms22) + 2) + ms31) + 6) + ms40) + 2) + ms49) + (Int32.toNatClampNeg (16)) ≤ ms) ∧ (∀ q55 : Nat, q55 ∉ S50.1 → ∃ (vs57 : List Value), (h0 ∈ (S50.1 ++ [q55])) ∧ ((va_up (va_up S50.2 h0 (.inr (5, vs51.set 3 (.ref (q46))))) q55 (.inl (g.2.1 5, (Int32.toNatClampNeg (16)), .inr (.inr (.inr (.inr (fun _ => none))))))) h0 = .inr (5, vs57)) ∧ (4 < vs57.length) ∧ ((¬ (40 : Int32) < 0) ∧ ((Int32.toNatClampNeg (40)) * 4 ≤ 536870912) ∧ ((((((((((0 + 1) + mc21) + 1) + mc30) + 1) + mc39) + 1) + mc48) + 1) + 1 ≤ mc) ∧ ((((((((((0 + 2) + ms22) + 2) + ms31) + 6) + ms40) + 2) + ms49) + (Int32.toNatClampNeg (16))) + (Int32.toNatClampNeg (40)) ≤ ms) ∧ (∀ q61 : Nat, q61 ∉ (S50.1 ++ [q55]) → ∃ (vs63 : List Value), (h0 ∈ ((S50.1 ++ [q55]) ++ [q61])) ∧ ((va_up (va_up (va_up (va_up S50.2 h0 (.inr (5, vs51.set 3 (.ref (q46))))) q55 (.inl (g.2.1 5, (Int32.toNatClampNeg (16)), .inr (.inr (.inr (.inr (fun _ => none))))))) h0 (.inr (5, vs57.set 4 (.ref (q55))))) q61 (.inl (g.2.1 0, (Int32.toNatClampNeg (40)), .inl (fun _ => 0)))) h0 = .inr (5, vs63)) ∧ (6 < vs63.length) ∧ (∃ nn : Nat, wq_Ma_init_67 g post mc ms  nn (((S50.1 ++ [q55]) ++ [q61]), (va_up (va_up (va_up (va_up (va_up S50.2 h0 (.inr (5, vs51.set 3 (.ref (q46))))) q55 (.inl (g.2.1 5, (Int32.toNatClampNeg (16)), .inr (.inr (.inr (.inr (fun _ => none))))))) h0 (.inr (5, vs57.set 4 (.ref (q55))))) q61 (.inl (g.2.1 0, (Int32.toNatClampNeg (40)), .inl (fun _ => 0)))) h0 (.inr (5, vs63.set 6 (.ref (q61)))))) (h0) (0) (((((((((((0 + 1) + mc21) + 1) + mc30) + 1) + mc39) + 1) + mc48) + 1) + 1)) (((((((((((0 + 2) + ms22) + 2) + ms31) + 6) + ms40) + 2) + ms49) + (Int32.toNatClampNeg (16))) + (Int32.toNatClampNeg (40))))))))))) mc48 ms49 ((S41.1 ++ [q46]), (va_up (va_up S41.2 h0 (.inr (5, vs42.set 2 (.ref (q37))))) q46 (.inr (8, [.null, .int 0])))) (q46)))))) mc39 ms40 ((S32.1 ++ [q37]), (va_up (va_up S32.2 h0 (.inr (5, vs33.set 1 (.ref (q28))))) q37 (.inr (7, [.null, .int 0, .null, .null, .null, .int 0])))) (q37)))))) mc30 ms31 ((S23.1 ++ [q28]), (va_up (va_up S23.2 h0 (.inr (5, vs24.set 0 (.ref (q19))))) q28 (.inr (6, [.null, .int 0])))) (q28)))))) mc21 ms22 ((S.1 ++ [q19]), (va_up S.2 q19 (.inr (6, [.null, .int 0])))) (q19)))
set_option maxRecDepth 100000 in
set_option maxHeartbeats 4000000 in
theorem c_Ma_init (l : Launch) (g : Gm) (sz : Nat) (S : StP) (h0 : Nat) (post : StP → Prop) (mc ms : Nat) (hw : wp_Ma_init g post mc ms S h0) : Met l y_Ma_init (.code y_Ma_init b_Ma_init 2 none :: w_C) (rmA 2 40 mc ms) (va_Pc [.ref (h0)] (PP g sz S)) (va_Qv post (BP g (AP sz S)) (AP sz S)) mc ms (AP sz S) := by
  refine ofP_v (by decide) (Nat.le_of_ble_eq_true rfl) (fun p e s m args below meth c Q A H locs ls hx hb hml hts hown hK hA hC hN hmn kr hl hP hD hS => ?_)
  have hl : lv_has ls 2 [(0, .ref (h0))] := hl
  unfold wp_Ma_init at hw
  have hcm : 0 ≤ mc := Nat.zero_le _
  have hzm : 0 ≤ ms := Nat.zero_le _
  have J67 : ∀ (n67 : Nat), ∀ (S : StP) (x0 : Nat) (x1 : Int32) (c0 : Nat) (z0 : Nat) (H : Heap) (locs : List Loc) (ls : Array Slot), c0 ≤ mc → z0 ≤ ms → wq_Ma_init_67 g post mc ms  n67 S x0 x1 c0 z0 → lv_has ls 2 [(0, .ref (x0)), (1, .int (x1))] → va_P g.1 classes (wP S) H → va_D A (wP S) → va_S A s.heap H locs → W p l e (rmA 2 40 mc ms) s m args below meth c H locs c0 z0 Q (F0 m 67 ls []) := by
    intro n67
    induction n67 with
    | zero => intro S x0 x1 c0 z0 H locs ls hcm hzm hw; exact hw.elim
    | succ n67 ih67 =>
      intro S x0 x1 c0 z0 H locs ls hcm hzm hw hl hP hD hS
      unfold wq_Ma_init_67 at hw
      refine lv_iload_n hx hb d_Ma_init_67 rfl (lv_at hl 1 rfl) ?_
      refine lv_bipush (v := 16) hx hb d_Ma_init_68 (by decide) ?_
      refine lv_icmp_ge hx hb d_Ma_init_70 (tgt := 92) (by decide) (fun hc => ?_) (fun hc => ?_)
      · have hw := hw.1 hc
        exact kr S _ _ _ _ _ _ hcm hzm hw hP hD hS d_Ma_init_92
      · have hw := hw.2 hc
        refine lv_aload_n hx hb d_Ma_init_73 rfl (lv_at hl 0 rfl) ?_
        obtain ⟨vs1, z5, ha2, hf3, hv4, hw⟩ := hw
        refine pg_P (S := S) (vs := vs1) (v := .ref (z5)) (C := R_Ma) (F := F_Ma) (N := 9) hx hb hts hin_Ma hown hK hP ha2 hf3 rfl 4 (by decide) hv4 k_C_110 d_Ma_init_74 ?_
        refine lv_iload_n hx hb d_Ma_init_77 rfl (lv_at hl 1 rfl) ?_
        obtain ⟨hcm, hzm, hw⟩ := hw
        refine pn_P (S := S) (fs := [.null, .int 0, .null, .null, .int 0]) (C := R_Ca) (F := F_Ca) (N := 5) (ci := 9) hx hb hts hin_Ca t_Ca t_Ca_ok hown k_C_95 k_C_96 k_C_10 hK hP hD hS hA rfl (fun j hj => by rcases (show j = 0 ∨ j = 1 ∨ j = 2 ∨ j = 3 ∨ j = 4 by omega) with rfl | rfl | rfl | rfl | rfl <;> rfl) hcm hzm d_Ma_init_78 (fun q6 H hq7 hP hD hS => ?_)
        have hP : va_P g.1 classes (wP ((S.1 ++ [q6]), (va_up S.2 q6 (.inr (9, [.null, .int 0, .null, .null, .int 0]))))) H := hP
        have hD : va_D A (wP ((S.1 ++ [q6]), (va_up S.2 q6 (.inr (9, [.null, .int 0, .null, .null, .int 0]))))) := hD
        have hw := hw q6 hq7
        refine lv_dup hx hb d_Ma_init_81 rfl ?_
        obtain ⟨mc8, ms9, hcm, hzm, hw⟩ := hw
        refine cP_vIN (As := []) (rest := [.ref (q6), .int (x1), .ref (z5)]) hx hb hml hown hts hK hC hP hD hS hA hcm hzm hl.1  (qP_0 hN hts ⟨Nat.le_of_ble_eq_true rfl, Nat.le_of_ble_eq_true rfl⟩) (c_Ca_init l g H.size _ (q6) _ _ _ hw) rfl rfl (Nat.le_of_ble_eq_true rfl) d_Ma_init_82 (fun S10 H locs hw hP hD hS => ?_)
        obtain ⟨n11, f12, vs13, h14, h15, h16, h17, h18, hw⟩ := hw
        refine paq_P (S := S10) hx hb hK hP hD hS h14 h15 h16 h17 h18 d_Ma_init_85 (fun H locs hP hD hS => ?_)
        have hP : va_P g.1 classes (wP (S10.1, (va_up S10.2 z5 (.inl (g.2.1 5, n11, .inr (.inr (.inr (.inr (va_up f12 (Int32.toNatClampNeg (x1)) (some (q6))))))))))) H := hP
        have hD : va_D A (wP (S10.1, (va_up S10.2 z5 (.inl (g.2.1 5, n11, .inr (.inr (.inr (.inr (va_up f12 (Int32.toNatClampNeg (x1)) (some (q6))))))))))) := hD
        refine lv_iinc (k := 1) (v := (x1 + 1)) (lv' := [(1, .int ((x1 + 1))), (0, .ref (x0))]) hx hb d_Ma_init_86 hl rfl rfl (by decide) rfl (fun ls hl => ?_)
        refine lv_goto hx hb d_Ma_init_89 (tgt := 67) (by decide) ?_
        exact ih67 (S10.1, (va_up S10.2 z5 (.inl (g.2.1 5, n11, .inr (.inr (.inr (.inr (va_up f12 (Int32.toNatClampNeg (x1)) (some (q6)))))))))) (x0) ((x1 + 1)) (((c0 + 1) + mc8)) (((z0 + 5) + ms9)) _ _ _ hcm hzm hw (lv_sub hl [1, 0] rfl) hP hD hS
  refine lv_aload_n hx hb d_Ma_init_0 rfl (lv_at hl 0 rfl) ?_
  refine W.objInit hx hb hown (hts _ k_C_62) (hts _ k_C_26) (hts _ k_C_27) rfl (by rw [hml]; exact hl.1) rfl d_Ma_init_1 (Nat.le_of_ble_eq_true rfl) (Nat.le_of_ble_eq_true rfl) ?_
  refine W.eq (g2 := F0 m 4 ls []) rfl ?_
  refine lv_aload_n hx hb d_Ma_init_4 rfl (lv_at hl 0 rfl) ?_
  obtain ⟨hcm, hzm, hw⟩ := hw
  refine pn_P (S := S) (fs := [.null, .int 0]) (C := R_N) (F := F_N) (N := 2) (ci := 6) hx hb hts hin_N t_N t_N_ok hown k_C_63 k_C_64 k_C_7 hK hP hD hS hA rfl (fun j hj => by rcases (show j = 0 ∨ j = 1 by omega) with rfl | rfl <;> rfl) hcm hzm d_Ma_init_5 (fun q19 H hq20 hP hD hS => ?_)
  have hP : va_P g.1 classes (wP ((S.1 ++ [q19]), (va_up S.2 q19 (.inr (6, [.null, .int 0]))))) H := hP
  have hD : va_D A (wP ((S.1 ++ [q19]), (va_up S.2 q19 (.inr (6, [.null, .int 0]))))) := hD
  have hw := hw q19 hq20
  refine lv_dup hx hb d_Ma_init_8 rfl ?_
  obtain ⟨mc21, ms22, hcm, hzm, hw⟩ := hw
  refine cP_vIN (As := []) (rest := [.ref (q19), .ref (h0)]) hx hb hml hown hts hK hC hP hD hS hA hcm hzm hl.1  (qP_1 hN hts ⟨Nat.le_of_ble_eq_true rfl, Nat.le_of_ble_eq_true rfl⟩) (c_N_init l g H.size _ (q19) _ _ _ hw) rfl rfl (Nat.le_of_ble_eq_true rfl) d_Ma_init_9 (fun S23 H locs hw hP hD hS => ?_)
  obtain ⟨vs24, ha25, hf26, hk27, hw⟩ := hw
  refine ppF_P (S := S23) (vs := vs24) (v := .ref (q19)) (C := R_Ma) (F := F_Ma) (N := 9) hx hb hts hin_Ma t_Ma t_Ma_ok n_Ma hown hK hP hD hS ha25 hf26 rfl 0 (by decide) rfl hmn rfl rfl rfl hk27 k_C_106 d_Ma_init_12 (fun H locs hP hD hS => ?_)
  have hP : va_P g.1 classes (wP (S23.1, (va_up S23.2 h0 (.inr (5, vs24.set 0 (.ref (q19))))))) H := hP
  have hD : va_D A (wP (S23.1, (va_up S23.2 h0 (.inr (5, vs24.set 0 (.ref (q19))))))) := hD
  refine lv_aload_n hx hb d_Ma_init_15 rfl (lv_at hl 0 rfl) ?_
  obtain ⟨hcm, hzm, hw⟩ := hw
  refine pn_P (S := (S23.1, (va_up S23.2 h0 (.inr (5, vs24.set 0 (.ref (q19))))))) (fs := [.null, .int 0]) (C := R_N) (F := F_N) (N := 2) (ci := 6) hx hb hts hin_N t_N t_N_ok hown k_C_63 k_C_64 k_C_7 hK hP hD hS hA rfl (fun j hj => by rcases (show j = 0 ∨ j = 1 by omega) with rfl | rfl <;> rfl) hcm hzm d_Ma_init_16 (fun q28 H hq29 hP hD hS => ?_)
  have hP : va_P g.1 classes (wP ((S23.1 ++ [q28]), (va_up (va_up S23.2 h0 (.inr (5, vs24.set 0 (.ref (q19))))) q28 (.inr (6, [.null, .int 0]))))) H := hP
  have hD : va_D A (wP ((S23.1 ++ [q28]), (va_up (va_up S23.2 h0 (.inr (5, vs24.set 0 (.ref (q19))))) q28 (.inr (6, [.null, .int 0]))))) := hD
  have hw := hw q28 hq29
  refine lv_dup hx hb d_Ma_init_19 rfl ?_
  obtain ⟨mc30, ms31, hcm, hzm, hw⟩ := hw
  refine cP_vIN (As := []) (rest := [.ref (q28), .ref (h0)]) hx hb hml hown hts hK hC hP hD hS hA hcm hzm hl.1  (qP_1 hN hts ⟨Nat.le_of_ble_eq_true rfl, Nat.le_of_ble_eq_true rfl⟩) (c_N_init l g H.size _ (q28) _ _ _ hw) rfl rfl (Nat.le_of_ble_eq_true rfl) d_Ma_init_20 (fun S32 H locs hw hP hD hS => ?_)
  obtain ⟨vs33, ha34, hf35, hk36, hw⟩ := hw
  refine ppF_P (S := S32) (vs := vs33) (v := .ref (q28)) (C := R_Ma) (F := F_Ma) (N := 9) hx hb hts hin_Ma t_Ma t_Ma_ok n_Ma hown hK hP hD hS ha34 hf35 rfl 1 (by decide) rfl hmn rfl rfl rfl hk36 k_C_107 d_Ma_init_23 (fun H locs hP hD hS => ?_)
  have hP : va_P g.1 classes (wP (S32.1, (va_up S32.2 h0 (.inr (5, vs33.set 1 (.ref (q28))))))) H := hP
  have hD : va_D A (wP (S32.1, (va_up S32.2 h0 (.inr (5, vs33.set 1 (.ref (q28))))))) := hD
  refine lv_aload_n hx hb d_Ma_init_26 rfl (lv_at hl 0 rfl) ?_
  obtain ⟨hcm, hzm, hw⟩ := hw
  refine pn_P (S := (S32.1, (va_up S32.2 h0 (.inr (5, vs33.set 1 (.ref (q28))))))) (fs := [.null, .int 0, .null, .null, .null, .int 0]) (C := R_Me) (F := F_Me) (N := 6) (ci := 7) hx hb hts hin_Me t_Me t_Me_ok hown k_C_72 k_C_73 k_C_8 hK hP hD hS hA rfl (fun j hj => by rcases (show j = 0 ∨ j = 1 ∨ j = 2 ∨ j = 3 ∨ j = 4 ∨ j = 5 by omega) with rfl | rfl | rfl | rfl | rfl | rfl <;> rfl) hcm hzm d_Ma_init_27 (fun q37 H hq38 hP hD hS => ?_)
  have hP : va_P g.1 classes (wP ((S32.1 ++ [q37]), (va_up (va_up S32.2 h0 (.inr (5, vs33.set 1 (.ref (q28))))) q37 (.inr (7, [.null, .int 0, .null, .null, .null, .int 0]))))) H := hP
  have hD : va_D A (wP ((S32.1 ++ [q37]), (va_up (va_up S32.2 h0 (.inr (5, vs33.set 1 (.ref (q28))))) q37 (.inr (7, [.null, .int 0, .null, .null, .null, .int 0]))))) := hD
  have hw := hw q37 hq38
  refine lv_dup hx hb d_Ma_init_30 rfl ?_
  obtain ⟨mc39, ms40, hcm, hzm, hw⟩ := hw
  refine cP_vIN (As := []) (rest := [.ref (q37), .ref (h0)]) hx hb hml hown hts hK hC hP hD hS hA hcm hzm hl.1  (qP_2 hN hts ⟨Nat.le_of_ble_eq_true rfl, Nat.le_of_ble_eq_true rfl⟩) (c_Me_init l g H.size _ (q37) _ _ _ hw) rfl rfl (Nat.le_of_ble_eq_true rfl) d_Ma_init_31 (fun S41 H locs hw hP hD hS => ?_)
  obtain ⟨vs42, ha43, hf44, hk45, hw⟩ := hw
  refine ppF_P (S := S41) (vs := vs42) (v := .ref (q37)) (C := R_Ma) (F := F_Ma) (N := 9) hx hb hts hin_Ma t_Ma t_Ma_ok n_Ma hown hK hP hD hS ha43 hf44 rfl 2 (by decide) rfl hmn rfl rfl rfl hk45 k_C_108 d_Ma_init_34 (fun H locs hP hD hS => ?_)
  have hP : va_P g.1 classes (wP (S41.1, (va_up S41.2 h0 (.inr (5, vs42.set 2 (.ref (q37))))))) H := hP
  have hD : va_D A (wP (S41.1, (va_up S41.2 h0 (.inr (5, vs42.set 2 (.ref (q37))))))) := hD
  refine lv_aload_n hx hb d_Ma_init_37 rfl (lv_at hl 0 rfl) ?_
  obtain ⟨hcm, hzm, hw⟩ := hw
  refine pn_P (S := (S41.1, (va_up S41.2 h0 (.inr (5, vs42.set 2 (.ref (q37))))))) (fs := [.null, .int 0]) (C := R_Di) (F := F_Di) (N := 2) (ci := 8) hx hb hts hin_Di t_Di t_Di_ok hown k_C_86 k_C_87 k_C_9 hK hP hD hS hA rfl (fun j hj => by rcases (show j = 0 ∨ j = 1 by omega) with rfl | rfl <;> rfl) hcm hzm d_Ma_init_38 (fun q46 H hq47 hP hD hS => ?_)
  have hP : va_P g.1 classes (wP ((S41.1 ++ [q46]), (va_up (va_up S41.2 h0 (.inr (5, vs42.set 2 (.ref (q37))))) q46 (.inr (8, [.null, .int 0]))))) H := hP
  have hD : va_D A (wP ((S41.1 ++ [q46]), (va_up (va_up S41.2 h0 (.inr (5, vs42.set 2 (.ref (q37))))) q46 (.inr (8, [.null, .int 0]))))) := hD
  have hw := hw q46 hq47
  refine lv_dup hx hb d_Ma_init_41 rfl ?_
  obtain ⟨mc48, ms49, hcm, hzm, hw⟩ := hw
  refine cP_vIN (As := []) (rest := [.ref (q46), .ref (h0)]) hx hb hml hown hts hK hC hP hD hS hA hcm hzm hl.1  (qP_3 hN hts ⟨Nat.le_of_ble_eq_true rfl, Nat.le_of_ble_eq_true rfl⟩) (c_Di_init l g H.size _ (q46) _ _ _ hw) rfl rfl (Nat.le_of_ble_eq_true rfl) d_Ma_init_42 (fun S50 H locs hw hP hD hS => ?_)
  obtain ⟨vs51, ha52, hf53, hk54, hw⟩ := hw
  refine ppF_P (S := S50) (vs := vs51) (v := .ref (q46)) (C := R_Ma) (F := F_Ma) (N := 9) hx hb hts hin_Ma t_Ma t_Ma_ok n_Ma hown hK hP hD hS ha52 hf53 rfl 3 (by decide) rfl hmn rfl rfl rfl hk54 k_C_109 d_Ma_init_45 (fun H locs hP hD hS => ?_)
  have hP : va_P g.1 classes (wP (S50.1, (va_up S50.2 h0 (.inr (5, vs51.set 3 (.ref (q46))))))) H := hP
  have hD : va_D A (wP (S50.1, (va_up S50.2 h0 (.inr (5, vs51.set 3 (.ref (q46))))))) := hD
  refine lv_aload_n hx hb d_Ma_init_48 rfl (lv_at hl 0 rfl) ?_
  refine lv_bipush (v := 16) hx hb d_Ma_init_49 (by decide) ?_
  obtain ⟨hn9, hb9, hcm, hzm, hw⟩ := hw
  refine pnq_P (S := (S50.1, (va_up S50.2 h0 (.inr (5, vs51.set 3 (.ref (q46))))))) (j := 5) (t0 := 4) hx hb hts hown k_C_95 hC.2.2.2.1 rfl hK hP hD hS hA hn9 hb9 hcm hzm d_Ma_init_51 (fun q55 H hq56 hP hD hS => ?_)
  have hP : va_P g.1 classes (wP ((S50.1 ++ [q55]), (va_up (va_up S50.2 h0 (.inr (5, vs51.set 3 (.ref (q46))))) q55 (.inl (g.2.1 5, (Int32.toNatClampNeg (16)), .inr (.inr (.inr (.inr (fun _ => none))))))))) H := hP
  have hD : va_D A (wP ((S50.1 ++ [q55]), (va_up (va_up S50.2 h0 (.inr (5, vs51.set 3 (.ref (q46))))) q55 (.inl (g.2.1 5, (Int32.toNatClampNeg (16)), .inr (.inr (.inr (.inr (fun _ => none))))))))) := hD
  have hw := hw q55 hq56
  obtain ⟨vs57, ha58, hf59, hk60, hw⟩ := hw
  refine ppF_P (S := ((S50.1 ++ [q55]), (va_up (va_up S50.2 h0 (.inr (5, vs51.set 3 (.ref (q46))))) q55 (.inl (g.2.1 5, (Int32.toNatClampNeg (16)), .inr (.inr (.inr (.inr (fun _ => none))))))))) (vs := vs57) (v := .ref (q55)) (C := R_Ma) (F := F_Ma) (N := 9) hx hb hts hin_Ma t_Ma t_Ma_ok n_Ma hown hK hP hD hS ha58 hf59 rfl 4 (by decide) rfl hmn rfl rfl rfl hk60 k_C_110 d_Ma_init_54 (fun H locs hP hD hS => ?_)
  have hP : va_P g.1 classes (wP ((S50.1 ++ [q55]), (va_up (va_up (va_up S50.2 h0 (.inr (5, vs51.set 3 (.ref (q46))))) q55 (.inl (g.2.1 5, (Int32.toNatClampNeg (16)), .inr (.inr (.inr (.inr (fun _ => none))))))) h0 (.inr (5, vs57.set 4 (.ref (q55))))))) H := hP
  have hD : va_D A (wP ((S50.1 ++ [q55]), (va_up (va_up (va_up S50.2 h0 (.inr (5, vs51.set 3 (.ref (q46))))) q55 (.inl (g.2.1 5, (Int32.toNatClampNeg (16)), .inr (.inr (.inr (.inr (fun _ => none))))))) h0 (.inr (5, vs57.set 4 (.ref (q55))))))) := hD
  refine lv_aload_n hx hb d_Ma_init_57 rfl (lv_at hl 0 rfl) ?_
  refine lv_bipush (v := 40) hx hb d_Ma_init_58 (by decide) ?_
  obtain ⟨hn9, hb9, hcm, hzm, hw⟩ := hw
  refine pni_P (S := ((S50.1 ++ [q55]), (va_up (va_up (va_up S50.2 h0 (.inr (5, vs51.set 3 (.ref (q46))))) q55 (.inl (g.2.1 5, (Int32.toNatClampNeg (16)), .inr (.inr (.inr (.inr (fun _ => none))))))) h0 (.inr (5, vs57.set 4 (.ref (q55))))))) hx hb hts k_C_71 hK hP hD hS hA hn9 hb9 hcm hzm d_Ma_init_60 (fun q61 H hq62 hP hD hS => ?_)
  have hP : va_P g.1 classes (wP (((S50.1 ++ [q55]) ++ [q61]), (va_up (va_up (va_up (va_up S50.2 h0 (.inr (5, vs51.set 3 (.ref (q46))))) q55 (.inl (g.2.1 5, (Int32.toNatClampNeg (16)), .inr (.inr (.inr (.inr (fun _ => none))))))) h0 (.inr (5, vs57.set 4 (.ref (q55))))) q61 (.inl (g.2.1 0, (Int32.toNatClampNeg (40)), .inl (fun _ => 0)))))) H := hP
  have hD : va_D A (wP (((S50.1 ++ [q55]) ++ [q61]), (va_up (va_up (va_up (va_up S50.2 h0 (.inr (5, vs51.set 3 (.ref (q46))))) q55 (.inl (g.2.1 5, (Int32.toNatClampNeg (16)), .inr (.inr (.inr (.inr (fun _ => none))))))) h0 (.inr (5, vs57.set 4 (.ref (q55))))) q61 (.inl (g.2.1 0, (Int32.toNatClampNeg (40)), .inl (fun _ => 0)))))) := hD
  have hw := hw q61 hq62
  obtain ⟨vs63, ha64, hf65, hk66, hw⟩ := hw
  refine ppF_P (S := (((S50.1 ++ [q55]) ++ [q61]), (va_up (va_up (va_up (va_up S50.2 h0 (.inr (5, vs51.set 3 (.ref (q46))))) q55 (.inl (g.2.1 5, (Int32.toNatClampNeg (16)), .inr (.inr (.inr (.inr (fun _ => none))))))) h0 (.inr (5, vs57.set 4 (.ref (q55))))) q61 (.inl (g.2.1 0, (Int32.toNatClampNeg (40)), .inl (fun _ => 0)))))) (vs := vs63) (v := .ref (q61)) (C := R_Ma) (F := F_Ma) (N := 9) hx hb hts hin_Ma t_Ma t_Ma_ok n_Ma hown hK hP hD hS ha64 hf65 rfl 6 (by decide) rfl hmn rfl rfl rfl hk66 k_C_112 d_Ma_init_62 (fun H locs hP hD hS => ?_)
  have hP : va_P g.1 classes (wP (((S50.1 ++ [q55]) ++ [q61]), (va_up (va_up (va_up (va_up (va_up S50.2 h0 (.inr (5, vs51.set 3 (.ref (q46))))) q55 (.inl (g.2.1 5, (Int32.toNatClampNeg (16)), .inr (.inr (.inr (.inr (fun _ => none))))))) h0 (.inr (5, vs57.set 4 (.ref (q55))))) q61 (.inl (g.2.1 0, (Int32.toNatClampNeg (40)), .inl (fun _ => 0)))) h0 (.inr (5, vs63.set 6 (.ref (q61))))))) H := hP
  have hD : va_D A (wP (((S50.1 ++ [q55]) ++ [q61]), (va_up (va_up (va_up (va_up (va_up S50.2 h0 (.inr (5, vs51.set 3 (.ref (q46))))) q55 (.inl (g.2.1 5, (Int32.toNatClampNeg (16)), .inr (.inr (.inr (.inr (fun _ => none))))))) h0 (.inr (5, vs57.set 4 (.ref (q55))))) q61 (.inl (g.2.1 0, (Int32.toNatClampNeg (40)), .inl (fun _ => 0)))) h0 (.inr (5, vs63.set 6 (.ref (q61))))))) := hD
  refine lv_iconst (v := 0) hx hb d_Ma_init_65 (by decide) ?_
  refine lv_istore_n (lv' := [(1, .int (0)), (0, .ref (h0))]) hx hb d_Ma_init_66 rfl hl (by decide) rfl (fun ls hl => ?_)
  obtain ⟨nn, hw⟩ := hw
  exact J67 nn (((S50.1 ++ [q55]) ++ [q61]), (va_up (va_up (va_up (va_up (va_up S50.2 h0 (.inr (5, vs51.set 3 (.ref (q46))))) q55 (.inl (g.2.1 5, (Int32.toNatClampNeg (16)), .inr (.inr (.inr (.inr (fun _ => none))))))) h0 (.inr (5, vs57.set 4 (.ref (q55))))) q61 (.inl (g.2.1 0, (Int32.toNatClampNeg (40)), .inl (fun _ => 0)))) h0 (.inr (5, vs63.set 6 (.ref (q61)))))) (h0) (0) (((((((((((0 + 1) + mc21) + 1) + mc30) + 1) + mc39) + 1) + mc48) + 1) + 1)) (((((((((((0 + 2) + ms22) + 2) + ms31) + 6) + ms40) + 2) + ms49) + (Int32.toNatClampNeg (16))) + (Int32.toNatClampNeg (40)))) _ _ _ hcm hzm hw (lv_sub hl [1, 0] rfl) hP hD hS
theorem qP_4 {R : Room} {s : State} {args : Array Value} {g : Gm} {mc1 ms1 : Nat} (hN : NW g s) (hts : ∀ w ∈ w_C, w.before args s = true) (hR : (rmA 2 40 mc1 ms1).frames + 1 ≤ R.frames ∧ 8 + (2 + 11) + (rmA 2 40 mc1 ms1).locals ≤ R.locals) : CallB R s args "WordSmith$Reader" 11 y_Ma_init b_Ma_init 2 none (.code y_Ma_init b_Ma_init 2 none :: w_C) (rmA 2 40 mc1 ms1) mc1 ms1 0 ∧ y_Ma_init.name = "<init>" ∧ (Cond.instanceMethod y_Ma_init).before args s = true := ⟨callB_of 0 hts (good_C k_C_61) rfl rfl rfl (hts _ k_C_6) (hts _ k_C_59) ⟨by decide +kernel, by decide +kernel, by decide +kernel⟩ hR, rfl, hts _ k_C_60⟩
theorem qP_5 {R : Room} {s : State} {args : Array Value} {g : Gm} {mc1 ms1 : Nat} (hN : NW g s) (hts : ∀ w ∈ w_C, w.before args s = true) (hR : (rmA 1 20 mc1 ms1).frames + 1 ≤ R.frames ∧ 8 + (1 + 11) + (rmA 1 20 mc1 ms1).locals ≤ R.locals) : va_CN R s args "WordSmith$Reader" 20 y_Co_init "WordSmith" b_Co_init 1 none (.code y_Co_init b_Co_init 1 none :: w_C) (rmA 1 20 mc1 ms1) mc1 ms1 0 ∧ y_Co_init.name = "<init>" ∧ (Cond.instanceMethod y_Co_init).before args s = true := ⟨va_cnB 0 hts (good_C k_C_119) rfl rfl rfl (hN.1 _ kn_C_25) (hts _ k_C_11) ⟨by decide +kernel, by decide +kernel, by decide +kernel⟩ hR, rfl, hts _ k_C_118⟩
theorem d_Rd_init_0 : decode b_Rd_init 0 = .ok (.aload_n 0, 1) := by decide +kernel
theorem d_Rd_init_1 : decode b_Rd_init 1 = .ok (.invokespecial 3, 3) := by decide +kernel
theorem d_Rd_init_4 : decode b_Rd_init 4 = .ok (.aload_n 0, 1) := by decide +kernel
theorem d_Rd_init_5 : decode b_Rd_init 5 = .ok (.new 9, 3) := by decide +kernel
theorem d_Rd_init_8 : decode b_Rd_init 8 = .ok (.dup, 1) := by decide +kernel
theorem d_Rd_init_9 : decode b_Rd_init 9 = .ok (.invokespecial 11, 3) := by decide +kernel
theorem d_Rd_init_12 : decode b_Rd_init 12 = .ok (.putfield 12, 3) := by decide +kernel
theorem d_Rd_init_15 : decode b_Rd_init 15 = .ok (.aload_n 0, 1) := by decide +kernel
theorem d_Rd_init_16 : decode b_Rd_init 16 = .ok (.new 18, 3) := by decide +kernel
theorem d_Rd_init_19 : decode b_Rd_init 19 = .ok (.dup, 1) := by decide +kernel
theorem d_Rd_init_20 : decode b_Rd_init 20 = .ok (.invokespecial 20, 3) := by decide +kernel
theorem d_Rd_init_23 : decode b_Rd_init 23 = .ok (.putfield 21, 3) := by decide +kernel
theorem d_Rd_init_26 : decode b_Rd_init 26 = .ok (.aload_n 0, 1) := by decide +kernel
theorem d_Rd_init_27 : decode b_Rd_init 27 = .ok (.ldc 25, 2) := by decide +kernel
theorem d_Rd_init_29 : decode b_Rd_init 29 = .ok (.putfield 27, 3) := by decide +kernel
theorem d_Rd_init_32 : decode b_Rd_init 32 = .ok (.aload_n 0, 1) := by decide +kernel
theorem d_Rd_init_33 : decode b_Rd_init 33 = .ok (.ldc 25, 2) := by decide +kernel
theorem d_Rd_init_35 : decode b_Rd_init 35 = .ok (.putfield 31, 3) := by decide +kernel
theorem d_Rd_init_38 : decode b_Rd_init 38 = .ok (.return_, 1) := by decide +kernel
def wp_Rd_init (g : Gm) (post : StP → Prop) (mc ms : Nat) (S : StP) (h0 : Nat) : Prop :=
  (0 + 1 ≤ mc) ∧ (0 + 9 ≤ ms) ∧ (∀ q1 : Nat, q1 ∉ S.1 → ∃ (mc3 : Nat) (ms4 : Nat), ((0 + 1) + mc3 ≤ mc) ∧ ((0 + 9) + ms4 ≤ ms) ∧ (wp_Ma_init g (fun S5 : StP => (∃ (vs6 : List Value), (h0 ∈ S5.1) ∧ (S5.2 h0 = .inr (4, vs6)) ∧ (0 < vs6.length) ∧ ((((0 + 1) + mc3) + 1 ≤ mc) ∧ (((0 + 9) + ms4) + 4 ≤ ms) ∧ (∀ q10 : Nat, q10 ∉ S5.1 → ∃ (mc12 : Nat) (ms13 : Nat), ((((0 + 1) + mc3) + 1) + mc12 ≤ mc) ∧ ((((0 + 9) + ms4) + 4) + ms13 ≤ ms) ∧ (wp_Co_init g (fun S14 : StP => (∃ (vs15 : List Value), (h0 ∈ S14.1) ∧ (S14.2 h0 = .inr (4, vs15)) ∧ (1 < vs15.length) ∧ (∃ (vs19 : List Value), (h0 ∈ S14.1) ∧ ((va_up S14.2 h0 (.inr (4, vs15.set 1 (.ref (q10))))) h0 = .inr (4, vs19)) ∧ (2 < vs19.length) ∧ (∃ (vs23 : List Value), (h0 ∈ S14.1) ∧ ((va_up (va_up S14.2 h0 (.inr (4, vs15.set 1 (.ref (q10))))) h0 (.inr (4, vs19.set 2 (.ref ((g.2.2 252)))))) h0 = .inr (4, vs23)) ∧ (5 < vs23.length) ∧ (post (S14.1, (va_up (va_up (va_up S14.2 h0 (.inr (4, vs15.set 1 (.ref (q10))))) h0 (.inr (4, vs19.set 2 (.ref ((g.2.2 252)))))) h0 (.inr (4, vs23.set 5 (.ref ((g.2.2 252)))))))))))) mc12 ms13 ((S5.1 ++ [q10]), (va_up (va_up S5.2 h0 (.inr (4, vs6.set 0 (.ref (q1))))) q10 (.inr (10, [.null, .null, .null, .int 0])))) (q10)))))) mc3 ms4 ((S.1 ++ [q1]), (va_up S.2 q1 (.inr (5, [.null, .null, .null, .null, .null, .int 0, .null, .int 0, .int 0])))) (q1)))
set_option maxRecDepth 100000 in
set_option maxHeartbeats 4000000 in
theorem c_Rd_init (l : Launch) (g : Gm) (sz : Nat) (S : StP) (h0 : Nat) (post : StP → Prop) (mc ms : Nat) (hw : wp_Rd_init g post mc ms S h0) : Met l y_Rd_init (.code y_Rd_init b_Rd_init 1 none :: w_C) (rmA 3 61 mc ms) (va_Pc [.ref (h0)] (PP g sz S)) (va_Qv post (BP g (AP sz S)) (AP sz S)) mc ms (AP sz S) := by
  refine ofP_v (by decide) (Nat.le_of_ble_eq_true rfl) (fun p e s m args below meth c Q A H locs ls hx hb hml hts hown hK hA hC hN hmn kr hl hP hD hS => ?_)
  have hl : lv_has ls 1 [(0, .ref (h0))] := hl
  unfold wp_Rd_init at hw
  have hcm : 0 ≤ mc := Nat.zero_le _
  have hzm : 0 ≤ ms := Nat.zero_le _
  refine lv_aload_n hx hb d_Rd_init_0 rfl (lv_at hl 0 rfl) ?_
  refine W.objInit hx hb hown (hts _ k_C_56) (hts _ k_C_26) (hts _ k_C_27) rfl (by rw [hml]; exact hl.1) rfl d_Rd_init_1 (Nat.le_of_ble_eq_true rfl) (Nat.le_of_ble_eq_true rfl) ?_
  refine W.eq (g2 := F0 m 4 ls []) rfl ?_
  refine lv_aload_n hx hb d_Rd_init_4 rfl (lv_at hl 0 rfl) ?_
  obtain ⟨hcm, hzm, hw⟩ := hw
  refine pn_P (S := S) (fs := [.null, .null, .null, .null, .null, .int 0, .null, .int 0, .int 0]) (C := R_Ma) (F := F_Ma) (N := 9) (ci := 5) hx hb hts hin_Ma t_Ma t_Ma_ok hown k_C_57 k_C_58 k_C_6 hK hP hD hS hA rfl (fun j hj => by rcases (show j = 0 ∨ j = 1 ∨ j = 2 ∨ j = 3 ∨ j = 4 ∨ j = 5 ∨ j = 6 ∨ j = 7 ∨ j = 8 by omega) with rfl | rfl | rfl | rfl | rfl | rfl | rfl | rfl | rfl <;> rfl) hcm hzm d_Rd_init_5 (fun q1 H hq2 hP hD hS => ?_)
  have hP : va_P g.1 classes (wP ((S.1 ++ [q1]), (va_up S.2 q1 (.inr (5, [.null, .null, .null, .null, .null, .int 0, .null, .int 0, .int 0]))))) H := hP
  have hD : va_D A (wP ((S.1 ++ [q1]), (va_up S.2 q1 (.inr (5, [.null, .null, .null, .null, .null, .int 0, .null, .int 0, .int 0]))))) := hD
  have hw := hw q1 hq2
  refine lv_dup hx hb d_Rd_init_8 rfl ?_
  obtain ⟨mc3, ms4, hcm, hzm, hw⟩ := hw
  refine cP_vI (As := []) (rest := [.ref (q1), .ref (h0)]) hx hb hml hown hts hK hC hP hD hS hA hcm hzm hl.1  (qP_4 hN hts ⟨Nat.le_of_ble_eq_true rfl, Nat.le_of_ble_eq_true rfl⟩) (c_Ma_init l g H.size _ (q1) _ _ _ hw) rfl rfl (Nat.le_of_ble_eq_true rfl) d_Rd_init_9 (fun S5 H locs hw hP hD hS => ?_)
  obtain ⟨vs6, ha7, hf8, hk9, hw⟩ := hw
  refine ppF_P (S := S5) (vs := vs6) (v := .ref (q1)) (C := R_Rd) (F := F_Rd) (N := 6) hx hb hts hin_Rd t_Rd t_Rd_ok n_Rd hown hK hP hD hS ha7 hf8 rfl 0 (by decide) rfl hmn rfl rfl rfl hk9 k_C_127 d_Rd_init_12 (fun H locs hP hD hS => ?_)
  have hP : va_P g.1 classes (wP (S5.1, (va_up S5.2 h0 (.inr (4, vs6.set 0 (.ref (q1))))))) H := hP
  have hD : va_D A (wP (S5.1, (va_up S5.2 h0 (.inr (4, vs6.set 0 (.ref (q1))))))) := hD
  refine lv_aload_n hx hb d_Rd_init_15 rfl (lv_at hl 0 rfl) ?_
  obtain ⟨hcm, hzm, hw⟩ := hw
  refine pn_P (S := (S5.1, (va_up S5.2 h0 (.inr (4, vs6.set 0 (.ref (q1))))))) (fs := [.null, .null, .null, .int 0]) (C := R_Co) (F := F_Co) (N := 4) (ci := 10) hx hb hts hin_Co t_Co t_Co_ok hown k_C_116 k_C_117 k_C_11 hK hP hD hS hA rfl (fun j hj => by rcases (show j = 0 ∨ j = 1 ∨ j = 2 ∨ j = 3 by omega) with rfl | rfl | rfl | rfl <;> rfl) hcm hzm d_Rd_init_16 (fun q10 H hq11 hP hD hS => ?_)
  have hP : va_P g.1 classes (wP ((S5.1 ++ [q10]), (va_up (va_up S5.2 h0 (.inr (4, vs6.set 0 (.ref (q1))))) q10 (.inr (10, [.null, .null, .null, .int 0]))))) H := hP
  have hD : va_D A (wP ((S5.1 ++ [q10]), (va_up (va_up S5.2 h0 (.inr (4, vs6.set 0 (.ref (q1))))) q10 (.inr (10, [.null, .null, .null, .int 0]))))) := hD
  have hw := hw q10 hq11
  refine lv_dup hx hb d_Rd_init_19 rfl ?_
  obtain ⟨mc12, ms13, hcm, hzm, hw⟩ := hw
  refine cP_vIN (As := []) (rest := [.ref (q10), .ref (h0)]) hx hb hml hown hts hK hC hP hD hS hA hcm hzm hl.1  (qP_5 hN hts ⟨Nat.le_of_ble_eq_true rfl, Nat.le_of_ble_eq_true rfl⟩) (c_Co_init l g H.size _ (q10) _ _ _ hw) rfl rfl (Nat.le_of_ble_eq_true rfl) d_Rd_init_20 (fun S14 H locs hw hP hD hS => ?_)
  obtain ⟨vs15, ha16, hf17, hk18, hw⟩ := hw
  refine ppF_P (S := S14) (vs := vs15) (v := .ref (q10)) (C := R_Rd) (F := F_Rd) (N := 6) hx hb hts hin_Rd t_Rd t_Rd_ok n_Rd hown hK hP hD hS ha16 hf17 rfl 1 (by decide) rfl hmn rfl rfl rfl hk18 k_C_128 d_Rd_init_23 (fun H locs hP hD hS => ?_)
  have hP : va_P g.1 classes (wP (S14.1, (va_up S14.2 h0 (.inr (4, vs15.set 1 (.ref (q10))))))) H := hP
  have hD : va_D A (wP (S14.1, (va_up S14.2 h0 (.inr (4, vs15.set 1 (.ref (q10))))))) := hD
  refine lv_aload_n hx hb d_Rd_init_26 rfl (lv_at hl 0 rfl) ?_
  refine va_ldcS hx hb hown hN.2.1 d_Rd_init_27 ?_
  obtain ⟨vs19, ha20, hf21, hk22, hw⟩ := hw
  refine pp_P (S := (S14.1, (va_up S14.2 h0 (.inr (4, vs15.set 1 (.ref (q10))))))) (vs := vs19) (v := .ref ((g.2.2 252))) (C := R_Rd) (F := F_Rd) (N := 6) hx hb hts hin_Rd t_Rd t_Rd_ok n_Rd hown hK hP hD hS ha20 hf21 rfl 2 (by decide) rfl rfl rfl hk22 k_C_129 d_Rd_init_29 (fun H locs hP hD hS => ?_)
  have hP : va_P g.1 classes (wP (S14.1, (va_up (va_up S14.2 h0 (.inr (4, vs15.set 1 (.ref (q10))))) h0 (.inr (4, vs19.set 2 (.ref ((g.2.2 252)))))))) H := hP
  have hD : va_D A (wP (S14.1, (va_up (va_up S14.2 h0 (.inr (4, vs15.set 1 (.ref (q10))))) h0 (.inr (4, vs19.set 2 (.ref ((g.2.2 252)))))))) := hD
  refine lv_aload_n hx hb d_Rd_init_32 rfl (lv_at hl 0 rfl) ?_
  refine va_ldcS hx hb hown hN.2.1 d_Rd_init_33 ?_
  obtain ⟨vs23, ha24, hf25, hk26, hw⟩ := hw
  refine pp_P (S := (S14.1, (va_up (va_up S14.2 h0 (.inr (4, vs15.set 1 (.ref (q10))))) h0 (.inr (4, vs19.set 2 (.ref ((g.2.2 252)))))))) (vs := vs23) (v := .ref ((g.2.2 252))) (C := R_Rd) (F := F_Rd) (N := 6) hx hb hts hin_Rd t_Rd t_Rd_ok n_Rd hown hK hP hD hS ha24 hf25 rfl 5 (by decide) rfl rfl rfl hk26 k_C_132 d_Rd_init_35 (fun H locs hP hD hS => ?_)
  have hP : va_P g.1 classes (wP (S14.1, (va_up (va_up (va_up S14.2 h0 (.inr (4, vs15.set 1 (.ref (q10))))) h0 (.inr (4, vs19.set 2 (.ref ((g.2.2 252)))))) h0 (.inr (4, vs23.set 5 (.ref ((g.2.2 252)))))))) H := hP
  have hD : va_D A (wP (S14.1, (va_up (va_up (va_up S14.2 h0 (.inr (4, vs15.set 1 (.ref (q10))))) h0 (.inr (4, vs19.set 2 (.ref ((g.2.2 252)))))) h0 (.inr (4, vs23.set 5 (.ref ((g.2.2 252)))))))) := hD
  exact kr (S14.1, (va_up (va_up (va_up S14.2 h0 (.inr (4, vs15.set 1 (.ref (q10))))) h0 (.inr (4, vs19.set 2 (.ref ((g.2.2 252)))))) h0 (.inr (4, vs23.set 5 (.ref ((g.2.2 252))))))) _ _ _ _ _ _ hcm hzm hw hP hD hS d_Rd_init_38
theorem d_AB_init_0 : decode b_AB_init 0 = .ok (.aload_n 0, 1) := by decide +kernel
theorem d_AB_init_1 : decode b_AB_init 1 = .ok (.invokespecial 3, 3) := by decide +kernel
theorem d_AB_init_4 : decode b_AB_init 4 = .ok (.getstatic 18, 3) := by decide +kernel
theorem d_AB_init_7 : decode b_AB_init 7 = .ok (.ifCond .eq 18, 3) := by decide +kernel
theorem d_AB_init_10 : decode b_AB_init 10 = .ok (.aload_n 0, 1) := by decide +kernel
theorem d_AB_init_11 : decode b_AB_init 11 = .ok (.iload_n 1, 1) := by decide +kernel
theorem d_AB_init_12 : decode b_AB_init 12 = .ok (.newarray .byte, 2) := by decide +kernel
theorem d_AB_init_14 : decode b_AB_init 14 = .ok (.putfield 15, 3) := by decide +kernel
theorem d_AB_init_17 : decode b_AB_init 17 = .ok (.aload_n 0, 1) := by decide +kernel
theorem d_AB_init_18 : decode b_AB_init 18 = .ok (.iconst 0, 1) := by decide +kernel
theorem d_AB_init_19 : decode b_AB_init 19 = .ok (.putfield 22, 3) := by decide +kernel
theorem d_AB_init_22 : decode b_AB_init 22 = .ok (.goto 16, 3) := by decide +kernel
theorem d_AB_init_25 : decode b_AB_init 25 = .ok (.aload_n 0, 1) := by decide +kernel
theorem d_AB_init_26 : decode b_AB_init 26 = .ok (.iload_n 1, 1) := by decide +kernel
theorem d_AB_init_27 : decode b_AB_init 27 = .ok (.invokestatic 26, 3) := by decide +kernel
theorem d_AB_init_30 : decode b_AB_init 30 = .ok (.putfield 15, 3) := by decide +kernel
theorem d_AB_init_33 : decode b_AB_init 33 = .ok (.aload_n 0, 1) := by decide +kernel
theorem d_AB_init_34 : decode b_AB_init 34 = .ok (.iconst 1, 1) := by decide +kernel
theorem d_AB_init_35 : decode b_AB_init 35 = .ok (.putfield 22, 3) := by decide +kernel
theorem d_AB_init_38 : decode b_AB_init 38 = .ok (.return_, 1) := by decide +kernel
def wq_AB_init_38 (g : Gm) (post : StP → Prop) (mc ms : Nat)  (S : StP) (c0 : Nat) (z0 : Nat) : Prop :=
  post S
def wp_AB_init (g : Gm) (post : StP → Prop) (mc ms : Nat) (S : StP) (h0 : Nat) (a0 : Int32) : Prop :=
  (¬ ((1 : Int32) = 0)) ∧ ((¬ (a0 : Int32) < 0) ∧ ((Int32.toNatClampNeg (a0)) * 1 ≤ 536870912) ∧ (0 + 1 ≤ mc) ∧ (0 + (Int32.toNatClampNeg (a0)) ≤ ms) ∧ (∀ q1 : Nat, q1 ∉ S.1 → ∃ (vs3 : List Value), (h0 ∈ (S.1 ++ [q1])) ∧ ((va_up S.2 q1 (.inl (g.2.1 3, (Int32.toNatClampNeg (a0)), .inl (fun _ => 0)))) h0 = .inr (2, vs3)) ∧ (0 < vs3.length) ∧ (∃ (vs7 : List Value), (h0 ∈ (S.1 ++ [q1])) ∧ ((va_up (va_up S.2 q1 (.inl (g.2.1 3, (Int32.toNatClampNeg (a0)), .inl (fun _ => 0)))) h0 (.inr (2, vs3.set 0 (.ref (q1))))) h0 = .inr (2, vs7)) ∧ (1 < vs7.length) ∧ (wq_AB_init_38 g post mc ms  ((S.1 ++ [q1]), (va_up (va_up (va_up S.2 q1 (.inl (g.2.1 3, (Int32.toNatClampNeg (a0)), .inl (fun _ => 0)))) h0 (.inr (2, vs3.set 0 (.ref (q1))))) h0 (.inr (2, vs7.set 1 (.int (0)))))) ((0 + 1)) ((0 + (Int32.toNatClampNeg (a0))))))))
set_option maxRecDepth 100000 in
set_option maxHeartbeats 4000000 in
theorem c_AB_init (l : Launch) (g : Gm) (sz : Nat) (S : StP) (h0 : Nat) (a0 : Int32) (post : StP → Prop) (mc ms : Nat) (hw : wp_AB_init g post mc ms S h0 a0) : Met l y_AB_init (.code y_AB_init b_AB_init 2 none :: w_C) (rmA 1 20 mc ms) (va_Pc [.ref (h0), .int (a0)] (PP g sz S)) (va_Qv post (BP g (AP sz S)) (AP sz S)) mc ms (AP sz S) := by
  refine ofP_v (by decide) (Nat.le_of_ble_eq_true rfl) (fun p e s m args below meth c Q A H locs ls hx hb hml hts hown hK hA hC hN hmn kr hl hP hD hS => ?_)
  have hl : lv_has ls 2 [(0, .ref (h0)), (1, .int (a0))] := hl
  unfold wp_AB_init at hw
  have hcm : 0 ≤ mc := Nat.zero_le _
  have hzm : 0 ≤ ms := Nat.zero_le _
  have J38 : ∀ (S : StP) (c0 : Nat) (z0 : Nat) (H : Heap) (locs : List Loc) (ls : Array Slot), c0 ≤ mc → z0 ≤ ms → wq_AB_init_38 g post mc ms  S c0 z0 → lv_has ls 2 [] → va_P g.1 classes (wP S) H → va_D A (wP S) → va_S A s.heap H locs → W p l e (rmA 1 20 mc ms) s m args below meth c H locs c0 z0 Q (F0 m 38 ls []) := by
    intro S c0 z0 H locs ls hcm hzm hw hl hP hD hS
    unfold wq_AB_init_38 at hw
    exact kr S _ _ _ _ _ _ hcm hzm hw hP hD hS d_AB_init_38
  refine lv_aload_n hx hb d_AB_init_0 rfl (lv_at hl 0 rfl) ?_
  refine W.objInit hx hb hown (hts _ k_C_36) (hts _ k_C_26) (hts _ k_C_27) rfl (by rw [hml]; exact hl.1) rfl d_AB_init_1 (Nat.le_of_ble_eq_true rfl) (Nat.le_of_ble_eq_true rfl) ?_
  refine W.eq (g2 := F0 m 4 ls []) rfl ?_
  refine va_gets (C := "java/lang/String") (n := "COMPACT_STRINGS") (d := "Z") (v := .int (1)) hx hb hC.2.1 hS hown (hts _ k_C_37) (fun _ h9 => h9) d_AB_init_4 ?_
  obtain ⟨hc9, hw⟩ := hw
  refine lv_if_eq hx hb d_AB_init_7 (tgt := 25) (by decide) (fun hc => absurd hc hc9) (fun hc => ?_)
  refine lv_aload_n hx hb d_AB_init_10 rfl (lv_at hl 0 rfl) ?_
  refine lv_iload_n hx hb d_AB_init_11 rfl (lv_at hl 1 rfl) ?_
  obtain ⟨hn9, hb9, hcm, hzm, hw⟩ := hw
  refine pnb_P (S := S) hx hb hts k_C_51 hK hP hD hS hA hn9 hb9 hcm hzm d_AB_init_12 (fun q1 H hq2 hP hD hS => ?_)
  have hP : va_P g.1 classes (wP ((S.1 ++ [q1]), (va_up S.2 q1 (.inl (g.2.1 3, (Int32.toNatClampNeg (a0)), .inl (fun _ => 0)))))) H := hP
  have hD : va_D A (wP ((S.1 ++ [q1]), (va_up S.2 q1 (.inl (g.2.1 3, (Int32.toNatClampNeg (a0)), .inl (fun _ => 0)))))) := hD
  have hw := hw q1 hq2
  obtain ⟨vs3, ha4, hf5, hk6, hw⟩ := hw
  refine pp_P (S := ((S.1 ++ [q1]), (va_up S.2 q1 (.inl (g.2.1 3, (Int32.toNatClampNeg (a0)), .inl (fun _ => 0)))))) (vs := vs3) (v := .ref (q1)) (C := R_SB) (F := F_SB) (N := 4) hx hb hts hin_SB t_SB t_SB_ok n_SB hown hK hP hD hS ha4 hf5 rfl 0 (by decide) rfl rfl rfl hk6 k_C_45 d_AB_init_14 (fun H locs hP hD hS => ?_)
  have hP : va_P g.1 classes (wP ((S.1 ++ [q1]), (va_up (va_up S.2 q1 (.inl (g.2.1 3, (Int32.toNatClampNeg (a0)), .inl (fun _ => 0)))) h0 (.inr (2, vs3.set 0 (.ref (q1))))))) H := hP
  have hD : va_D A (wP ((S.1 ++ [q1]), (va_up (va_up S.2 q1 (.inl (g.2.1 3, (Int32.toNatClampNeg (a0)), .inl (fun _ => 0)))) h0 (.inr (2, vs3.set 0 (.ref (q1))))))) := hD
  refine lv_aload_n hx hb d_AB_init_17 rfl (lv_at hl 0 rfl) ?_
  refine lv_iconst (v := 0) hx hb d_AB_init_18 (by decide) ?_
  obtain ⟨vs7, ha8, hf9, hk10, hw⟩ := hw
  refine pp_P (S := ((S.1 ++ [q1]), (va_up (va_up S.2 q1 (.inl (g.2.1 3, (Int32.toNatClampNeg (a0)), .inl (fun _ => 0)))) h0 (.inr (2, vs3.set 0 (.ref (q1))))))) (vs := vs7) (v := .int (0)) (C := R_SB) (F := F_SB) (N := 4) hx hb hts hin_SB t_SB t_SB_ok n_SB hown hK hP hD hS ha8 hf9 rfl 1 (by decide) rfl rfl rfl hk10 k_C_46 d_AB_init_19 (fun H locs hP hD hS => ?_)
  have hP : va_P g.1 classes (wP ((S.1 ++ [q1]), (va_up (va_up (va_up S.2 q1 (.inl (g.2.1 3, (Int32.toNatClampNeg (a0)), .inl (fun _ => 0)))) h0 (.inr (2, vs3.set 0 (.ref (q1))))) h0 (.inr (2, vs7.set 1 (.int (0))))))) H := hP
  have hD : va_D A (wP ((S.1 ++ [q1]), (va_up (va_up (va_up S.2 q1 (.inl (g.2.1 3, (Int32.toNatClampNeg (a0)), .inl (fun _ => 0)))) h0 (.inr (2, vs3.set 0 (.ref (q1))))) h0 (.inr (2, vs7.set 1 (.int (0))))))) := hD
  refine lv_goto hx hb d_AB_init_22 (tgt := 38) (by decide) ?_
  exact J38 ((S.1 ++ [q1]), (va_up (va_up (va_up S.2 q1 (.inl (g.2.1 3, (Int32.toNatClampNeg (a0)), .inl (fun _ => 0)))) h0 (.inr (2, vs3.set 0 (.ref (q1))))) h0 (.inr (2, vs7.set 1 (.int (0)))))) ((0 + 1)) ((0 + (Int32.toNatClampNeg (a0)))) _ _ _ hcm hzm hw (lv_sub hl [] rfl) hP hD hS
theorem qP_6 {R : Room} {s : State} {args : Array Value} {g : Gm} {mc1 ms1 : Nat} (hN : NW g s) (hts : ∀ w ∈ w_C, w.before args s = true) (hR : (rmA 1 20 mc1 ms1).frames + 1 ≤ R.frames ∧ 8 + (2 + 11) + (rmA 1 20 mc1 ms1).locals ≤ R.locals) : CallB R s args "java/lang/StringBuilder" 1 y_AB_init b_AB_init 2 none (.code y_AB_init b_AB_init 2 none :: w_C) (rmA 1 20 mc1 ms1) mc1 ms1 1 ∧ y_AB_init.name = "<init>" ∧ (Cond.instanceMethod y_AB_init).before args s = true := ⟨callB_of 1 hts (good_C k_C_35) rfl rfl rfl (hts _ k_C_1) (hts _ k_C_33) ⟨by decide +kernel, by decide +kernel, by decide +kernel⟩ hR, rfl, hts _ k_C_34⟩
theorem d_SB_init_0 : decode b_SB_init 0 = .ok (.aload_n 0, 1) := by decide +kernel
theorem d_SB_init_1 : decode b_SB_init 1 = .ok (.bipush 16, 2) := by decide +kernel
theorem d_SB_init_3 : decode b_SB_init 3 = .ok (.invokespecial 1, 3) := by decide +kernel
theorem d_SB_init_6 : decode b_SB_init 6 = .ok (.return_, 1) := by decide +kernel
def wp_SB_init (g : Gm) (post : StP → Prop) (mc ms : Nat) (S : StP) (h0 : Nat) : Prop :=
  ∃ (mc1 : Nat) (ms2 : Nat), (0 + mc1 ≤ mc) ∧ (0 + ms2 ≤ ms) ∧ (wp_AB_init g (fun S3 : StP => (post S3)) mc1 ms2 S (h0) (16))
set_option maxRecDepth 100000 in
set_option maxHeartbeats 4000000 in
theorem c_SB_init (l : Launch) (g : Gm) (sz : Nat) (S : StP) (h0 : Nat) (post : StP → Prop) (mc ms : Nat) (hw : wp_SB_init g post mc ms S h0) : Met l y_SB_init (.code y_SB_init b_SB_init 1 none :: w_C) (rmA 2 41 mc ms) (va_Pc [.ref (h0)] (PP g sz S)) (va_Qv post (BP g (AP sz S)) (AP sz S)) mc ms (AP sz S) := by
  refine ofP_v (by decide) (Nat.le_of_ble_eq_true rfl) (fun p e s m args below meth c Q A H locs ls hx hb hml hts hown hK hA hC hN hmn kr hl hP hD hS => ?_)
  have hl : lv_has ls 1 [(0, .ref (h0))] := hl
  unfold wp_SB_init at hw
  have hcm : 0 ≤ mc := Nat.zero_le _
  have hzm : 0 ≤ ms := Nat.zero_le _
  refine lv_aload_n hx hb d_SB_init_0 rfl (lv_at hl 0 rfl) ?_
  refine lv_bipush (v := 16) hx hb d_SB_init_1 (by decide) ?_
  obtain ⟨mc1, ms2, hcm, hzm, hw⟩ := hw
  refine cP_vI (As := [.int (16)]) (rest := []) hx hb hml hown hts hK hC hP hD hS hA hcm hzm hl.1  (qP_6 hN hts ⟨Nat.le_of_ble_eq_true rfl, Nat.le_of_ble_eq_true rfl⟩) (c_AB_init l g H.size _ (h0) (16) _ _ _ hw) rfl rfl (Nat.le_of_ble_eq_true rfl) d_SB_init_3 (fun S3 H locs hw hP hD hS => ?_)
  exact kr S3 _ _ _ _ _ _ hcm hzm hw hP hD hS d_SB_init_6
theorem qP_7 {R : Room} {s : State} {args : Array Value} {g : Gm} {mc1 ms1 : Nat} (hN : NW g s) (hts : ∀ w ∈ w_C, w.before args s = true) (hR : (rmA 2 41 mc1 ms1).frames + 1 ≤ R.frames ∧ 8 + (1 + 11) + (rmA 2 41 mc1 ms1).locals ≤ R.locals) : CallB R s args "WordSmith" 9 y_SB_init b_SB_init 1 none (.code y_SB_init b_SB_init 1 none :: w_C) (rmA 2 41 mc1 ms1) mc1 ms1 0 ∧ y_SB_init.name = "<init>" ∧ (Cond.instanceMethod y_SB_init).before args s = true := ⟨callB_of 0 hts (good_C k_C_32) rfl rfl rfl (hts _ k_C_2) (hts _ k_C_30) ⟨by decide +kernel, by decide +kernel, by decide +kernel⟩ hR, rfl, hts _ k_C_31⟩
theorem qP_8 {R : Room} {s : State} {args : Array Value} {g : Gm} {mc1 ms1 : Nat} (hN : NW g s) (hts : ∀ w ∈ w_C, w.before args s = true) (hR : (rmA 3 61 mc1 ms1).frames + 1 ≤ R.frames ∧ 8 + (1 + 11) + (rmA 3 61 mc1 ms1).locals ≤ R.locals) : va_CN R s args "WordSmith" 18 y_Rd_init "WordSmith" b_Rd_init 1 none (.code y_Rd_init b_Rd_init 1 none :: w_C) (rmA 3 61 mc1 ms1) mc1 ms1 0 ∧ y_Rd_init.name = "<init>" ∧ (Cond.instanceMethod y_Rd_init).before args s = true := ⟨va_cnB 0 hts (good_C k_C_55) rfl rfl rfl (hN.1 _ kn_C_0) (hts _ k_C_5) ⟨by decide +kernel, by decide +kernel, by decide +kernel⟩ hR, rfl, hts _ k_C_54⟩
theorem d_W_init_0 : decode b_W_init 0 = .ok (.aload_n 0, 1) := by decide +kernel
theorem d_W_init_1 : decode b_W_init 1 = .ok (.invokespecial 1, 3) := by decide +kernel
theorem d_W_init_4 : decode b_W_init 4 = .ok (.aload_n 0, 1) := by decide +kernel
theorem d_W_init_5 : decode b_W_init 5 = .ok (.new 7, 3) := by decide +kernel
theorem d_W_init_8 : decode b_W_init 8 = .ok (.dup, 1) := by decide +kernel
theorem d_W_init_9 : decode b_W_init 9 = .ok (.invokespecial 9, 3) := by decide +kernel
theorem d_W_init_12 : decode b_W_init 12 = .ok (.putfield 10, 3) := by decide +kernel
theorem d_W_init_15 : decode b_W_init 15 = .ok (.aload_n 0, 1) := by decide +kernel
theorem d_W_init_16 : decode b_W_init 16 = .ok (.new 16, 3) := by decide +kernel
theorem d_W_init_19 : decode b_W_init 19 = .ok (.dup, 1) := by decide +kernel
theorem d_W_init_20 : decode b_W_init 20 = .ok (.invokespecial 18, 3) := by decide +kernel
theorem d_W_init_23 : decode b_W_init 23 = .ok (.putfield 19, 3) := by decide +kernel
theorem d_W_init_26 : decode b_W_init 26 = .ok (.return_, 1) := by decide +kernel
def wp_W_init (g : Gm) (post : StP → Prop) (mc ms : Nat) (S : StP) (h0 : Nat) : Prop :=
  (0 + 1 ≤ mc) ∧ (0 + 4 ≤ ms) ∧ (∀ q1 : Nat, q1 ∉ S.1 → ∃ (mc3 : Nat) (ms4 : Nat), ((0 + 1) + mc3 ≤ mc) ∧ ((0 + 4) + ms4 ≤ ms) ∧ (wp_SB_init g (fun S5 : StP => (∃ (vs6 : List Value), (h0 ∈ S5.1) ∧ (S5.2 h0 = .inr (1, vs6)) ∧ (0 < vs6.length) ∧ ((((0 + 1) + mc3) + 1 ≤ mc) ∧ (((0 + 4) + ms4) + 6 ≤ ms) ∧ (∀ q10 : Nat, q10 ∉ S5.1 → ∃ (mc12 : Nat) (ms13 : Nat), ((((0 + 1) + mc3) + 1) + mc12 ≤ mc) ∧ ((((0 + 4) + ms4) + 6) + ms13 ≤ ms) ∧ (wp_Rd_init g (fun S14 : StP => (∃ (vs15 : List Value), (h0 ∈ S14.1) ∧ (S14.2 h0 = .inr (1, vs15)) ∧ (1 < vs15.length) ∧ (post (S14.1, (va_up S14.2 h0 (.inr (1, vs15.set 1 (.ref (q10))))))))) mc12 ms13 ((S5.1 ++ [q10]), (va_up (va_up S5.2 h0 (.inr (1, vs6.set 0 (.ref (q1))))) q10 (.inr (4, [.null, .null, .null, .int 0, .int 0, .null])))) (q10)))))) mc3 ms4 ((S.1 ++ [q1]), (va_up S.2 q1 (.inr (2, [.null, .int 0, .int 0, .int 0])))) (q1)))
set_option maxRecDepth 100000 in
set_option maxHeartbeats 4000000 in
theorem c_W_init (l : Launch) (g : Gm) (sz : Nat) (S : StP) (h0 : Nat) (post : StP → Prop) (mc ms : Nat) (hw : wp_W_init g post mc ms S h0) : Met l y_W_init (.code y_W_init b_W_init 1 none :: w_C) (rmA 4 81 mc ms) (va_Pc [.ref (h0)] (PP g sz S)) (va_Qv post (BP g (AP sz S)) (AP sz S)) mc ms (AP sz S) := by
  refine ofP_v (by decide) (Nat.le_of_ble_eq_true rfl) (fun p e s m args below meth c Q A H locs ls hx hb hml hts hown hK hA hC hN hmn kr hl hP hD hS => ?_)
  have hl : lv_has ls 1 [(0, .ref (h0))] := hl
  unfold wp_W_init at hw
  have hcm : 0 ≤ mc := Nat.zero_le _
  have hzm : 0 ≤ ms := Nat.zero_le _
  refine lv_aload_n hx hb d_W_init_0 rfl (lv_at hl 0 rfl) ?_
  refine W.objInit hx hb hown (hts _ k_C_25) (hts _ k_C_26) (hts _ k_C_27) rfl (by rw [hml]; exact hl.1) rfl d_W_init_1 (Nat.le_of_ble_eq_true rfl) (Nat.le_of_ble_eq_true rfl) ?_
  refine W.eq (g2 := F0 m 4 ls []) rfl ?_
  refine lv_aload_n hx hb d_W_init_4 rfl (lv_at hl 0 rfl) ?_
  obtain ⟨hcm, hzm, hw⟩ := hw
  refine pn_P (S := S) (fs := [.null, .int 0, .int 0, .int 0]) (C := R_SB) (F := F_SB) (N := 4) (ci := 2) hx hb hts hin_SB t_SB t_SB_ok hown k_C_28 k_C_29 k_C_2 hK hP hD hS hA rfl (fun j hj => by rcases (show j = 0 ∨ j = 1 ∨ j = 2 ∨ j = 3 by omega) with rfl | rfl | rfl | rfl <;> rfl) hcm hzm d_W_init_5 (fun q1 H hq2 hP hD hS => ?_)
  have hP : va_P g.1 classes (wP ((S.1 ++ [q1]), (va_up S.2 q1 (.inr (2, [.null, .int 0, .int 0, .int 0]))))) H := hP
  have hD : va_D A (wP ((S.1 ++ [q1]), (va_up S.2 q1 (.inr (2, [.null, .int 0, .int 0, .int 0]))))) := hD
  have hw := hw q1 hq2
  refine lv_dup hx hb d_W_init_8 rfl ?_
  obtain ⟨mc3, ms4, hcm, hzm, hw⟩ := hw
  refine cP_vI (As := []) (rest := [.ref (q1), .ref (h0)]) hx hb hml hown hts hK hC hP hD hS hA hcm hzm hl.1  (qP_7 hN hts ⟨Nat.le_of_ble_eq_true rfl, Nat.le_of_ble_eq_true rfl⟩) (c_SB_init l g H.size _ (q1) _ _ _ hw) rfl rfl (Nat.le_of_ble_eq_true rfl) d_W_init_9 (fun S5 H locs hw hP hD hS => ?_)
  obtain ⟨vs6, ha7, hf8, hk9, hw⟩ := hw
  refine ppF_P (S := S5) (vs := vs6) (v := .ref (q1)) (C := R_W) (F := F_W) (N := 2) hx hb hts hin_W t_W t_W_ok n_W hown hK hP hD hS ha7 hf8 rfl 0 (by decide) rfl hmn rfl rfl rfl hk9 k_C_134 d_W_init_12 (fun H locs hP hD hS => ?_)
  have hP : va_P g.1 classes (wP (S5.1, (va_up S5.2 h0 (.inr (1, vs6.set 0 (.ref (q1))))))) H := hP
  have hD : va_D A (wP (S5.1, (va_up S5.2 h0 (.inr (1, vs6.set 0 (.ref (q1))))))) := hD
  refine lv_aload_n hx hb d_W_init_15 rfl (lv_at hl 0 rfl) ?_
  obtain ⟨hcm, hzm, hw⟩ := hw
  refine pn_P (S := (S5.1, (va_up S5.2 h0 (.inr (1, vs6.set 0 (.ref (q1))))))) (fs := [.null, .null, .null, .int 0, .int 0, .null]) (C := R_Rd) (F := F_Rd) (N := 6) (ci := 4) hx hb hts hin_Rd t_Rd t_Rd_ok hown k_C_52 k_C_53 k_C_5 hK hP hD hS hA rfl (fun j hj => by rcases (show j = 0 ∨ j = 1 ∨ j = 2 ∨ j = 3 ∨ j = 4 ∨ j = 5 by omega) with rfl | rfl | rfl | rfl | rfl | rfl <;> rfl) hcm hzm d_W_init_16 (fun q10 H hq11 hP hD hS => ?_)
  have hP : va_P g.1 classes (wP ((S5.1 ++ [q10]), (va_up (va_up S5.2 h0 (.inr (1, vs6.set 0 (.ref (q1))))) q10 (.inr (4, [.null, .null, .null, .int 0, .int 0, .null]))))) H := hP
  have hD : va_D A (wP ((S5.1 ++ [q10]), (va_up (va_up S5.2 h0 (.inr (1, vs6.set 0 (.ref (q1))))) q10 (.inr (4, [.null, .null, .null, .int 0, .int 0, .null]))))) := hD
  have hw := hw q10 hq11
  refine lv_dup hx hb d_W_init_19 rfl ?_
  obtain ⟨mc12, ms13, hcm, hzm, hw⟩ := hw
  refine cP_vIN (As := []) (rest := [.ref (q10), .ref (h0)]) hx hb hml hown hts hK hC hP hD hS hA hcm hzm hl.1  (qP_8 hN hts ⟨Nat.le_of_ble_eq_true rfl, Nat.le_of_ble_eq_true rfl⟩) (c_Rd_init l g H.size _ (q10) _ _ _ hw) rfl rfl (Nat.le_of_ble_eq_true rfl) d_W_init_20 (fun S14 H locs hw hP hD hS => ?_)
  obtain ⟨vs15, ha16, hf17, hk18, hw⟩ := hw
  refine ppF_P (S := S14) (vs := vs15) (v := .ref (q10)) (C := R_W) (F := F_W) (N := 2) hx hb hts hin_W t_W t_W_ok n_W hown hK hP hD hS ha16 hf17 rfl 1 (by decide) rfl hmn rfl rfl rfl hk18 k_C_135 d_W_init_23 (fun H locs hP hD hS => ?_)
  have hP : va_P g.1 classes (wP (S14.1, (va_up S14.2 h0 (.inr (1, vs15.set 1 (.ref (q10))))))) H := hP
  have hD : va_D A (wP (S14.1, (va_up S14.2 h0 (.inr (1, vs15.set 1 (.ref (q10))))))) := hD
  exact kr (S14.1, (va_up S14.2 h0 (.inr (1, vs15.set 1 (.ref (q10)))))) _ _ _ _ _ _ hcm hzm hw hP hD hS d_W_init_26
