theorem d_AB_getValue_0 : decode b_AB_getValue 0 = .ok (.aload_n 0, 1) := by decide +kernel
theorem d_AB_getValue_1 : decode b_AB_getValue 1 = .ok (.getfield 15, 3) := by decide +kernel
theorem d_AB_getValue_4 : decode b_AB_getValue 4 = .ok (.areturn, 1) := by decide +kernel
def wp_AB_getValue (g : Gm) (post : Option Nat → StC → Prop) (mc ms : Nat) (S : StC)  : Prop :=
  post (some ((S.2.2.1 0))) S
set_option maxRecDepth 100000 in
set_option maxHeartbeats 4000000 in
theorem c_AB_getValue (l : Launch) (g : Gm) (sz : Nat) (S : StC)  (post : Option Nat → StC → Prop) (mc ms : Nat) (hw : wp_AB_getValue g post mc ms S ) : Met l y_AB_getValue (.code y_AB_getValue b_AB_getValue 1 (some (.array .byte)) :: w_C) (rmA 0 0 mc ms) (va_Pc [.ref (g.2.2 1)] (PC g sz S)) (va_Qq post (BC g (AC g sz S)) (AC g sz S)) mc ms (AC g sz S) := by
  refine ofA_q (Or.inr ⟨_, rfl⟩) (by decide) (Nat.le_of_ble_eq_true rfl) (fun p e s m args below meth c Q A H locs ls hx hb hml hts hown hK hA hC hN hmn kr hl hP hD hS => ?_)
  have hl : lv_has ls 1 [(0, .ref (g.2.2 1))] := hl
  unfold wp_AB_getValue at hw
  have hcm : 0 ≤ mc := Nat.zero_le _
  have hzm : 0 ≤ ms := Nat.zero_le _
  refine lv_aload_n hx hb d_AB_getValue_0 rfl (lv_at hl 0 rfl) ?_
  refine va_get (D := g.1) (ci := 2) (v := .ref ((S.2.2.1 0))) (C := R_SB) (T := F_SB) (N := 4) hx hb hts hin_SB hown hK hP 1 rfl rfl 0 (by decide) (hts _ k_C_45) (fun _ h9 => h9) rfl d_AB_getValue_1 ?_
  exact kr (some ((S.2.2.1 0))) S _ _ _ _ _ _ hcm hzm hw hP hD hS d_AB_getValue_4
theorem d_AB_length_0 : decode b_AB_length 0 = .ok (.aload_n 0, 1) := by decide +kernel
theorem d_AB_length_1 : decode b_AB_length 1 = .ok (.getfield 79, 3) := by decide +kernel
theorem d_AB_length_4 : decode b_AB_length 4 = .ok (.ireturn, 1) := by decide +kernel
def wp_AB_length (g : Gm) (post : Int32 → StC → Prop) (mc ms : Nat) (S : StC)  : Prop :=
  post ((S.1 2)) S
set_option maxRecDepth 100000 in
set_option maxHeartbeats 4000000 in
theorem c_AB_length (l : Launch) (g : Gm) (sz : Nat) (S : StC)  (post : Int32 → StC → Prop) (mc ms : Nat) (hw : wp_AB_length g post mc ms S ) : Met l y_AB_length (.code y_AB_length b_AB_length 1 (some .int) :: w_C) (rmA 0 0 mc ms) (va_Pc [.ref (g.2.2 1)] (PC g sz S)) (va_Qi post (BC g (AC g sz S)) (AC g sz S)) mc ms (AC g sz S) := by
  refine ofA_i (by decide) (Nat.le_of_ble_eq_true rfl) (fun p e s m args below meth c Q A H locs ls hx hb hml hts hown hK hA hC hN hmn kr hl hP hD hS => ?_)
  have hl : lv_has ls 1 [(0, .ref (g.2.2 1))] := hl
  unfold wp_AB_length at hw
  have hcm : 0 ≤ mc := Nat.zero_le _
  have hzm : 0 ≤ ms := Nat.zero_le _
  refine lv_aload_n hx hb d_AB_length_0 rfl (lv_at hl 0 rfl) ?_
  refine va_get (D := g.1) (ci := 2) (v := .int ((S.1 2))) (C := R_SB) (T := F_SB) (N := 4) hx hb hts hin_SB hown hK hP 1 rfl rfl 3 (by decide) (hts _ k_C_49) (fun _ h9 => h9) rfl d_AB_length_1 ?_
  exact kr ((S.1 2)) S _ _ _ _ _ _ hcm hzm hw hP hD hS d_AB_length_4
theorem d_AB_isLatin1_0 : decode b_AB_isLatin1 0 = .ok (.getstatic 18, 3) := by decide +kernel
theorem d_AB_isLatin1_3 : decode b_AB_isLatin1 3 = .ok (.ifCond .eq 14, 3) := by decide +kernel
theorem d_AB_isLatin1_6 : decode b_AB_isLatin1 6 = .ok (.aload_n 0, 1) := by decide +kernel
theorem d_AB_isLatin1_7 : decode b_AB_isLatin1 7 = .ok (.getfield 22, 3) := by decide +kernel
theorem d_AB_isLatin1_10 : decode b_AB_isLatin1 10 = .ok (.ifCond .ne 7, 3) := by decide +kernel
theorem d_AB_isLatin1_13 : decode b_AB_isLatin1 13 = .ok (.iconst 1, 1) := by decide +kernel
theorem d_AB_isLatin1_14 : decode b_AB_isLatin1 14 = .ok (.goto 4, 3) := by decide +kernel
theorem d_AB_isLatin1_17 : decode b_AB_isLatin1 17 = .ok (.iconst 0, 1) := by decide +kernel
theorem d_AB_isLatin1_18 : decode b_AB_isLatin1 18 = .ok (.ireturn, 1) := by decide +kernel
def wq_AB_isLatin1_18 (g : Gm) (post : Int32 → StC → Prop) (mc ms : Nat)  (S : StC) (t0 : Int32) (c0 : Nat) (z0 : Nat) : Prop :=
  (narrow .boolean (.int (t0)) = .int (t0)) ∧ (post (t0) S)
def wq_AB_isLatin1_17 (g : Gm) (post : Int32 → StC → Prop) (mc ms : Nat)  (S : StC) (c0 : Nat) (z0 : Nat) : Prop :=
  wq_AB_isLatin1_18 g post mc ms  S (0) (c0) (z0)
def wp_AB_isLatin1 (g : Gm) (post : Int32 → StC → Prop) (mc ms : Nat) (S : StC)  : Prop :=
  (¬ ((1 : Int32) = 0)) ∧ ((((S.1 0) = 0) → wq_AB_isLatin1_18 g post mc ms  S (1) (0) (0)) ∧ (¬ ((S.1 0) = 0) → wq_AB_isLatin1_17 g post mc ms  S (0) (0)))
set_option maxRecDepth 100000 in
set_option maxHeartbeats 4000000 in
theorem c_AB_isLatin1 (l : Launch) (g : Gm) (sz : Nat) (S : StC)  (post : Int32 → StC → Prop) (mc ms : Nat) (hw : wp_AB_isLatin1 g post mc ms S ) : Met l y_AB_isLatin1 (.code y_AB_isLatin1 b_AB_isLatin1 1 (some .boolean) :: w_C) (rmA 0 0 mc ms) (va_Pc [.ref (g.2.2 1)] (PC g sz S)) (va_Qi post (BC g (AC g sz S)) (AC g sz S)) mc ms (AC g sz S) := by
  refine ofA_z (by decide) (Nat.le_of_ble_eq_true rfl) (fun p e s m args below meth c Q A H locs ls hx hb hml hts hown hK hA hC hN hmn kr hl hP hD hS => ?_)
  have hl : lv_has ls 1 [(0, .ref (g.2.2 1))] := hl
  unfold wp_AB_isLatin1 at hw
  have hcm : 0 ≤ mc := Nat.zero_le _
  have hzm : 0 ≤ ms := Nat.zero_le _
  have J18 : ∀ (S : StC) (t0 : Int32) (c0 : Nat) (z0 : Nat) (H : Heap) (locs : List Loc) (ls : Array Slot), c0 ≤ mc → z0 ≤ ms → wq_AB_isLatin1_18 g post mc ms  S t0 c0 z0 → lv_has ls 1 [] → va_P g.1 classes (wC g S) H → va_D A (wC g S) → va_S A s.heap H locs → W p l e (rmA 0 0 mc ms) s m args below meth c H locs c0 z0 Q (F0 m 18 ls [.int (t0)]) := by
    intro S t0 c0 z0 H locs ls hcm hzm hw hl hP hD hS
    unfold wq_AB_isLatin1_18 at hw
    obtain ⟨hnz, hw⟩ := hw
    exact kr (t0) S _ _ _ _ _ _ hcm hzm hnz hw hP hD hS d_AB_isLatin1_18
  have J17 : ∀ (S : StC) (c0 : Nat) (z0 : Nat) (H : Heap) (locs : List Loc) (ls : Array Slot), c0 ≤ mc → z0 ≤ ms → wq_AB_isLatin1_17 g post mc ms  S c0 z0 → lv_has ls 1 [] → va_P g.1 classes (wC g S) H → va_D A (wC g S) → va_S A s.heap H locs → W p l e (rmA 0 0 mc ms) s m args below meth c H locs c0 z0 Q (F0 m 17 ls []) := by
    intro S c0 z0 H locs ls hcm hzm hw hl hP hD hS
    unfold wq_AB_isLatin1_17 at hw
    refine lv_iconst (v := 0) hx hb d_AB_isLatin1_17 (by decide) ?_
    exact J18 S (0) (c0) (z0) _ _ _ hcm hzm hw (lv_sub hl [] rfl) hP hD hS
  refine va_gets (C := "java/lang/String") (n := "COMPACT_STRINGS") (d := "Z") (v := .int (1)) hx hb hC.2.2.2.1 hS hown (hts _ k_C_37) (fun _ h9 => h9) d_AB_isLatin1_0 ?_
  obtain ⟨hc9, hw⟩ := hw
  refine lv_if_eq hx hb d_AB_isLatin1_3 (tgt := 17) (by decide) (fun hc => absurd hc hc9) (fun hc => ?_)
  refine lv_aload_n hx hb d_AB_isLatin1_6 rfl (lv_at hl 0 rfl) ?_
  refine va_get (D := g.1) (ci := 2) (v := .int ((S.1 0))) (C := R_SB) (T := F_SB) (N := 4) hx hb hts hin_SB hown hK hP 1 rfl rfl 1 (by decide) (hts _ k_C_46) (fun _ h9 => h9) rfl d_AB_isLatin1_7 ?_
  refine lv_if_ne hx hb d_AB_isLatin1_10 (tgt := 17) (by decide) (fun hc => ?_) (fun hc => ?_)
  · have hw := hw.2 hc
    exact J17 S (0) (0) _ _ _ hcm hzm hw (lv_sub hl [] rfl) hP hD hS
  · have hw := hw.1 hc
    refine lv_iconst (v := 1) hx hb d_AB_isLatin1_13 (by decide) ?_
    refine lv_goto hx hb d_AB_isLatin1_14 (tgt := 18) (by decide) ?_
    exact J18 S (1) (0) (0) _ _ _ hcm hzm hw (lv_sub hl [] rfl) hP hD hS
theorem d_Ar_checkLength_0 : decode b_Ar_checkLength 0 = .ok (.iload_n 1, 1) := by decide +kernel
theorem d_Ar_checkLength_1 : decode b_Ar_checkLength 1 = .ok (.iload_n 0, 1) := by decide +kernel
theorem d_Ar_checkLength_2 : decode b_Ar_checkLength 2 = .ok (.if_icmp .ge 35, 3) := by decide +kernel
theorem d_Ar_checkLength_5 : decode b_Ar_checkLength 5 = .ok (.new 43, 3) := by decide +kernel
theorem d_Ar_checkLength_8 : decode b_Ar_checkLength 8 = .ok (.dup, 1) := by decide +kernel
theorem d_Ar_checkLength_9 : decode b_Ar_checkLength 9 = .ok (.new 45, 3) := by decide +kernel
theorem d_Ar_checkLength_12 : decode b_Ar_checkLength 12 = .ok (.dup, 1) := by decide +kernel
theorem d_Ar_checkLength_13 : decode b_Ar_checkLength 13 = .ok (.invokespecial 47, 3) := by decide +kernel
theorem d_Ar_checkLength_16 : decode b_Ar_checkLength 16 = .ok (.iload_n 0, 1) := by decide +kernel
theorem d_Ar_checkLength_17 : decode b_Ar_checkLength 17 = .ok (.invokevirtual 54, 3) := by decide +kernel
theorem d_Ar_checkLength_23 : decode b_Ar_checkLength 23 = .ok (.invokevirtual 50, 3) := by decide +kernel
theorem d_Ar_checkLength_26 : decode b_Ar_checkLength 26 = .ok (.iload_n 1, 1) := by decide +kernel
theorem d_Ar_checkLength_27 : decode b_Ar_checkLength 27 = .ok (.invokevirtual 54, 3) := by decide +kernel
theorem d_Ar_checkLength_30 : decode b_Ar_checkLength 30 = .ok (.invokevirtual 61, 3) := by decide +kernel
theorem d_Ar_checkLength_33 : decode b_Ar_checkLength 33 = .ok (.invokespecial 65, 3) := by decide +kernel
theorem d_Ar_checkLength_36 : decode b_Ar_checkLength 36 = .ok (.athrow, 1) := by decide +kernel
theorem d_Ar_checkLength_37 : decode b_Ar_checkLength 37 = .ok (.return_, 1) := by decide +kernel
def wp_Ar_checkLength (g : Gm) (post : StC → Prop) (mc ms : Nat) (S : StC) (a0 : Int32) (a1 : Int32) : Prop :=
  (a0 ≤ a1) ∧ (post S)
set_option maxRecDepth 100000 in
set_option maxHeartbeats 4000000 in
theorem c_Ar_checkLength (l : Launch) (g : Gm) (sz : Nat) (S : StC) (a0 : Int32) (a1 : Int32) (post : StC → Prop) (mc ms : Nat) (hw : wp_Ar_checkLength g post mc ms S a0 a1) : Met l y_Ar_checkLength (.code y_Ar_checkLength b_Ar_checkLength 2 none :: w_C) (rmA 0 0 mc ms) (va_Pc [.int (a0), .int (a1)] (PC g sz S)) (va_Qv post (BC g (AC g sz S)) (AC g sz S)) mc ms (AC g sz S) := by
  refine ofA_v (by decide) (Nat.le_of_ble_eq_true rfl) (fun p e s m args below meth c Q A H locs ls hx hb hml hts hown hK hA hC hN hmn kr hl hP hD hS => ?_)
  have hl : lv_has ls 2 [(0, .int (a0)), (1, .int (a1))] := hl
  unfold wp_Ar_checkLength at hw
  have hcm : 0 ≤ mc := Nat.zero_le _
  have hzm : 0 ≤ ms := Nat.zero_le _
  refine lv_iload_n hx hb d_Ar_checkLength_0 rfl (lv_at hl 1 rfl) ?_
  refine lv_iload_n hx hb d_Ar_checkLength_1 rfl (lv_at hl 0 rfl) ?_
  obtain ⟨hc9, hw⟩ := hw
  refine lv_icmp_ge hx hb d_Ar_checkLength_2 (tgt := 37) (by decide) (fun hc => ?_) (fun hc => absurd hc9 hc)
  exact kr S _ _ _ _ _ _ hcm hzm hw hP hD hS d_Ar_checkLength_37
theorem qA_0 {R : Room} {s : State} {args : Array Value} {mc1 ms1 : Nat} (hts : ∀ w ∈ w_C, w.before args s = true) (hR : (rmA 0 0 mc1 ms1).frames + 1 ≤ R.frames ∧ 8 + (2 + 11) + (rmA 0 0 mc1 ms1).locals ≤ R.locals) : CallB R s args "java/util/Arrays" 343 y_Ar_checkLength b_Ar_checkLength 2 none (.code y_Ar_checkLength b_Ar_checkLength 2 none :: w_C) (rmA 0 0 mc1 ms1) mc1 ms1 2 ∧ (Cond.static y_Ar_checkLength).before args s = true := ⟨callB_of 2 hts (good_C k_C_268) rfl rfl rfl (hts _ k_C_14) (hts _ k_C_266) ⟨by decide +kernel, by decide +kernel, by decide +kernel⟩ hR, hts _ k_C_267⟩
theorem d_Ar_copyOfRangeByte_0 : decode b_Ar_copyOfRangeByte 0 = .ok (.iload_n 1, 1) := by decide +kernel
theorem d_Ar_copyOfRangeByte_1 : decode b_Ar_copyOfRangeByte 1 = .ok (.iload_n 2, 1) := by decide +kernel
theorem d_Ar_copyOfRangeByte_2 : decode b_Ar_copyOfRangeByte 2 = .ok (.invokestatic 343, 3) := by decide +kernel
theorem d_Ar_copyOfRangeByte_5 : decode b_Ar_copyOfRangeByte 5 = .ok (.iload_n 2, 1) := by decide +kernel
theorem d_Ar_copyOfRangeByte_6 : decode b_Ar_copyOfRangeByte 6 = .ok (.iload_n 1, 1) := by decide +kernel
theorem d_Ar_copyOfRangeByte_7 : decode b_Ar_copyOfRangeByte 7 = .ok (.isub, 1) := by decide +kernel
theorem d_Ar_copyOfRangeByte_8 : decode b_Ar_copyOfRangeByte 8 = .ok (.istore_n 3, 1) := by decide +kernel
theorem d_Ar_copyOfRangeByte_9 : decode b_Ar_copyOfRangeByte 9 = .ok (.iload_n 3, 1) := by decide +kernel
theorem d_Ar_copyOfRangeByte_10 : decode b_Ar_copyOfRangeByte 10 = .ok (.newarray .byte, 2) := by decide +kernel
theorem d_Ar_copyOfRangeByte_12 : decode b_Ar_copyOfRangeByte 12 = .ok (.astore 4, 2) := by decide +kernel
theorem d_Ar_copyOfRangeByte_14 : decode b_Ar_copyOfRangeByte 14 = .ok (.aload_n 0, 1) := by decide +kernel
theorem d_Ar_copyOfRangeByte_15 : decode b_Ar_copyOfRangeByte 15 = .ok (.iload_n 1, 1) := by decide +kernel
theorem d_Ar_copyOfRangeByte_16 : decode b_Ar_copyOfRangeByte 16 = .ok (.aload 4, 2) := by decide +kernel
theorem d_Ar_copyOfRangeByte_18 : decode b_Ar_copyOfRangeByte 18 = .ok (.iconst 0, 1) := by decide +kernel
theorem d_Ar_copyOfRangeByte_19 : decode b_Ar_copyOfRangeByte 19 = .ok (.aload_n 0, 1) := by decide +kernel
theorem d_Ar_copyOfRangeByte_20 : decode b_Ar_copyOfRangeByte 20 = .ok (.arraylength, 1) := by decide +kernel
theorem d_Ar_copyOfRangeByte_21 : decode b_Ar_copyOfRangeByte 21 = .ok (.iload_n 1, 1) := by decide +kernel
theorem d_Ar_copyOfRangeByte_22 : decode b_Ar_copyOfRangeByte 22 = .ok (.isub, 1) := by decide +kernel
theorem d_Ar_copyOfRangeByte_23 : decode b_Ar_copyOfRangeByte 23 = .ok (.iload_n 3, 1) := by decide +kernel
theorem d_Ar_copyOfRangeByte_24 : decode b_Ar_copyOfRangeByte 24 = .ok (.invokestatic 304, 3) := by decide +kernel
theorem d_Ar_copyOfRangeByte_27 : decode b_Ar_copyOfRangeByte 27 = .ok (.invokestatic 150, 3) := by decide +kernel
theorem d_Ar_copyOfRangeByte_30 : decode b_Ar_copyOfRangeByte 30 = .ok (.aload 4, 2) := by decide +kernel
theorem d_Ar_copyOfRangeByte_32 : decode b_Ar_copyOfRangeByte 32 = .ok (.areturn, 1) := by decide +kernel
def wp_Ar_copyOfRangeByte (g : Gm) (post : Option Nat → StC → Prop) (mc ms : Nat) (S : StC) (a0 : Nat) (a1 : Int32) (a2 : Int32) : Prop :=
  ∃ (mc1 : Nat) (ms2 : Nat), (0 + mc1 ≤ mc) ∧ (0 + ms2 ≤ ms) ∧ (wp_Ar_checkLength g (fun S3 : StC => ((¬ ((a2 - a1) : Int32) < 0) ∧ ((Int32.toNatClampNeg ((a2 - a1))) * 1 ≤ 536870912) ∧ ((0 + mc1) + 1 ≤ mc) ∧ ((0 + ms2) + (Int32.toNatClampNeg ((a2 - a1))) ≤ ms) ∧ (∀ q4 : Nat, q4 ∉ S3.2.2.2.2.2.1 → ∃ (n6 : Nat) (f7 : Nat → Int32), (a0 ∈ (S3.2.2.2.2.2.1 ++ [q4])) ∧ ((va_up S3.2.2.2.2.2.2 q4 (.inl (g.2.1 3, (Int32.toNatClampNeg ((a2 - a1))), .inl (fun _ => 0)))) a0 = .inl (g.2.1 3, n6, .inl f7)) ∧ (∃ (n10 : Nat) (f11 : Nat → Int32) (n12 : Nat) (f13 : Nat → Int32), (a0 ∈ (S3.2.2.2.2.2.1 ++ [q4])) ∧ ((va_up S3.2.2.2.2.2.2 q4 (.inl (g.2.1 3, (Int32.toNatClampNeg ((a2 - a1))), .inl (fun _ => 0)))) a0 = .inl (g.2.1 3, n10, .inl f11)) ∧ (q4 ∈ (S3.2.2.2.2.2.1 ++ [q4])) ∧ ((va_up S3.2.2.2.2.2.2 q4 (.inl (g.2.1 3, (Int32.toNatClampNeg ((a2 - a1))), .inl (fun _ => 0)))) q4 = .inl (g.2.1 3, n12, .inl f13)) ∧ (cpyB n10 n12 f11 a1 0 (if ((a2 - a1) : Int32) < ((Int32.ofNat n6) - a1) then (a2 - a1) else ((Int32.ofNat n6) - a1))) ∧ (post (some (q4)) (S3.1, S3.2.1, S3.2.2.1, S3.2.2.2.1, S3.2.2.2.2.1, (S3.2.2.2.2.2.1 ++ [q4]), (va_up (va_up S3.2.2.2.2.2.2 q4 (.inl (g.2.1 3, (Int32.toNatClampNeg ((a2 - a1))), .inl (fun _ => 0)))) q4 (.inl (g.2.1 3, n12, .inl (va_cpy f11 f13 (Int32.toNatClampNeg (a1)) (Int32.toNatClampNeg (0)) (Int32.toNatClampNeg ((if ((a2 - a1) : Int32) < ((Int32.ofNat n6) - a1) then (a2 - a1) else ((Int32.ofNat n6) - a1)))))))))))))) mc1 ms2 S (a1) (a2))
set_option maxRecDepth 100000 in
set_option maxHeartbeats 4000000 in
theorem c_Ar_copyOfRangeByte (l : Launch) (g : Gm) (sz : Nat) (S : StC) (a0 : Nat) (a1 : Int32) (a2 : Int32) (post : Option Nat → StC → Prop) (mc ms : Nat) (hw : wp_Ar_copyOfRangeByte g post mc ms S a0 a1 a2) : Met l y_Ar_copyOfRangeByte (.code y_Ar_copyOfRangeByte b_Ar_copyOfRangeByte 5 (some (.array .byte)) :: w_C) (rmA 1 40 mc ms) (va_Pc [.ref (a0), .int (a1), .int (a2)] (PC g sz S)) (va_Qq post (BC g (AC g sz S)) (AC g sz S)) mc ms (AC g sz S) := by
  refine ofA_q (Or.inr ⟨_, rfl⟩) (by decide) (Nat.le_of_ble_eq_true rfl) (fun p e s m args below meth c Q A H locs ls hx hb hml hts hown hK hA hC hN hmn kr hl hP hD hS => ?_)
  have hl : lv_has ls 5 [(0, .ref (a0)), (1, .int (a1)), (2, .int (a2))] := hl
  unfold wp_Ar_copyOfRangeByte at hw
  have hcm : 0 ≤ mc := Nat.zero_le _
  have hzm : 0 ≤ ms := Nat.zero_le _
  refine lv_iload_n hx hb d_Ar_copyOfRangeByte_0 rfl (lv_at hl 1 rfl) ?_
  refine lv_iload_n hx hb d_Ar_copyOfRangeByte_1 rfl (lv_at hl 2 rfl) ?_
  obtain ⟨mc1, ms2, hcm, hzm, hw⟩ := hw
  refine cA_vS (As := [.int (a1), .int (a2)]) (rest := []) hx hb hml hown hts hK hC hN hP hD hS hA hcm hzm hl.1  (qA_0 hts ⟨Nat.le_of_ble_eq_true rfl, Nat.le_of_ble_eq_true rfl⟩) (c_Ar_checkLength l g H.size _ (a1) (a2) _ _ _ hw) rfl rfl (Nat.le_of_ble_eq_true rfl) d_Ar_copyOfRangeByte_2 (fun S3 H locs hw hP hD hS => ?_)
  refine lv_iload_n hx hb d_Ar_copyOfRangeByte_5 rfl (lv_at hl 2 rfl) ?_
  refine lv_iload_n hx hb d_Ar_copyOfRangeByte_6 rfl (lv_at hl 1 rfl) ?_
  refine lv_isub hx hb d_Ar_copyOfRangeByte_7 ?_
  refine lv_istore_n (lv' := [(3, .int ((a2 - a1))), (0, .ref (a0)), (1, .int (a1)), (2, .int (a2))]) hx hb d_Ar_copyOfRangeByte_8 rfl hl (by decide) rfl (fun ls hl => ?_)
  refine lv_iload_n hx hb d_Ar_copyOfRangeByte_9 rfl (lv_at hl 0 rfl) ?_
  obtain ⟨hn9, hb9, hcm, hzm, hw⟩ := hw
  refine pnb_C (S := S3) hx hb hts k_C_51 hK hP hD hS hA hn9 hb9 hcm hzm d_Ar_copyOfRangeByte_10 (fun q4 H hq5 hP hD hS => ?_)
  have hP : va_P g.1 classes (wC g (S3.1, S3.2.1, S3.2.2.1, S3.2.2.2.1, S3.2.2.2.2.1, (S3.2.2.2.2.2.1 ++ [q4]), (va_up S3.2.2.2.2.2.2 q4 (.inl (g.2.1 3, (Int32.toNatClampNeg ((a2 - a1))), .inl (fun _ => 0)))))) H := hP
  have hD : va_D A (wC g (S3.1, S3.2.1, S3.2.2.1, S3.2.2.2.1, S3.2.2.2.2.1, (S3.2.2.2.2.2.1 ++ [q4]), (va_up S3.2.2.2.2.2.2 q4 (.inl (g.2.1 3, (Int32.toNatClampNeg ((a2 - a1))), .inl (fun _ => 0)))))) := hD
  have hw := hw q4 hq5
  refine lv_astore (lv' := [(4, .ref (q4)), (3, .int ((a2 - a1))), (0, .ref (a0)), (1, .int (a1)), (2, .int (a2))]) hx hb d_Ar_copyOfRangeByte_12 hl (by decide) rfl (fun ls hl => ?_)
  refine lv_aload_n hx hb d_Ar_copyOfRangeByte_14 rfl (lv_at hl 2 rfl) ?_
  refine lv_iload_n hx hb d_Ar_copyOfRangeByte_15 rfl (lv_at hl 3 rfl) ?_
  refine lv_aload hx hb d_Ar_copyOfRangeByte_16 (lv_at hl 0 rfl) ?_
  refine lv_iconst (v := 0) hx hb d_Ar_copyOfRangeByte_18 (by decide) ?_
  refine lv_aload_n hx hb d_Ar_copyOfRangeByte_19 rfl (lv_at hl 2 rfl) ?_
  obtain ⟨n6, f7, ha8, hf9, hw⟩ := hw
  refine pal_C (S := (S3.1, S3.2.1, S3.2.2.1, S3.2.2.2.1, S3.2.2.2.2.1, (S3.2.2.2.2.2.1 ++ [q4]), (va_up S3.2.2.2.2.2.2 q4 (.inl (g.2.1 3, (Int32.toNatClampNeg ((a2 - a1))), .inl (fun _ => 0)))))) hx hb hK hP ha8 hf9 d_Ar_copyOfRangeByte_20 ?_
  refine lv_iload_n hx hb d_Ar_copyOfRangeByte_21 rfl (lv_at hl 3 rfl) ?_
  refine lv_isub hx hb d_Ar_copyOfRangeByte_22 ?_
  refine lv_iload_n hx hb d_Ar_copyOfRangeByte_23 rfl (lv_at hl 1 rfl) ?_
  refine va_mmin hx hb (hml.trans hl.1.symm) hown (hts _ k_C_183) (hts _ k_C_184) (hts _ k_C_13) (hts _ k_C_185) (Nat.le_of_ble_eq_true rfl) (Nat.le_of_ble_eq_true rfl) hcm hzm d_Ar_copyOfRangeByte_24 ?_
  obtain ⟨n10, f11, n12, f13, h14, h15, h16, h17, h18, hw⟩ := hw
  refine cpyB_C (S := (S3.1, S3.2.1, S3.2.2.1, S3.2.2.2.1, S3.2.2.2.2.1, (S3.2.2.2.2.2.1 ++ [q4]), (va_up S3.2.2.2.2.2.2 q4 (.inl (g.2.1 3, (Int32.toNatClampNeg ((a2 - a1))), .inl (fun _ => 0)))))) hx hb (hml.trans hl.1.symm) hown (hts _ k_C_186) (hts _ k_C_188) (hts _ k_C_187) (hts _ k_C_15) hK hP hD hS h14 h15 h16 h17 h18 (Nat.le_of_ble_eq_true rfl) (Nat.le_of_ble_eq_true rfl) d_Ar_copyOfRangeByte_27 (fun H locs hP hD hS => ?_)
  have hP : va_P g.1 classes (wC g (S3.1, S3.2.1, S3.2.2.1, S3.2.2.2.1, S3.2.2.2.2.1, (S3.2.2.2.2.2.1 ++ [q4]), (va_up (va_up S3.2.2.2.2.2.2 q4 (.inl (g.2.1 3, (Int32.toNatClampNeg ((a2 - a1))), .inl (fun _ => 0)))) q4 (.inl (g.2.1 3, n12, .inl (va_cpy f11 f13 (Int32.toNatClampNeg (a1)) (Int32.toNatClampNeg (0)) (Int32.toNatClampNeg ((if ((a2 - a1) : Int32) < ((Int32.ofNat n6) - a1) then (a2 - a1) else ((Int32.ofNat n6) - a1)))))))))) H := hP
  have hD : va_D A (wC g (S3.1, S3.2.1, S3.2.2.1, S3.2.2.2.1, S3.2.2.2.2.1, (S3.2.2.2.2.2.1 ++ [q4]), (va_up (va_up S3.2.2.2.2.2.2 q4 (.inl (g.2.1 3, (Int32.toNatClampNeg ((a2 - a1))), .inl (fun _ => 0)))) q4 (.inl (g.2.1 3, n12, .inl (va_cpy f11 f13 (Int32.toNatClampNeg (a1)) (Int32.toNatClampNeg (0)) (Int32.toNatClampNeg ((if ((a2 - a1) : Int32) < ((Int32.ofNat n6) - a1) then (a2 - a1) else ((Int32.ofNat n6) - a1)))))))))) := hD
  refine lv_aload hx hb d_Ar_copyOfRangeByte_30 (lv_at hl 0 rfl) ?_
  exact kr (some (q4)) (S3.1, S3.2.1, S3.2.2.1, S3.2.2.2.1, S3.2.2.2.2.1, (S3.2.2.2.2.2.1 ++ [q4]), (va_up (va_up S3.2.2.2.2.2.2 q4 (.inl (g.2.1 3, (Int32.toNatClampNeg ((a2 - a1))), .inl (fun _ => 0)))) q4 (.inl (g.2.1 3, n12, .inl (va_cpy f11 f13 (Int32.toNatClampNeg (a1)) (Int32.toNatClampNeg (0)) (Int32.toNatClampNeg ((if ((a2 - a1) : Int32) < ((Int32.ofNat n6) - a1) then (a2 - a1) else ((Int32.ofNat n6) - a1))))))))) _ _ _ _ _ _ hcm hzm hw hP hD hS d_Ar_copyOfRangeByte_32
theorem qA_1 {R : Room} {s : State} {args : Array Value} {mc1 ms1 : Nat} (hts : ∀ w ∈ w_C, w.before args s = true) (hR : (rmA 1 40 mc1 ms1).frames + 1 ≤ R.frames ∧ 8 + (5 + 11) + (rmA 1 40 mc1 ms1).locals ≤ R.locals) : CallB R s args "java/util/Arrays" 339 y_Ar_copyOfRangeByte b_Ar_copyOfRangeByte 5 (some (.array .byte)) (.code y_Ar_copyOfRangeByte b_Ar_copyOfRangeByte 5 (some (.array .byte)) :: w_C) (rmA 1 40 mc1 ms1) mc1 ms1 3 ∧ (Cond.static y_Ar_copyOfRangeByte).before args s = true := ⟨callB_of 3 hts (good_C k_C_265) rfl rfl rfl (hts _ k_C_14) (hts _ k_C_263) ⟨by decide +kernel, by decide +kernel, by decide +kernel⟩ hR, hts _ k_C_264⟩
theorem d_Ar_copyOfRange_0 : decode b_Ar_copyOfRange 0 = .ok (.iload_n 1, 1) := by decide +kernel
theorem d_Ar_copyOfRange_1 : decode b_Ar_copyOfRange 1 = .ok (.ifCond .ne 9, 3) := by decide +kernel
theorem d_Ar_copyOfRange_4 : decode b_Ar_copyOfRange 4 = .ok (.iload_n 2, 1) := by decide +kernel
theorem d_Ar_copyOfRange_5 : decode b_Ar_copyOfRange 5 = .ok (.aload_n 0, 1) := by decide +kernel
theorem d_Ar_copyOfRange_6 : decode b_Ar_copyOfRange 6 = .ok (.arraylength, 1) := by decide +kernel
theorem d_Ar_copyOfRange_7 : decode b_Ar_copyOfRange 7 = .ok (.if_icmp .eq 10, 3) := by decide +kernel
theorem d_Ar_copyOfRange_10 : decode b_Ar_copyOfRange 10 = .ok (.aload_n 0, 1) := by decide +kernel
theorem d_Ar_copyOfRange_11 : decode b_Ar_copyOfRange 11 = .ok (.iload_n 1, 1) := by decide +kernel
theorem d_Ar_copyOfRange_12 : decode b_Ar_copyOfRange 12 = .ok (.iload_n 2, 1) := by decide +kernel
theorem d_Ar_copyOfRange_13 : decode b_Ar_copyOfRange 13 = .ok (.invokestatic 339, 3) := by decide +kernel
theorem d_Ar_copyOfRange_16 : decode b_Ar_copyOfRange 16 = .ok (.areturn, 1) := by decide +kernel
theorem d_Ar_copyOfRange_17 : decode b_Ar_copyOfRange 17 = .ok (.aload_n 0, 1) := by decide +kernel
theorem d_Ar_copyOfRange_18 : decode b_Ar_copyOfRange 18 = .ok (.invokevirtual 310, 3) := by decide +kernel
theorem d_Ar_copyOfRange_21 : decode b_Ar_copyOfRange 21 = .ok (.checkcast 311, 3) := by decide +kernel
theorem d_Ar_copyOfRange_24 : decode b_Ar_copyOfRange 24 = .ok (.areturn, 1) := by decide +kernel
def wq_Ar_copyOfRange_10 (g : Gm) (post : Option Nat → StC → Prop) (mc ms : Nat)  (S : StC) (x0 : Nat) (x1 : Int32) (x2 : Int32) (c0 : Nat) (z0 : Nat) : Prop :=
  ∃ (mc1 : Nat) (ms2 : Nat), (c0 + mc1 ≤ mc) ∧ (z0 + ms2 ≤ ms) ∧ (wp_Ar_copyOfRangeByte g (fun (r4 : Option Nat) (S3 : StC) => (post (r4) S3)) mc1 ms2 S (x0) (x1) (x2))
def wp_Ar_copyOfRange (g : Gm) (post : Option Nat → StC → Prop) (mc ms : Nat) (S : StC) (a0 : Nat) (a1 : Int32) (a2 : Int32) : Prop :=
  ((a1 = 0) → ∃ (n5 : Nat) (f6 : Nat → Int32), (a0 ∈ S.2.2.2.2.2.1) ∧ (S.2.2.2.2.2.2 a0 = .inl (g.2.1 3, n5, .inl f6)) ∧ (((a2 = (Int32.ofNat n5)) → ∃ (n9 : Nat) (f10 : Nat → Int32), (a0 ∈ S.2.2.2.2.2.1) ∧ (S.2.2.2.2.2.2 a0 = .inl (g.2.1 3, n9, .inl f10)) ∧ (∀ i, i < n9 → fits .byte (.int (f10 i)) = true) ∧ (0 + 1 ≤ mc) ∧ (0 + n9 ≤ ms) ∧ (∀ q11 : Nat, q11 ∉ S.2.2.2.2.2.1 → ∃ (n16 : Nat) (f17 : Nat → Int32), (q11 ∈ (S.2.2.2.2.2.1 ++ [q11])) ∧ ((va_up S.2.2.2.2.2.2 q11 (.inl (g.2.1 3, n9, .inl f10))) q11 = .inl (g.2.1 3, n16, .inl f17)) ∧ (post (some (q11)) (S.1, S.2.1, S.2.2.1, S.2.2.2.1, S.2.2.2.2.1, (S.2.2.2.2.2.1 ++ [q11]), (va_up S.2.2.2.2.2.2 q11 (.inl (g.2.1 3, n9, .inl f10))))))) ∧ (¬ (a2 = (Int32.ofNat n5)) → wq_Ar_copyOfRange_10 g post mc ms  S (a0) (a1) (a2) (0) (0)))) ∧ (¬ (a1 = 0) → wq_Ar_copyOfRange_10 g post mc ms  S (a0) (a1) (a2) (0) (0))
set_option maxRecDepth 100000 in
set_option maxHeartbeats 4000000 in
theorem c_Ar_copyOfRange (l : Launch) (g : Gm) (sz : Nat) (S : StC) (a0 : Nat) (a1 : Int32) (a2 : Int32) (post : Option Nat → StC → Prop) (mc ms : Nat) (hw : wp_Ar_copyOfRange g post mc ms S a0 a1 a2) : Met l y_Ar_copyOfRange (.code y_Ar_copyOfRange b_Ar_copyOfRange 3 (some (.array .byte)) :: w_C) (rmA 2 64 mc ms) (va_Pc [.ref (a0), .int (a1), .int (a2)] (PC g sz S)) (va_Qq post (BC g (AC g sz S)) (AC g sz S)) mc ms (AC g sz S) := by
  refine ofA_q (Or.inr ⟨_, rfl⟩) (by decide) (Nat.le_of_ble_eq_true rfl) (fun p e s m args below meth c Q A H locs ls hx hb hml hts hown hK hA hC hN hmn kr hl hP hD hS => ?_)
  have hl : lv_has ls 3 [(0, .ref (a0)), (1, .int (a1)), (2, .int (a2))] := hl
  unfold wp_Ar_copyOfRange at hw
  have hcm : 0 ≤ mc := Nat.zero_le _
  have hzm : 0 ≤ ms := Nat.zero_le _
  have J10 : ∀ (S : StC) (x0 : Nat) (x1 : Int32) (x2 : Int32) (c0 : Nat) (z0 : Nat) (H : Heap) (locs : List Loc) (ls : Array Slot), c0 ≤ mc → z0 ≤ ms → wq_Ar_copyOfRange_10 g post mc ms  S x0 x1 x2 c0 z0 → lv_has ls 3 [(0, .ref (x0)), (1, .int (x1)), (2, .int (x2))] → va_P g.1 classes (wC g S) H → va_D A (wC g S) → va_S A s.heap H locs → W p l e (rmA 2 64 mc ms) s m args below meth c H locs c0 z0 Q (F0 m 10 ls []) := by
    intro S x0 x1 x2 c0 z0 H locs ls hcm hzm hw hl hP hD hS
    unfold wq_Ar_copyOfRange_10 at hw
    refine lv_aload_n hx hb d_Ar_copyOfRange_10 rfl (lv_at hl 0 rfl) ?_
    refine lv_iload_n hx hb d_Ar_copyOfRange_11 rfl (lv_at hl 1 rfl) ?_
    refine lv_iload_n hx hb d_Ar_copyOfRange_12 rfl (lv_at hl 2 rfl) ?_
    obtain ⟨mc1, ms2, hcm, hzm, hw⟩ := hw
    refine cA_qS (As := [.ref (x0), .int (x1), .int (x2)]) (rest := []) hx hb hml hown hts hK hC hN hP hD hS hA hcm hzm hl.1  (qA_1 hts ⟨Nat.le_of_ble_eq_true rfl, Nat.le_of_ble_eq_true rfl⟩) (c_Ar_copyOfRangeByte l g H.size _ (x0) (x1) (x2) _ _ _ hw) rfl rfl (Nat.le_of_ble_eq_true rfl) d_Ar_copyOfRange_13 (fun r4 S3 H locs hw hP hD hS => ?_)
    exact kr (r4) S3 _ _ _ _ _ _ hcm hzm hw hP hD hS d_Ar_copyOfRange_16
  refine lv_iload_n hx hb d_Ar_copyOfRange_0 rfl (lv_at hl 1 rfl) ?_
  refine lv_if_ne hx hb d_Ar_copyOfRange_1 (tgt := 10) (by decide) (fun hc => ?_) (fun hc => ?_)
  · have hw := hw.2 hc
    exact J10 S (a0) (a1) (a2) (0) (0) _ _ _ hcm hzm hw (lv_sub hl [0, 1, 2] rfl) hP hD hS
  · have hw := hw.1 hc
    refine lv_iload_n hx hb d_Ar_copyOfRange_4 rfl (lv_at hl 2 rfl) ?_
    refine lv_aload_n hx hb d_Ar_copyOfRange_5 rfl (lv_at hl 0 rfl) ?_
    obtain ⟨n5, f6, ha7, hf8, hw⟩ := hw
    refine pal_C (S := S) hx hb hK hP ha7 hf8 d_Ar_copyOfRange_6 ?_
    refine lv_icmp_eq hx hb d_Ar_copyOfRange_7 (tgt := 17) (by decide) (fun hc => ?_) (fun hc => ?_)
    · have hw := hw.1 hc
      refine lv_aload_n hx hb d_Ar_copyOfRange_17 rfl (lv_at hl 0 rfl) ?_
      obtain ⟨n9, f10, h12, h13, h14, hcm, hzm, hw⟩ := hw
      refine clone_C (S := S) hx hb (hml.trans hl.1.symm) hown hts hN k_C_177 k_C_178 k_C_179 k_C_180 k_C_181 hK hP hD hS hA h12 h13 h14 (Nat.le_of_ble_eq_true rfl) (Nat.le_of_ble_eq_true rfl) hcm hzm d_Ar_copyOfRange_18 (fun q11 H h15 hP hD hS => ?_)
      have hP : va_P g.1 classes (wC g (S.1, S.2.1, S.2.2.1, S.2.2.2.1, S.2.2.2.2.1, (S.2.2.2.2.2.1 ++ [q11]), (va_up S.2.2.2.2.2.2 q11 (.inl (g.2.1 3, n9, .inl f10))))) H := hP
      have hD : va_D A (wC g (S.1, S.2.1, S.2.2.1, S.2.2.2.1, S.2.2.2.2.1, (S.2.2.2.2.2.1 ++ [q11]), (va_up S.2.2.2.2.2.2 q11 (.inl (g.2.1 3, n9, .inl f10))))) := hD
      have hw := hw q11 h15
      obtain ⟨n16, f17, ha18, hf19, hw⟩ := hw
      refine castB_C (S := (S.1, S.2.1, S.2.2.1, S.2.2.2.1, S.2.2.2.2.1, (S.2.2.2.2.2.1 ++ [q11]), (va_up S.2.2.2.2.2.2 q11 (.inl (g.2.1 3, n9, .inl f10))))) hx hb hown hts k_C_182 hK hP ha18 hf19 d_Ar_copyOfRange_21 ?_
      exact kr (some (q11)) (S.1, S.2.1, S.2.2.1, S.2.2.2.1, S.2.2.2.2.1, (S.2.2.2.2.2.1 ++ [q11]), (va_up S.2.2.2.2.2.2 q11 (.inl (g.2.1 3, n9, .inl f10)))) _ _ _ _ _ _ hcm hzm hw hP hD hS d_Ar_copyOfRange_24
    · have hw := hw.2 hc
      exact J10 S (a0) (a1) (a2) (0) (0) _ _ _ hcm hzm hw (lv_sub hl [0, 1, 2] rfl) hP hD hS
theorem qA_2 {R : Room} {s : State} {args : Array Value} {mc1 ms1 : Nat} (hts : ∀ w ∈ w_C, w.before args s = true) (hR : (rmA 0 0 mc1 ms1).frames + 1 ≤ R.frames ∧ 8 + (1 + 11) + (rmA 0 0 mc1 ms1).locals ≤ R.locals) : va_CS R s args "java/lang/StringBuilder" 343 y_AB_length b_AB_length 1 (some .int) (.code y_AB_length b_AB_length 1 (some .int) :: w_C) (rmA 0 0 mc1 ms1) mc1 ms1 0 := va_cwSU 0 hts (good_X k_C_144 k_C_765 k_C_50 k_C_145 k_C_1 k_C_146) rfl rfl rfl ⟨by decide +kernel, by decide +kernel⟩ hR
theorem d_SB_length_0 : decode b_SB_length 0 = .ok (.aload_n 0, 1) := by decide +kernel
theorem d_SB_length_1 : decode b_SB_length 1 = .ok (.invokespecial 343, 3) := by decide +kernel
theorem d_SB_length_4 : decode b_SB_length 4 = .ok (.ireturn, 1) := by decide +kernel
def wp_SB_length (g : Gm) (post : Int32 → StC → Prop) (mc ms : Nat) (S : StC)  : Prop :=
  ∃ (mc1 : Nat) (ms2 : Nat), (0 + mc1 ≤ mc) ∧ (0 + ms2 ≤ ms) ∧ (wp_AB_length g (fun (r4 : Int32) (S3 : StC) => (post (r4) S3)) mc1 ms2 S )
set_option maxRecDepth 100000 in
set_option maxHeartbeats 4000000 in
theorem c_SB_length (l : Launch) (g : Gm) (sz : Nat) (S : StC)  (post : Int32 → StC → Prop) (mc ms : Nat) (hw : wp_SB_length g post mc ms S ) : Met l y_SB_length (.code y_SB_length b_SB_length 1 (some .int) :: w_C) (rmA 1 20 mc ms) (va_Pc [.ref (g.2.2 1)] (PC g sz S)) (va_Qi post (BC g (AC g sz S)) (AC g sz S)) mc ms (AC g sz S) := by
  refine ofA_i (by decide) (Nat.le_of_ble_eq_true rfl) (fun p e s m args below meth c Q A H locs ls hx hb hml hts hown hK hA hC hN hmn kr hl hP hD hS => ?_)
  have hl : lv_has ls 1 [(0, .ref (g.2.2 1))] := hl
  unfold wp_SB_length at hw
  have hcm : 0 ≤ mc := Nat.zero_le _
  have hzm : 0 ≤ ms := Nat.zero_le _
  refine lv_aload_n hx hb d_SB_length_0 rfl (lv_at hl 0 rfl) ?_
  obtain ⟨mc1, ms2, hcm, hzm, hw⟩ := hw
  refine cA_iX (As := []) (rest := []) hx hb hml hown hts hK hC hN hP hD hS hA hcm hzm hl.1 ((hK.1 2 (R_SB, F_SB, 4) rfl).2) (va_recv (q0 := 1) (ci := 2) (q := (R_SB, F_SB, 4)) hK hP rfl rfl) (qA_2 hts ⟨Nat.le_of_ble_eq_true rfl, Nat.le_of_ble_eq_true rfl⟩) (c_AB_length l g H.size _  _ _ _ hw) rfl rfl (Nat.le_of_ble_eq_true rfl) d_SB_length_1 (fun r4 S3 H locs hw hP hD hS => ?_)
  exact kr (r4) S3 _ _ _ _ _ _ hcm hzm hw hP hD hS d_SB_length_4
theorem qA_3 {R : Room} {s : State} {args : Array Value} {mc1 ms1 : Nat} (hts : ∀ w ∈ w_C, w.before args s = true) (hR : (rmA 0 0 mc1 ms1).frames + 1 ≤ R.frames ∧ 8 + (1 + 11) + (rmA 0 0 mc1 ms1).locals ≤ R.locals) : va_CU R s args "java/lang/String" "java/lang/StringBuilder" "java/lang/AbstractStringBuilder" 552 y_AB_getValue y_AB_getValue b_AB_getValue 1 (some (.array .byte)) (.code y_AB_getValue b_AB_getValue 1 (some (.array .byte)) :: w_C) (rmA 0 0 mc1 ms1) mc1 ms1 0 := va_cwU 0 hts (good_U k_C_253 k_C_255 k_C_256 k_C_254 k_C_1 k_C_257) rfl rfl rfl rfl ⟨by decide +kernel, by decide +kernel, by decide +kernel⟩ hR
theorem qA_4 {R : Room} {s : State} {args : Array Value} {mc1 ms1 : Nat} (hts : ∀ w ∈ w_C, w.before args s = true) (hR : (rmA 1 20 mc1 ms1).frames + 1 ≤ R.frames ∧ 8 + (1 + 11) + (rmA 1 20 mc1 ms1).locals ≤ R.locals) : va_CU R s args "java/lang/String" "java/lang/StringBuilder" "java/lang/AbstractStringBuilder" 549 y_AB_length y_SB_length b_SB_length 1 (some .int) (.code y_SB_length b_SB_length 1 (some .int) :: w_C) (rmA 1 20 mc1 ms1) mc1 ms1 0 := va_cwO 0 hts (good_U2 k_C_258 k_C_765 k_C_145 k_C_770 k_C_141 k_C_2 k_C_143) rfl rfl rfl k_C_146 ⟨by decide +kernel, by decide +kernel, by decide +kernel⟩ hR
theorem qA_5 {R : Room} {s : State} {args : Array Value} {mc1 ms1 : Nat} (hts : ∀ w ∈ w_C, w.before args s = true) (hR : (rmA 0 0 mc1 ms1).frames + 1 ≤ R.frames ∧ 8 + (1 + 11) + (rmA 0 0 mc1 ms1).locals ≤ R.locals) : va_CU R s args "java/lang/String" "java/lang/StringBuilder" "java/lang/AbstractStringBuilder" 1047 y_AB_isLatin1 y_AB_isLatin1 b_AB_isLatin1 1 (some .boolean) (.code y_AB_isLatin1 b_AB_isLatin1 1 (some .boolean) :: w_C) (rmA 0 0 mc1 ms1) mc1 ms1 0 := va_cwU 0 hts (good_U k_C_259 k_C_191 k_C_192 k_C_190 k_C_1 k_C_193) rfl rfl rfl rfl ⟨by decide +kernel, by decide +kernel, by decide +kernel⟩ hR
theorem qA_6 {R : Room} {s : State} {args : Array Value} {mc1 ms1 : Nat} (hts : ∀ w ∈ w_C, w.before args s = true) (hR : (rmA 2 64 mc1 ms1).frames + 1 ≤ R.frames ∧ 8 + (3 + 11) + (rmA 2 64 mc1 ms1).locals ≤ R.locals) : CallB R s args "java/lang/String" 54 y_Ar_copyOfRange b_Ar_copyOfRange 3 (some (.array .byte)) (.code y_Ar_copyOfRange b_Ar_copyOfRange 3 (some (.array .byte)) :: w_C) (rmA 2 64 mc1 ms1) mc1 ms1 3 ∧ (Cond.static y_Ar_copyOfRange).before args s = true := ⟨callB_of 3 hts (good_C k_C_262) rfl rfl rfl (hts _ k_C_14) (hts _ k_C_260) ⟨by decide +kernel, by decide +kernel, by decide +kernel⟩ hR, hts _ k_C_261⟩
theorem d_St_initA_0 : decode b_St_initA 0 = .ok (.aload_n 0, 1) := by decide +kernel
theorem d_St_initA_1 : decode b_St_initA 1 = .ok (.invokespecial 1, 3) := by decide +kernel
theorem d_St_initA_4 : decode b_St_initA 4 = .ok (.aload_n 1, 1) := by decide +kernel
theorem d_St_initA_5 : decode b_St_initA 5 = .ok (.invokevirtual 552, 3) := by decide +kernel
theorem d_St_initA_8 : decode b_St_initA 8 = .ok (.astore_n 3, 1) := by decide +kernel
theorem d_St_initA_9 : decode b_St_initA 9 = .ok (.aload_n 1, 1) := by decide +kernel
theorem d_St_initA_10 : decode b_St_initA 10 = .ok (.invokevirtual 549, 3) := by decide +kernel
theorem d_St_initA_13 : decode b_St_initA 13 = .ok (.istore 4, 2) := by decide +kernel
theorem d_St_initA_15 : decode b_St_initA 15 = .ok (.aload_n 1, 1) := by decide +kernel
theorem d_St_initA_16 : decode b_St_initA 16 = .ok (.invokevirtual 1047, 3) := by decide +kernel
theorem d_St_initA_19 : decode b_St_initA 19 = .ok (.ifCond .eq 22, 3) := by decide +kernel
theorem d_St_initA_22 : decode b_St_initA 22 = .ok (.aload_n 0, 1) := by decide +kernel
theorem d_St_initA_23 : decode b_St_initA 23 = .ok (.iconst 0, 1) := by decide +kernel
theorem d_St_initA_24 : decode b_St_initA 24 = .ok (.putfield 15, 3) := by decide +kernel
theorem d_St_initA_27 : decode b_St_initA 27 = .ok (.aload_n 0, 1) := by decide +kernel
theorem d_St_initA_28 : decode b_St_initA 28 = .ok (.aload_n 3, 1) := by decide +kernel
theorem d_St_initA_29 : decode b_St_initA 29 = .ok (.iconst 0, 1) := by decide +kernel
theorem d_St_initA_30 : decode b_St_initA 30 = .ok (.iload 4, 2) := by decide +kernel
theorem d_St_initA_32 : decode b_St_initA 32 = .ok (.invokestatic 54, 3) := by decide +kernel
theorem d_St_initA_35 : decode b_St_initA 35 = .ok (.putfield 9, 3) := by decide +kernel
theorem d_St_initA_38 : decode b_St_initA 38 = .ok (.goto 59, 3) := by decide +kernel
theorem d_St_initA_41 : decode b_St_initA 41 = .ok (.getstatic 38, 3) := by decide +kernel
theorem d_St_initA_44 : decode b_St_initA 44 = .ok (.ifCond .eq 35, 3) := by decide +kernel
theorem d_St_initA_47 : decode b_St_initA 47 = .ok (.aload_n 1, 1) := by decide +kernel
theorem d_St_initA_48 : decode b_St_initA 48 = .ok (.getfield 1048, 3) := by decide +kernel
theorem d_St_initA_51 : decode b_St_initA 51 = .ok (.ifCond .eq 28, 3) := by decide +kernel
theorem d_St_initA_54 : decode b_St_initA 54 = .ok (.aload_n 0, 1) := by decide +kernel
theorem d_St_initA_55 : decode b_St_initA 55 = .ok (.aload_n 3, 1) := by decide +kernel
theorem d_St_initA_56 : decode b_St_initA 56 = .ok (.iconst 0, 1) := by decide +kernel
theorem d_St_initA_57 : decode b_St_initA 57 = .ok (.iload 4, 2) := by decide +kernel
theorem d_St_initA_59 : decode b_St_initA 59 = .ok (.invokestatic 1051, 3) := by decide +kernel
theorem d_St_initA_62 : decode b_St_initA 62 = .ok (.putfield 9, 3) := by decide +kernel
theorem d_St_initA_65 : decode b_St_initA 65 = .ok (.aload_n 0, 1) := by decide +kernel
theorem d_St_initA_66 : decode b_St_initA 66 = .ok (.aload_n 0, 1) := by decide +kernel
theorem d_St_initA_67 : decode b_St_initA 67 = .ok (.getfield 9, 3) := by decide +kernel
theorem d_St_initA_70 : decode b_St_initA 70 = .ok (.iload 4, 2) := by decide +kernel
theorem d_St_initA_72 : decode b_St_initA 72 = .ok (.invokestatic 47, 3) := by decide +kernel
theorem d_St_initA_75 : decode b_St_initA 75 = .ok (.putfield 15, 3) := by decide +kernel
theorem d_St_initA_78 : decode b_St_initA 78 = .ok (.return_, 1) := by decide +kernel
theorem d_St_initA_79 : decode b_St_initA 79 = .ok (.aload_n 0, 1) := by decide +kernel
theorem d_St_initA_80 : decode b_St_initA 80 = .ok (.iconst 1, 1) := by decide +kernel
theorem d_St_initA_81 : decode b_St_initA 81 = .ok (.putfield 15, 3) := by decide +kernel
theorem d_St_initA_84 : decode b_St_initA 84 = .ok (.aload_n 0, 1) := by decide +kernel
theorem d_St_initA_85 : decode b_St_initA 85 = .ok (.aload_n 3, 1) := by decide +kernel
theorem d_St_initA_86 : decode b_St_initA 86 = .ok (.iconst 0, 1) := by decide +kernel
theorem d_St_initA_87 : decode b_St_initA 87 = .ok (.iload 4, 2) := by decide +kernel
theorem d_St_initA_89 : decode b_St_initA 89 = .ok (.iconst 1, 1) := by decide +kernel
theorem d_St_initA_90 : decode b_St_initA 90 = .ok (.ishl, 1) := by decide +kernel
theorem d_St_initA_91 : decode b_St_initA 91 = .ok (.invokestatic 54, 3) := by decide +kernel
theorem d_St_initA_94 : decode b_St_initA 94 = .ok (.putfield 9, 3) := by decide +kernel
theorem d_St_initA_97 : decode b_St_initA 97 = .ok (.return_, 1) := by decide +kernel
def wq_St_initA_97 (g : Gm) (post : StC → Prop) (mc ms : Nat)  (S : StC) (c0 : Nat) (z0 : Nat) : Prop :=
  post S
def wp_St_initA (g : Gm) (post : StC → Prop) (mc ms : Nat) (S : StC) (h0 : Nat) (a1 : Option Nat) : Prop :=
  ∃ (mc1 : Nat) (ms2 : Nat), (0 + mc1 ≤ mc) ∧ (0 + ms2 ≤ ms) ∧ (wp_AB_getValue g (fun (r4 : Option Nat) (S3 : StC) => (∃ (mc5 : Nat) (ms6 : Nat), ((0 + mc1) + mc5 ≤ mc) ∧ ((0 + ms2) + ms6 ≤ ms) ∧ (wp_SB_length g (fun (r8 : Int32) (S7 : StC) => (∃ (mc9 : Nat) (ms10 : Nat), (((0 + mc1) + mc5) + mc9 ≤ mc) ∧ (((0 + ms2) + ms6) + ms10 ≤ ms) ∧ (wp_AB_isLatin1 g (fun (r12 : Int32) (S11 : StC) => ((¬ (r12 = 0)) ∧ (∃ (vs13 : List Value), (h0 ∈ S11.2.2.2.2.2.1) ∧ (S11.2.2.2.2.2.2 h0 = .inr (3, vs13)) ∧ (1 < vs13.length) ∧ (∃ (y17 : Nat), (r4 = some y17) ∧ (∃ (mc19 : Nat) (ms20 : Nat), ((((0 + mc1) + mc5) + mc9) + mc19 ≤ mc) ∧ ((((0 + ms2) + ms6) + ms10) + ms20 ≤ ms) ∧ (wp_Ar_copyOfRange g (fun (r22 : Option Nat) (S21 : StC) => (∃ (y23 : Nat), (r22 = some y23) ∧ (∃ (vs25 : List Value), (h0 ∈ S21.2.2.2.2.2.1) ∧ (S21.2.2.2.2.2.2 h0 = .inr (3, vs25)) ∧ (0 < vs25.length) ∧ (wq_St_initA_97 g post mc ms  (S21.1, S21.2.1, S21.2.2.1, S21.2.2.2.1, S21.2.2.2.2.1, S21.2.2.2.2.2.1, (va_up S21.2.2.2.2.2.2 h0 (.inr (3, vs25.set 0 (.ref (y23)))))) (((((0 + mc1) + mc5) + mc9) + mc19)) (((((0 + ms2) + ms6) + ms10) + ms20)))))) mc19 ms20 (S11.1, S11.2.1, S11.2.2.1, S11.2.2.2.1, S11.2.2.2.2.1, S11.2.2.2.2.2.1, (va_up S11.2.2.2.2.2.2 h0 (.inr (3, vs13.set 1 (.int (0)))))) (y17) (0) (r8))))))) mc9 ms10 S7 ))) mc5 ms6 S3 ))) mc1 ms2 S )
set_option maxRecDepth 100000 in
set_option maxHeartbeats 4000000 in
theorem c_St_initA (l : Launch) (g : Gm) (sz : Nat) (S : StC) (h0 : Nat) (a1 : Option Nat) (post : StC → Prop) (mc ms : Nat) (hw : wp_St_initA g post mc ms S h0 a1) : Met l y_St_initA (.code y_St_initA b_St_initA 5 none :: w_C) (rmA 3 86 mc ms) (va_Pc [.ref (h0), .ref (g.2.2 1), va_rf (a1)] (PC g sz S)) (va_Qv post (BC g (AC g sz S)) (AC g sz S)) mc ms (AC g sz S) := by
  refine ofA_v (by decide) (by cases a1 <;> exact Nat.le_of_ble_eq_true rfl) (fun p e s m args below meth c Q A H locs ls hx hb hml hts hown hK hA hC hN hmn kr hl hP hD hS => ?_)
  have hl : lv_has ls 5 [(0, .ref (h0)), (1, .ref (g.2.2 1)), (2, va_rf (a1))] := hl
  unfold wp_St_initA at hw
  have hcm : 0 ≤ mc := Nat.zero_le _
  have hzm : 0 ≤ ms := Nat.zero_le _
  have J97 : ∀ (S : StC) (c0 : Nat) (z0 : Nat) (H : Heap) (locs : List Loc) (ls : Array Slot), c0 ≤ mc → z0 ≤ ms → wq_St_initA_97 g post mc ms  S c0 z0 → lv_has ls 5 [] → va_P g.1 classes (wC g S) H → va_D A (wC g S) → va_S A s.heap H locs → W p l e (rmA 3 86 mc ms) s m args below meth c H locs c0 z0 Q (F0 m 97 ls []) := by
    intro S c0 z0 H locs ls hcm hzm hw hl hP hD hS
    unfold wq_St_initA_97 at hw
    exact kr S _ _ _ _ _ _ hcm hzm hw hP hD hS d_St_initA_97
  refine lv_aload_n hx hb d_St_initA_0 rfl (lv_at hl 0 rfl) ?_
  refine W.objInit hx hb hown (hts _ k_C_252) (hts _ k_C_26) (hts _ k_C_27) rfl (by rw [hml]; exact hl.1) rfl d_St_initA_1 (Nat.le_of_ble_eq_true rfl) (Nat.le_of_ble_eq_true rfl) ?_
  refine W.eq (g2 := F0 m 4 ls []) rfl ?_
  refine lv_aload_n hx hb d_St_initA_4 rfl (lv_at hl 1 rfl) ?_
  obtain ⟨mc1, ms2, hcm, hzm, hw⟩ := hw
  refine cA_qU (As := []) (rest := []) hx hb hml hown hts hK hC hN hP hD hS hA hcm hzm hl.1 (va_recv (q0 := 1) (ci := 2) (q := (R_SB, F_SB, 4)) hK hP rfl rfl) (qA_3 hts ⟨Nat.le_of_ble_eq_true rfl, Nat.le_of_ble_eq_true rfl⟩) (c_AB_getValue l g H.size _  _ _ _ hw) rfl rfl (Nat.le_of_ble_eq_true rfl) d_St_initA_5 (fun r4 S3 H locs hw hP hD hS => ?_)
  refine lv_astore_nq (lv' := [(3, va_rf (r4)), (0, .ref (h0)), (1, .ref (g.2.2 1)), (2, va_rf (a1))]) hx hb d_St_initA_8 rfl hl (by decide) (by first | (cases a1 <;> rfl) | simp [rf_cat]) (fun ls hl => ?_)
  refine lv_aload_n hx hb d_St_initA_9 rfl (lv_at hl 2 rfl) ?_
  obtain ⟨mc5, ms6, hcm, hzm, hw⟩ := hw
  refine cA_iU (As := []) (rest := []) hx hb hml hown hts hK hC hN hP hD hS hA hcm hzm hl.1 (va_recv (q0 := 1) (ci := 2) (q := (R_SB, F_SB, 4)) hK hP rfl rfl) (qA_4 hts ⟨Nat.le_of_ble_eq_true rfl, Nat.le_of_ble_eq_true rfl⟩) (c_SB_length l g H.size _  _ _ _ hw) rfl rfl (Nat.le_of_ble_eq_true rfl) d_St_initA_10 (fun r8 S7 H locs hw hP hD hS => ?_)
  refine lv_istore (lv' := [(4, .int (r8)), (3, va_rf (r4)), (0, .ref (h0)), (1, .ref (g.2.2 1)), (2, va_rf (a1))]) hx hb d_St_initA_13 hl (by decide) (by first | (cases r4 <;> rfl) | simp [rf_cat]) (fun ls hl => ?_)
  refine lv_aload_n hx hb d_St_initA_15 rfl (lv_at hl 3 rfl) ?_
  obtain ⟨mc9, ms10, hcm, hzm, hw⟩ := hw
  refine cA_iU (As := []) (rest := []) hx hb hml hown hts hK hC hN hP hD hS hA hcm hzm hl.1 (va_recv (q0 := 1) (ci := 2) (q := (R_SB, F_SB, 4)) hK hP rfl rfl) (qA_5 hts ⟨Nat.le_of_ble_eq_true rfl, Nat.le_of_ble_eq_true rfl⟩) (c_AB_isLatin1 l g H.size _  _ _ _ hw) rfl rfl (Nat.le_of_ble_eq_true rfl) d_St_initA_16 (fun r12 S11 H locs hw hP hD hS => ?_)
  obtain ⟨hc9, hw⟩ := hw
  refine lv_if_eq hx hb d_St_initA_19 (tgt := 41) (by decide) (fun hc => absurd hc hc9) (fun hc => ?_)
  refine lv_aload_n hx hb d_St_initA_22 rfl (lv_at hl 2 rfl) ?_
  refine lv_iconst (v := 0) hx hb d_St_initA_23 (by decide) ?_
  obtain ⟨vs13, ha14, hf15, hk16, hw⟩ := hw
  refine ppF_C (S := S11) (vs := vs13) (v := .int (0)) (C := R_St) (F := F_St) (N := 4) hx hb hts hin_St t_St t_St_ok n_St hown hK hP hD hS ha14 hf15 rfl 1 (by decide) rfl hmn rfl rfl rfl hk16 k_C_284 d_St_initA_24 (fun H locs hP hD hS => ?_)
  have hP : va_P g.1 classes (wC g (S11.1, S11.2.1, S11.2.2.1, S11.2.2.2.1, S11.2.2.2.2.1, S11.2.2.2.2.2.1, (va_up S11.2.2.2.2.2.2 h0 (.inr (3, vs13.set 1 (.int (0))))))) H := hP
  have hD : va_D A (wC g (S11.1, S11.2.1, S11.2.2.1, S11.2.2.2.1, S11.2.2.2.2.1, S11.2.2.2.2.2.1, (va_up S11.2.2.2.2.2.2 h0 (.inr (3, vs13.set 1 (.int (0))))))) := hD
  refine lv_aload_n hx hb d_St_initA_27 rfl (lv_at hl 2 rfl) ?_
  refine lv_aload_nq hx hb d_St_initA_28 rfl (lv_at hl 1 rfl) ?_
  obtain ⟨y17, hy18, hw⟩ := hw
  refine W_rf hy18 ?_
  refine lv_iconst (v := 0) hx hb d_St_initA_29 (by decide) ?_
  refine lv_iload hx hb d_St_initA_30 (lv_at hl 0 rfl) ?_
  obtain ⟨mc19, ms20, hcm, hzm, hw⟩ := hw
  refine cA_qS (As := [.ref (y17), .int (0), .int (r8)]) (rest := [.ref (h0)]) hx hb hml hown hts hK hC hN hP hD hS hA hcm hzm hl.1  (qA_6 hts ⟨Nat.le_of_ble_eq_true rfl, Nat.le_of_ble_eq_true rfl⟩) (c_Ar_copyOfRange l g H.size _ (y17) (0) (r8) _ _ _ hw) rfl rfl (Nat.le_of_ble_eq_true rfl) d_St_initA_32 (fun r22 S21 H locs hw hP hD hS => ?_)
  obtain ⟨y23, hy24, hw⟩ := hw
  refine W_rf hy24 ?_
  obtain ⟨vs25, ha26, hf27, hk28, hw⟩ := hw
  refine ppF_C (S := S21) (vs := vs25) (v := .ref (y23)) (C := R_St) (F := F_St) (N := 4) hx hb hts hin_St t_St t_St_ok n_St hown hK hP hD hS ha26 hf27 rfl 0 (by decide) rfl hmn rfl rfl rfl hk28 k_C_283 d_St_initA_35 (fun H locs hP hD hS => ?_)
  have hP : va_P g.1 classes (wC g (S21.1, S21.2.1, S21.2.2.1, S21.2.2.2.1, S21.2.2.2.2.1, S21.2.2.2.2.2.1, (va_up S21.2.2.2.2.2.2 h0 (.inr (3, vs25.set 0 (.ref (y23))))))) H := hP
  have hD : va_D A (wC g (S21.1, S21.2.1, S21.2.2.1, S21.2.2.2.1, S21.2.2.2.2.1, S21.2.2.2.2.2.1, (va_up S21.2.2.2.2.2.2 h0 (.inr (3, vs25.set 0 (.ref (y23))))))) := hD
  refine lv_goto hx hb d_St_initA_38 (tgt := 97) (by decide) ?_
  exact J97 (S21.1, S21.2.1, S21.2.2.1, S21.2.2.2.1, S21.2.2.2.2.1, S21.2.2.2.2.2.1, (va_up S21.2.2.2.2.2.2 h0 (.inr (3, vs25.set 0 (.ref (y23)))))) (((((0 + mc1) + mc5) + mc9) + mc19)) (((((0 + ms2) + ms6) + ms10) + ms20)) _ _ _ hcm hzm hw (lv_sub hl [] rfl) hP hD hS
theorem qA_7 {R : Room} {s : State} {args : Array Value} {mc1 ms1 : Nat} (hts : ∀ w ∈ w_C, w.before args s = true) (hR : (rmA 3 86 mc1 ms1).frames + 1 ≤ R.frames ∧ 8 + (5 + 11) + (rmA 3 86 mc1 ms1).locals ≤ R.locals) : CallB R s args "java/lang/String" 489 y_St_initA b_St_initA 5 none (.code y_St_initA b_St_initA 5 none :: w_C) (rmA 3 86 mc1 ms1) mc1 ms1 2 ∧ y_St_initA.name = "<init>" ∧ (Cond.instanceMethod y_St_initA).before args s = true := ⟨callB_of 2 hts (good_C k_C_251) rfl rfl rfl (hts _ k_C_3) (hts _ k_C_249) ⟨by decide +kernel, by decide +kernel, by decide +kernel⟩ hR, rfl, hts _ k_C_250⟩
theorem d_St_initS_0 : decode b_St_initS 0 = .ok (.aload_n 0, 1) := by decide +kernel
theorem d_St_initS_1 : decode b_St_initS 1 = .ok (.aload_n 1, 1) := by decide +kernel
theorem d_St_initS_2 : decode b_St_initS 2 = .ok (.aconst_null, 1) := by decide +kernel
theorem d_St_initS_3 : decode b_St_initS 3 = .ok (.invokespecial 489, 3) := by decide +kernel
theorem d_St_initS_6 : decode b_St_initS 6 = .ok (.return_, 1) := by decide +kernel
def wp_St_initS (g : Gm) (post : StC → Prop) (mc ms : Nat) (S : StC) (h0 : Nat) : Prop :=
  ∃ (mc1 : Nat) (ms2 : Nat), (0 + mc1 ≤ mc) ∧ (0 + ms2 ≤ ms) ∧ (wp_St_initA g (fun S3 : StC => (post S3)) mc1 ms2 S (h0) (none))
set_option maxRecDepth 100000 in
set_option maxHeartbeats 4000000 in
theorem c_St_initS (l : Launch) (g : Gm) (sz : Nat) (S : StC) (h0 : Nat) (post : StC → Prop) (mc ms : Nat) (hw : wp_St_initS g post mc ms S h0) : Met l y_St_initS (.code y_St_initS b_St_initS 2 none :: w_C) (rmA 4 110 mc ms) (va_Pc [.ref (h0), .ref (g.2.2 1)] (PC g sz S)) (va_Qv post (BC g (AC g sz S)) (AC g sz S)) mc ms (AC g sz S) := by
  refine ofA_v (by decide) (Nat.le_of_ble_eq_true rfl) (fun p e s m args below meth c Q A H locs ls hx hb hml hts hown hK hA hC hN hmn kr hl hP hD hS => ?_)
  have hl : lv_has ls 2 [(0, .ref (h0)), (1, .ref (g.2.2 1))] := hl
  unfold wp_St_initS at hw
  have hcm : 0 ≤ mc := Nat.zero_le _
  have hzm : 0 ≤ ms := Nat.zero_le _
  refine lv_aload_n hx hb d_St_initS_0 rfl (lv_at hl 0 rfl) ?_
  refine lv_aload_n hx hb d_St_initS_1 rfl (lv_at hl 1 rfl) ?_
  refine lv_null hx hb d_St_initS_2 ?_
  obtain ⟨mc1, ms2, hcm, hzm, hw⟩ := hw
  refine cA_vI (As := [.ref (g.2.2 1), va_rf (none)]) (rest := []) hx hb hml hown hts hK hC hN hP hD hS hA hcm hzm hl.1  (qA_7 hts ⟨Nat.le_of_ble_eq_true rfl, Nat.le_of_ble_eq_true rfl⟩) (c_St_initA l g H.size _ (h0) (none) _ _ _ hw) rfl rfl (Nat.le_of_ble_eq_true rfl) d_St_initS_3 (fun S3 H locs hw hP hD hS => ?_)
  exact kr S3 _ _ _ _ _ _ hcm hzm hw hP hD hS d_St_initS_6
theorem qA_8 {R : Room} {s : State} {args : Array Value} {mc1 ms1 : Nat} (hts : ∀ w ∈ w_C, w.before args s = true) (hR : (rmA 4 110 mc1 ms1).frames + 1 ≤ R.frames ∧ 8 + (2 + 11) + (rmA 4 110 mc1 ms1).locals ≤ R.locals) : CallB R s args "java/lang/StringBuilder" 137 y_St_initS b_St_initS 2 none (.code y_St_initS b_St_initS 2 none :: w_C) (rmA 4 110 mc1 ms1) mc1 ms1 1 ∧ y_St_initS.name = "<init>" ∧ (Cond.instanceMethod y_St_initS).before args s = true := ⟨callB_of 1 hts (good_C k_C_248) rfl rfl rfl (hts _ k_C_3) (hts _ k_C_246) ⟨by decide +kernel, by decide +kernel, by decide +kernel⟩ hR, rfl, hts _ k_C_247⟩
theorem d_SB_toString_0 : decode b_SB_toString 0 = .ok (.new 18, 3) := by decide +kernel
theorem d_SB_toString_3 : decode b_SB_toString 3 = .ok (.dup, 1) := by decide +kernel
theorem d_SB_toString_4 : decode b_SB_toString 4 = .ok (.aload_n 0, 1) := by decide +kernel
theorem d_SB_toString_5 : decode b_SB_toString 5 = .ok (.invokespecial 137, 3) := by decide +kernel
theorem d_SB_toString_8 : decode b_SB_toString 8 = .ok (.areturn, 1) := by decide +kernel
def wp_SB_toString (g : Gm) (post : Option Nat → StC → Prop) (mc ms : Nat) (S : StC)  : Prop :=
  (0 + 1 ≤ mc) ∧ (0 + 4 ≤ ms) ∧ (∀ q1 : Nat, q1 ∉ S.2.2.2.2.2.1 → ∃ (mc3 : Nat) (ms4 : Nat), ((0 + 1) + mc3 ≤ mc) ∧ ((0 + 4) + ms4 ≤ ms) ∧ (wp_St_initS g (fun S5 : StC => (post (some (q1)) S5)) mc3 ms4 (S.1, S.2.1, S.2.2.1, S.2.2.2.1, S.2.2.2.2.1, (S.2.2.2.2.2.1 ++ [q1]), (va_up S.2.2.2.2.2.2 q1 (.inr (3, [.null, .int 0, .int 0, .int 0])))) (q1)))
set_option maxRecDepth 100000 in
set_option maxHeartbeats 4000000 in
theorem c_SB_toString (l : Launch) (g : Gm) (sz : Nat) (S : StC)  (post : Option Nat → StC → Prop) (mc ms : Nat) (hw : wp_SB_toString g post mc ms S ) : Met l y_SB_toString (.code y_SB_toString b_SB_toString 1 (some (.object "java/lang/String")) :: w_C) (rmA 5 131 mc ms) (va_Pc [.ref (g.2.2 1)] (PC g sz S)) (va_Qq post (BC g (AC g sz S)) (AC g sz S)) mc ms (AC g sz S) := by
  refine ofA_q (Or.inl ⟨_, rfl⟩) (by decide) (Nat.le_of_ble_eq_true rfl) (fun p e s m args below meth c Q A H locs ls hx hb hml hts hown hK hA hC hN hmn kr hl hP hD hS => ?_)
  have hl : lv_has ls 1 [(0, .ref (g.2.2 1))] := hl
  unfold wp_SB_toString at hw
  have hcm : 0 ≤ mc := Nat.zero_le _
  have hzm : 0 ≤ ms := Nat.zero_le _
  obtain ⟨hcm, hzm, hw⟩ := hw
  refine pn_C (S := S) (fs := [.null, .int 0, .int 0, .int 0]) (C := R_St) (F := F_St) (N := 4) (ci := 3) hx hb hts hin_St t_St t_St_ok hown k_C_244 k_C_245 k_C_3 hK hP hD hS hA rfl (fun j hj => by rcases (show j = 0 ∨ j = 1 ∨ j = 2 ∨ j = 3 by omega) with rfl | rfl | rfl | rfl <;> rfl) hcm hzm d_SB_toString_0 (fun q1 H hq2 hP hD hS => ?_)
  have hP : va_P g.1 classes (wC g (S.1, S.2.1, S.2.2.1, S.2.2.2.1, S.2.2.2.2.1, (S.2.2.2.2.2.1 ++ [q1]), (va_up S.2.2.2.2.2.2 q1 (.inr (3, [.null, .int 0, .int 0, .int 0]))))) H := hP
  have hD : va_D A (wC g (S.1, S.2.1, S.2.2.1, S.2.2.2.1, S.2.2.2.2.1, (S.2.2.2.2.2.1 ++ [q1]), (va_up S.2.2.2.2.2.2 q1 (.inr (3, [.null, .int 0, .int 0, .int 0]))))) := hD
  have hw := hw q1 hq2
  refine lv_dup hx hb d_SB_toString_3 rfl ?_
  refine lv_aload_n hx hb d_SB_toString_4 rfl (lv_at hl 0 rfl) ?_
  obtain ⟨mc3, ms4, hcm, hzm, hw⟩ := hw
  refine cA_vI (As := [.ref (g.2.2 1)]) (rest := [.ref (q1)]) hx hb hml hown hts hK hC hN hP hD hS hA hcm hzm hl.1  (qA_8 hts ⟨Nat.le_of_ble_eq_true rfl, Nat.le_of_ble_eq_true rfl⟩) (c_St_initS l g H.size _ (q1) _ _ _ hw) rfl rfl (Nat.le_of_ble_eq_true rfl) d_SB_toString_5 (fun S5 H locs hw hP hD hS => ?_)
  exact kr (some (q1)) S5 _ _ _ _ _ _ hcm hzm hw hP hD hS d_SB_toString_8
theorem d_As_newLength_0 : decode b_As_newLength 0 = .ok (.iload_n 0, 1) := by decide +kernel
theorem d_As_newLength_1 : decode b_As_newLength 1 = .ok (.iload_n 1, 1) := by decide +kernel
theorem d_As_newLength_2 : decode b_As_newLength 2 = .ok (.iload_n 2, 1) := by decide +kernel
theorem d_As_newLength_3 : decode b_As_newLength 3 = .ok (.invokestatic 194, 3) := by decide +kernel
theorem d_As_newLength_6 : decode b_As_newLength 6 = .ok (.iadd, 1) := by decide +kernel
theorem d_As_newLength_7 : decode b_As_newLength 7 = .ok (.istore_n 3, 1) := by decide +kernel
theorem d_As_newLength_8 : decode b_As_newLength 8 = .ok (.iconst 0, 1) := by decide +kernel
theorem d_As_newLength_9 : decode b_As_newLength 9 = .ok (.iload_n 3, 1) := by decide +kernel
theorem d_As_newLength_10 : decode b_As_newLength 10 = .ok (.if_icmp .ge 11, 3) := by decide +kernel
theorem d_As_newLength_13 : decode b_As_newLength 13 = .ok (.iload_n 3, 1) := by decide +kernel
theorem d_As_newLength_14 : decode b_As_newLength 14 = .ok (.ldc 200, 2) := by decide +kernel
theorem d_As_newLength_16 : decode b_As_newLength 16 = .ok (.if_icmp .gt 5, 3) := by decide +kernel
theorem d_As_newLength_19 : decode b_As_newLength 19 = .ok (.iload_n 3, 1) := by decide +kernel
theorem d_As_newLength_20 : decode b_As_newLength 20 = .ok (.ireturn, 1) := by decide +kernel
theorem d_As_newLength_21 : decode b_As_newLength 21 = .ok (.iload_n 0, 1) := by decide +kernel
theorem d_As_newLength_22 : decode b_As_newLength 22 = .ok (.iload_n 1, 1) := by decide +kernel
theorem d_As_newLength_23 : decode b_As_newLength 23 = .ok (.invokestatic 201, 3) := by decide +kernel
theorem d_As_newLength_26 : decode b_As_newLength 26 = .ok (.ireturn, 1) := by decide +kernel
def wp_As_newLength (g : Gm) (post : Int32 → StC → Prop) (mc ms : Nat) (S : StC) (a0 : Int32) (a1 : Int32) (a2 : Int32) : Prop :=
  (¬ ((a0 + (if (a1 : Int32) < a2 then a2 else a1)) ≤ (0 : Int32))) ∧ ((¬ (2147483639 < (a0 + (if (a1 : Int32) < a2 then a2 else a1)))) ∧ (post ((a0 + (if (a1 : Int32) < a2 then a2 else a1))) S))
set_option maxRecDepth 100000 in
set_option maxHeartbeats 4000000 in
theorem c_As_newLength (l : Launch) (g : Gm) (sz : Nat) (S : StC) (a0 : Int32) (a1 : Int32) (a2 : Int32) (post : Int32 → StC → Prop) (mc ms : Nat) (hw : wp_As_newLength g post mc ms S a0 a1 a2) : Met l y_As_newLength (.code y_As_newLength b_As_newLength 4 (some .int) :: w_C) (rmA 1 21 mc ms) (va_Pc [.int (a0), .int (a1), .int (a2)] (PC g sz S)) (va_Qi post (BC g (AC g sz S)) (AC g sz S)) mc ms (AC g sz S) := by
  refine ofA_i (by decide) (Nat.le_of_ble_eq_true rfl) (fun p e s m args below meth c Q A H locs ls hx hb hml hts hown hK hA hC hN hmn kr hl hP hD hS => ?_)
  have hl : lv_has ls 4 [(0, .int (a0)), (1, .int (a1)), (2, .int (a2))] := hl
  unfold wp_As_newLength at hw
  have hcm : 0 ≤ mc := Nat.zero_le _
  have hzm : 0 ≤ ms := Nat.zero_le _
  refine lv_iload_n hx hb d_As_newLength_0 rfl (lv_at hl 0 rfl) ?_
  refine lv_iload_n hx hb d_As_newLength_1 rfl (lv_at hl 1 rfl) ?_
  refine lv_iload_n hx hb d_As_newLength_2 rfl (lv_at hl 2 rfl) ?_
  refine va_mmax hx hb (hml.trans hl.1.symm) hown (hts _ k_C_166) (hts _ k_C_167) (hts _ k_C_13) (hts _ k_C_168) (Nat.le_of_ble_eq_true rfl) (Nat.le_of_ble_eq_true rfl) hcm hzm d_As_newLength_3 ?_
  refine lv_iadd hx hb d_As_newLength_6 ?_
  refine lv_istore_n (lv' := [(3, .int ((a0 + (if (a1 : Int32) < a2 then a2 else a1)))), (0, .int (a0)), (1, .int (a1)), (2, .int (a2))]) hx hb d_As_newLength_7 rfl hl (by decide) rfl (fun ls hl => ?_)
  refine lv_iconst (v := 0) hx hb d_As_newLength_8 (by decide) ?_
  refine lv_iload_n hx hb d_As_newLength_9 rfl (lv_at hl 0 rfl) ?_
  obtain ⟨hc9, hw⟩ := hw
  refine lv_icmp_ge hx hb d_As_newLength_10 (tgt := 21) (by decide) (fun hc => absurd hc hc9) (fun hc => ?_)
  refine lv_iload_n hx hb d_As_newLength_13 rfl (lv_at hl 0 rfl) ?_
  refine lv_ldc (v := 2147483639) hx hb hown (hts _ k_C_169) d_As_newLength_14 ?_
  obtain ⟨hc9, hw⟩ := hw
  refine lv_icmp_gt hx hb d_As_newLength_16 (tgt := 21) (by decide) (fun hc => absurd hc hc9) (fun hc => ?_)
  refine lv_iload_n hx hb d_As_newLength_19 rfl (lv_at hl 0 rfl) ?_
  exact kr ((a0 + (if (a1 : Int32) < a2 then a2 else a1))) S _ _ _ _ _ _ hcm hzm hw hP hD hS d_As_newLength_20
theorem qA_9 {R : Room} {s : State} {args : Array Value} {mc1 ms1 : Nat} (hts : ∀ w ∈ w_C, w.before args s = true) (hR : (rmA 1 21 mc1 ms1).frames + 1 ≤ R.frames ∧ 8 + (4 + 11) + (rmA 1 21 mc1 ms1).locals ≤ R.locals) : CallB R s args "java/lang/AbstractStringBuilder" 114 y_As_newLength b_As_newLength 4 (some .int) (.code y_As_newLength b_As_newLength 4 (some .int) :: w_C) (rmA 1 21 mc1 ms1) mc1 ms1 3 ∧ (Cond.static y_As_newLength).before args s = true := ⟨callB_of 3 hts (good_C k_C_165) rfl rfl rfl (hts _ k_C_12) (hts _ k_C_163) ⟨by decide +kernel, by decide +kernel, by decide +kernel⟩ hR, hts _ k_C_164⟩
theorem d_AB_newCapacity_0 : decode b_AB_newCapacity 0 = .ok (.aload_n 0, 1) := by decide +kernel
theorem d_AB_newCapacity_1 : decode b_AB_newCapacity 1 = .ok (.getfield 15, 3) := by decide +kernel
theorem d_AB_newCapacity_4 : decode b_AB_newCapacity 4 = .ok (.arraylength, 1) := by decide +kernel
theorem d_AB_newCapacity_5 : decode b_AB_newCapacity 5 = .ok (.istore_n 2, 1) := by decide +kernel
theorem d_AB_newCapacity_6 : decode b_AB_newCapacity 6 = .ok (.iload_n 1, 1) := by decide +kernel
theorem d_AB_newCapacity_7 : decode b_AB_newCapacity 7 = .ok (.aload_n 0, 1) := by decide +kernel
theorem d_AB_newCapacity_8 : decode b_AB_newCapacity 8 = .ok (.getfield 22, 3) := by decide +kernel
theorem d_AB_newCapacity_11 : decode b_AB_newCapacity 11 = .ok (.ishl, 1) := by decide +kernel
theorem d_AB_newCapacity_12 : decode b_AB_newCapacity 12 = .ok (.istore_n 3, 1) := by decide +kernel
theorem d_AB_newCapacity_13 : decode b_AB_newCapacity 13 = .ok (.iload_n 3, 1) := by decide +kernel
theorem d_AB_newCapacity_14 : decode b_AB_newCapacity 14 = .ok (.iload_n 2, 1) := by decide +kernel
theorem d_AB_newCapacity_15 : decode b_AB_newCapacity 15 = .ok (.isub, 1) := by decide +kernel
theorem d_AB_newCapacity_16 : decode b_AB_newCapacity 16 = .ok (.istore 4, 2) := by decide +kernel
theorem d_AB_newCapacity_18 : decode b_AB_newCapacity 18 = .ok (.iload_n 2, 1) := by decide +kernel
theorem d_AB_newCapacity_19 : decode b_AB_newCapacity 19 = .ok (.iload 4, 2) := by decide +kernel
theorem d_AB_newCapacity_21 : decode b_AB_newCapacity 21 = .ok (.iload_n 2, 1) := by decide +kernel
theorem d_AB_newCapacity_22 : decode b_AB_newCapacity 22 = .ok (.iconst 2, 1) := by decide +kernel
theorem d_AB_newCapacity_23 : decode b_AB_newCapacity 23 = .ok (.aload_n 0, 1) := by decide +kernel
theorem d_AB_newCapacity_24 : decode b_AB_newCapacity 24 = .ok (.getfield 22, 3) := by decide +kernel
theorem d_AB_newCapacity_27 : decode b_AB_newCapacity 27 = .ok (.ishl, 1) := by decide +kernel
theorem d_AB_newCapacity_28 : decode b_AB_newCapacity 28 = .ok (.iadd, 1) := by decide +kernel
theorem d_AB_newCapacity_29 : decode b_AB_newCapacity 29 = .ok (.invokestatic 114, 3) := by decide +kernel
theorem d_AB_newCapacity_32 : decode b_AB_newCapacity 32 = .ok (.istore 5, 2) := by decide +kernel
theorem d_AB_newCapacity_34 : decode b_AB_newCapacity 34 = .ok (.iload 5, 2) := by decide +kernel
theorem d_AB_newCapacity_36 : decode b_AB_newCapacity 36 = .ok (.ldc 39, 2) := by decide +kernel
theorem d_AB_newCapacity_38 : decode b_AB_newCapacity 38 = .ok (.if_icmp .ne 13, 3) := by decide +kernel
theorem d_AB_newCapacity_41 : decode b_AB_newCapacity 41 = .ok (.new 120, 3) := by decide +kernel
theorem d_AB_newCapacity_44 : decode b_AB_newCapacity 44 = .ok (.dup, 1) := by decide +kernel
theorem d_AB_newCapacity_45 : decode b_AB_newCapacity 45 = .ok (.ldc 122, 2) := by decide +kernel
theorem d_AB_newCapacity_47 : decode b_AB_newCapacity 47 = .ok (.invokespecial 124, 3) := by decide +kernel
theorem d_AB_newCapacity_50 : decode b_AB_newCapacity 50 = .ok (.athrow, 1) := by decide +kernel
theorem d_AB_newCapacity_51 : decode b_AB_newCapacity 51 = .ok (.iload 5, 2) := by decide +kernel
theorem d_AB_newCapacity_53 : decode b_AB_newCapacity 53 = .ok (.aload_n 0, 1) := by decide +kernel
theorem d_AB_newCapacity_54 : decode b_AB_newCapacity 54 = .ok (.getfield 22, 3) := by decide +kernel
theorem d_AB_newCapacity_57 : decode b_AB_newCapacity 57 = .ok (.ishr, 1) := by decide +kernel
theorem d_AB_newCapacity_58 : decode b_AB_newCapacity 58 = .ok (.ireturn, 1) := by decide +kernel
def wp_AB_newCapacity (g : Gm) (post : Int32 → StC → Prop) (mc ms : Nat) (S : StC) (a0 : Int32) : Prop :=
  ∃ (n1 : Nat) (f2 : Nat → Int32), ((S.2.2.1 0) ∈ S.2.2.2.2.2.1) ∧ (S.2.2.2.2.2.2 (S.2.2.1 0) = .inl (g.2.1 3, n1, .inl f2)) ∧ (∃ (mc5 : Nat) (ms6 : Nat), (0 + mc5 ≤ mc) ∧ (0 + ms6 ≤ ms) ∧ (wp_As_newLength g (fun (r8 : Int32) (S7 : StC) => ((¬ (r8 = 2147483647)) ∧ (post ((r8 >>> ((S7.1 0) &&& 31))) S7))) mc5 ms6 S ((Int32.ofNat n1)) (((a0 <<< ((S.1 0) &&& 31)) - (Int32.ofNat n1))) (((Int32.ofNat n1) + (2 <<< ((S.1 0) &&& 31))))))
set_option maxRecDepth 100000 in
set_option maxHeartbeats 4000000 in
theorem c_AB_newCapacity (l : Launch) (g : Gm) (sz : Nat) (S : StC) (a0 : Int32) (post : Int32 → StC → Prop) (mc ms : Nat) (hw : wp_AB_newCapacity g post mc ms S a0) : Met l y_AB_newCapacity (.code y_AB_newCapacity b_AB_newCapacity 6 (some .int) :: w_C) (rmA 2 44 mc ms) (va_Pc [.ref (g.2.2 1), .int (a0)] (PC g sz S)) (va_Qi post (BC g (AC g sz S)) (AC g sz S)) mc ms (AC g sz S) := by
  refine ofA_i (by decide) (Nat.le_of_ble_eq_true rfl) (fun p e s m args below meth c Q A H locs ls hx hb hml hts hown hK hA hC hN hmn kr hl hP hD hS => ?_)
  have hl : lv_has ls 6 [(0, .ref (g.2.2 1)), (1, .int (a0))] := hl
  unfold wp_AB_newCapacity at hw
  have hcm : 0 ≤ mc := Nat.zero_le _
  have hzm : 0 ≤ ms := Nat.zero_le _
  refine lv_aload_n hx hb d_AB_newCapacity_0 rfl (lv_at hl 0 rfl) ?_
  refine va_get (D := g.1) (ci := 2) (v := .ref ((S.2.2.1 0))) (C := R_SB) (T := F_SB) (N := 4) hx hb hts hin_SB hown hK hP 1 rfl rfl 0 (by decide) (hts _ k_C_45) (fun _ h9 => h9) rfl d_AB_newCapacity_1 ?_
  obtain ⟨n1, f2, ha3, hf4, hw⟩ := hw
  refine pal_C (S := S) hx hb hK hP ha3 hf4 d_AB_newCapacity_4 ?_
  refine lv_istore_n (lv' := [(2, .int ((Int32.ofNat n1))), (0, .ref (g.2.2 1)), (1, .int (a0))]) hx hb d_AB_newCapacity_5 rfl hl (by decide) rfl (fun ls hl => ?_)
  refine lv_iload_n hx hb d_AB_newCapacity_6 rfl (lv_at hl 2 rfl) ?_
  refine lv_aload_n hx hb d_AB_newCapacity_7 rfl (lv_at hl 1 rfl) ?_
  refine va_get (D := g.1) (ci := 2) (v := .int ((S.1 0))) (C := R_SB) (T := F_SB) (N := 4) hx hb hts hin_SB hown hK hP 1 rfl rfl 1 (by decide) (hts _ k_C_46) (fun _ h9 => h9) rfl d_AB_newCapacity_8 ?_
  refine lv_ishl hx hb d_AB_newCapacity_11 ?_
  refine lv_istore_n (lv' := [(3, .int ((a0 <<< ((S.1 0) &&& 31)))), (2, .int ((Int32.ofNat n1))), (0, .ref (g.2.2 1)), (1, .int (a0))]) hx hb d_AB_newCapacity_12 rfl hl (by decide) rfl (fun ls hl => ?_)
  refine lv_iload_n hx hb d_AB_newCapacity_13 rfl (lv_at hl 0 rfl) ?_
  refine lv_iload_n hx hb d_AB_newCapacity_14 rfl (lv_at hl 1 rfl) ?_
  refine lv_isub hx hb d_AB_newCapacity_15 ?_
  refine lv_istore (lv' := [(4, .int (((a0 <<< ((S.1 0) &&& 31)) - (Int32.ofNat n1)))), (3, .int ((a0 <<< ((S.1 0) &&& 31)))), (2, .int ((Int32.ofNat n1))), (0, .ref (g.2.2 1)), (1, .int (a0))]) hx hb d_AB_newCapacity_16 hl (by decide) rfl (fun ls hl => ?_)
  refine lv_iload_n hx hb d_AB_newCapacity_18 rfl (lv_at hl 2 rfl) ?_
  refine lv_iload hx hb d_AB_newCapacity_19 (lv_at hl 0 rfl) ?_
  refine lv_iload_n hx hb d_AB_newCapacity_21 rfl (lv_at hl 2 rfl) ?_
  refine lv_iconst (v := 2) hx hb d_AB_newCapacity_22 (by decide) ?_
  refine lv_aload_n hx hb d_AB_newCapacity_23 rfl (lv_at hl 3 rfl) ?_
  refine va_get (D := g.1) (ci := 2) (v := .int ((S.1 0))) (C := R_SB) (T := F_SB) (N := 4) hx hb hts hin_SB hown hK hP 1 rfl rfl 1 (by decide) (hts _ k_C_46) (fun _ h9 => h9) rfl d_AB_newCapacity_24 ?_
  refine lv_ishl hx hb d_AB_newCapacity_27 ?_
  refine lv_iadd hx hb d_AB_newCapacity_28 ?_
  obtain ⟨mc5, ms6, hcm, hzm, hw⟩ := hw
  refine cA_iS (As := [.int ((Int32.ofNat n1)), .int (((a0 <<< ((S.1 0) &&& 31)) - (Int32.ofNat n1))), .int (((Int32.ofNat n1) + (2 <<< ((S.1 0) &&& 31))))]) (rest := []) hx hb hml hown hts hK hC hN hP hD hS hA hcm hzm hl.1  (qA_9 hts ⟨Nat.le_of_ble_eq_true rfl, Nat.le_of_ble_eq_true rfl⟩) (c_As_newLength l g H.size _ ((Int32.ofNat n1)) (((a0 <<< ((S.1 0) &&& 31)) - (Int32.ofNat n1))) (((Int32.ofNat n1) + (2 <<< ((S.1 0) &&& 31)))) _ _ _ hw) rfl rfl (Nat.le_of_ble_eq_true rfl) d_AB_newCapacity_29 (fun r8 S7 H locs hw hP hD hS => ?_)
  refine lv_istore (lv' := [(5, .int (r8)), (4, .int (((a0 <<< ((S.1 0) &&& 31)) - (Int32.ofNat n1)))), (3, .int ((a0 <<< ((S.1 0) &&& 31)))), (2, .int ((Int32.ofNat n1))), (0, .ref (g.2.2 1)), (1, .int (a0))]) hx hb d_AB_newCapacity_32 hl (by decide) rfl (fun ls hl => ?_)
  refine lv_iload hx hb d_AB_newCapacity_34 (lv_at hl 0 rfl) ?_
  refine lv_ldc (v := 2147483647) hx hb hown (hts _ k_C_173) d_AB_newCapacity_36 ?_
  obtain ⟨hc9, hw⟩ := hw
  refine lv_icmp_ne hx hb d_AB_newCapacity_38 (tgt := 51) (by decide) (fun hc => ?_) (fun hc => absurd hc hc9)
  refine lv_iload hx hb d_AB_newCapacity_51 (lv_at hl 0 rfl) ?_
  refine lv_aload_n hx hb d_AB_newCapacity_53 rfl (lv_at hl 4 rfl) ?_
  refine va_get (D := g.1) (ci := 2) (v := .int ((S7.1 0))) (C := R_SB) (T := F_SB) (N := 4) hx hb hts hin_SB hown hK hP 1 rfl rfl 1 (by decide) (hts _ k_C_46) (fun _ h9 => h9) rfl d_AB_newCapacity_54 ?_
  refine lv_ishr hx hb d_AB_newCapacity_57 ?_
  exact kr ((r8 >>> ((S7.1 0) &&& 31))) S7 _ _ _ _ _ _ hcm hzm hw hP hD hS d_AB_newCapacity_58
theorem d_Ar_copyOf_0 : decode b_Ar_copyOf 0 = .ok (.iload_n 1, 1) := by decide +kernel
theorem d_Ar_copyOf_1 : decode b_Ar_copyOf 1 = .ok (.aload_n 0, 1) := by decide +kernel
theorem d_Ar_copyOf_2 : decode b_Ar_copyOf 2 = .ok (.arraylength, 1) := by decide +kernel
theorem d_Ar_copyOf_3 : decode b_Ar_copyOf 3 = .ok (.if_icmp .ne 11, 3) := by decide +kernel
theorem d_Ar_copyOf_6 : decode b_Ar_copyOf 6 = .ok (.aload_n 0, 1) := by decide +kernel
theorem d_Ar_copyOf_7 : decode b_Ar_copyOf 7 = .ok (.invokevirtual 310, 3) := by decide +kernel
theorem d_Ar_copyOf_10 : decode b_Ar_copyOf 10 = .ok (.checkcast 311, 3) := by decide +kernel
theorem d_Ar_copyOf_13 : decode b_Ar_copyOf 13 = .ok (.areturn, 1) := by decide +kernel
theorem d_Ar_copyOf_14 : decode b_Ar_copyOf 14 = .ok (.iload_n 1, 1) := by decide +kernel
theorem d_Ar_copyOf_15 : decode b_Ar_copyOf 15 = .ok (.newarray .byte, 2) := by decide +kernel
theorem d_Ar_copyOf_17 : decode b_Ar_copyOf 17 = .ok (.astore_n 2, 1) := by decide +kernel
theorem d_Ar_copyOf_18 : decode b_Ar_copyOf 18 = .ok (.aload_n 0, 1) := by decide +kernel
theorem d_Ar_copyOf_19 : decode b_Ar_copyOf 19 = .ok (.iconst 0, 1) := by decide +kernel
theorem d_Ar_copyOf_20 : decode b_Ar_copyOf 20 = .ok (.aload_n 2, 1) := by decide +kernel
theorem d_Ar_copyOf_21 : decode b_Ar_copyOf 21 = .ok (.iconst 0, 1) := by decide +kernel
theorem d_Ar_copyOf_22 : decode b_Ar_copyOf 22 = .ok (.aload_n 0, 1) := by decide +kernel
theorem d_Ar_copyOf_23 : decode b_Ar_copyOf 23 = .ok (.arraylength, 1) := by decide +kernel
theorem d_Ar_copyOf_24 : decode b_Ar_copyOf 24 = .ok (.iload_n 1, 1) := by decide +kernel
theorem d_Ar_copyOf_25 : decode b_Ar_copyOf 25 = .ok (.invokestatic 304, 3) := by decide +kernel
theorem d_Ar_copyOf_28 : decode b_Ar_copyOf 28 = .ok (.invokestatic 150, 3) := by decide +kernel
theorem d_Ar_copyOf_31 : decode b_Ar_copyOf 31 = .ok (.aload_n 2, 1) := by decide +kernel
theorem d_Ar_copyOf_32 : decode b_Ar_copyOf 32 = .ok (.areturn, 1) := by decide +kernel
def wp_Ar_copyOf (g : Gm) (post : Option Nat → StC → Prop) (mc ms : Nat) (S : StC) (a0 : Nat) (a1 : Int32) : Prop :=
  ∃ (n1 : Nat) (f2 : Nat → Int32), (a0 ∈ S.2.2.2.2.2.1) ∧ (S.2.2.2.2.2.2 a0 = .inl (g.2.1 3, n1, .inl f2)) ∧ ((¬ (a1 = (Int32.ofNat n1))) ∧ ((¬ (a1 : Int32) < 0) ∧ ((Int32.toNatClampNeg (a1)) * 1 ≤ 536870912) ∧ (0 + 1 ≤ mc) ∧ (0 + (Int32.toNatClampNeg (a1)) ≤ ms) ∧ (∀ q5 : Nat, q5 ∉ S.2.2.2.2.2.1 → ∃ (n7 : Nat) (f8 : Nat → Int32), (a0 ∈ (S.2.2.2.2.2.1 ++ [q5])) ∧ ((va_up S.2.2.2.2.2.2 q5 (.inl (g.2.1 3, (Int32.toNatClampNeg (a1)), .inl (fun _ => 0)))) a0 = .inl (g.2.1 3, n7, .inl f8)) ∧ (∃ (n11 : Nat) (f12 : Nat → Int32) (n13 : Nat) (f14 : Nat → Int32), (a0 ∈ (S.2.2.2.2.2.1 ++ [q5])) ∧ ((va_up S.2.2.2.2.2.2 q5 (.inl (g.2.1 3, (Int32.toNatClampNeg (a1)), .inl (fun _ => 0)))) a0 = .inl (g.2.1 3, n11, .inl f12)) ∧ (q5 ∈ (S.2.2.2.2.2.1 ++ [q5])) ∧ ((va_up S.2.2.2.2.2.2 q5 (.inl (g.2.1 3, (Int32.toNatClampNeg (a1)), .inl (fun _ => 0)))) q5 = .inl (g.2.1 3, n13, .inl f14)) ∧ (cpyB n11 n13 f12 0 0 (if (a1 : Int32) < (Int32.ofNat n7) then a1 else (Int32.ofNat n7))) ∧ (post (some (q5)) (S.1, S.2.1, S.2.2.1, S.2.2.2.1, S.2.2.2.2.1, (S.2.2.2.2.2.1 ++ [q5]), (va_up (va_up S.2.2.2.2.2.2 q5 (.inl (g.2.1 3, (Int32.toNatClampNeg (a1)), .inl (fun _ => 0)))) q5 (.inl (g.2.1 3, n13, .inl (va_cpy f12 f14 (Int32.toNatClampNeg (0)) (Int32.toNatClampNeg (0)) (Int32.toNatClampNeg ((if (a1 : Int32) < (Int32.ofNat n7) then a1 else (Int32.ofNat n7))))))))))))))
set_option maxRecDepth 100000 in
set_option maxHeartbeats 4000000 in
theorem c_Ar_copyOf (l : Launch) (g : Gm) (sz : Nat) (S : StC) (a0 : Nat) (a1 : Int32) (post : Option Nat → StC → Prop) (mc ms : Nat) (hw : wp_Ar_copyOf g post mc ms S a0 a1) : Met l y_Ar_copyOf (.code y_Ar_copyOf b_Ar_copyOf 3 (some (.array .byte)) :: w_C) (rmA 1 40 mc ms) (va_Pc [.ref (a0), .int (a1)] (PC g sz S)) (va_Qq post (BC g (AC g sz S)) (AC g sz S)) mc ms (AC g sz S) := by
  refine ofA_q (Or.inr ⟨_, rfl⟩) (by decide) (Nat.le_of_ble_eq_true rfl) (fun p e s m args below meth c Q A H locs ls hx hb hml hts hown hK hA hC hN hmn kr hl hP hD hS => ?_)
  have hl : lv_has ls 3 [(0, .ref (a0)), (1, .int (a1))] := hl
  unfold wp_Ar_copyOf at hw
  have hcm : 0 ≤ mc := Nat.zero_le _
  have hzm : 0 ≤ ms := Nat.zero_le _
  refine lv_iload_n hx hb d_Ar_copyOf_0 rfl (lv_at hl 1 rfl) ?_
  refine lv_aload_n hx hb d_Ar_copyOf_1 rfl (lv_at hl 0 rfl) ?_
  obtain ⟨n1, f2, ha3, hf4, hw⟩ := hw
  refine pal_C (S := S) hx hb hK hP ha3 hf4 d_Ar_copyOf_2 ?_
  obtain ⟨hc9, hw⟩ := hw
  refine lv_icmp_ne hx hb d_Ar_copyOf_3 (tgt := 14) (by decide) (fun hc => ?_) (fun hc => absurd hc hc9)
  refine lv_iload_n hx hb d_Ar_copyOf_14 rfl (lv_at hl 1 rfl) ?_
  obtain ⟨hn9, hb9, hcm, hzm, hw⟩ := hw
  refine pnb_C (S := S) hx hb hts k_C_51 hK hP hD hS hA hn9 hb9 hcm hzm d_Ar_copyOf_15 (fun q5 H hq6 hP hD hS => ?_)
  have hP : va_P g.1 classes (wC g (S.1, S.2.1, S.2.2.1, S.2.2.2.1, S.2.2.2.2.1, (S.2.2.2.2.2.1 ++ [q5]), (va_up S.2.2.2.2.2.2 q5 (.inl (g.2.1 3, (Int32.toNatClampNeg (a1)), .inl (fun _ => 0)))))) H := hP
  have hD : va_D A (wC g (S.1, S.2.1, S.2.2.1, S.2.2.2.1, S.2.2.2.2.1, (S.2.2.2.2.2.1 ++ [q5]), (va_up S.2.2.2.2.2.2 q5 (.inl (g.2.1 3, (Int32.toNatClampNeg (a1)), .inl (fun _ => 0)))))) := hD
  have hw := hw q5 hq6
  refine lv_astore_n (lv' := [(2, .ref (q5)), (0, .ref (a0)), (1, .int (a1))]) hx hb d_Ar_copyOf_17 rfl hl (by decide) rfl (fun ls hl => ?_)
  refine lv_aload_n hx hb d_Ar_copyOf_18 rfl (lv_at hl 1 rfl) ?_
  refine lv_iconst (v := 0) hx hb d_Ar_copyOf_19 (by decide) ?_
  refine lv_aload_n hx hb d_Ar_copyOf_20 rfl (lv_at hl 0 rfl) ?_
  refine lv_iconst (v := 0) hx hb d_Ar_copyOf_21 (by decide) ?_
  refine lv_aload_n hx hb d_Ar_copyOf_22 rfl (lv_at hl 1 rfl) ?_
  obtain ⟨n7, f8, ha9, hf10, hw⟩ := hw
  refine pal_C (S := (S.1, S.2.1, S.2.2.1, S.2.2.2.1, S.2.2.2.2.1, (S.2.2.2.2.2.1 ++ [q5]), (va_up S.2.2.2.2.2.2 q5 (.inl (g.2.1 3, (Int32.toNatClampNeg (a1)), .inl (fun _ => 0)))))) hx hb hK hP ha9 hf10 d_Ar_copyOf_23 ?_
  refine lv_iload_n hx hb d_Ar_copyOf_24 rfl (lv_at hl 2 rfl) ?_
  refine va_mmin hx hb (hml.trans hl.1.symm) hown (hts _ k_C_183) (hts _ k_C_184) (hts _ k_C_13) (hts _ k_C_185) (Nat.le_of_ble_eq_true rfl) (Nat.le_of_ble_eq_true rfl) hcm hzm d_Ar_copyOf_25 ?_
  obtain ⟨n11, f12, n13, f14, h15, h16, h17, h18, h19, hw⟩ := hw
  refine cpyB_C (S := (S.1, S.2.1, S.2.2.1, S.2.2.2.1, S.2.2.2.2.1, (S.2.2.2.2.2.1 ++ [q5]), (va_up S.2.2.2.2.2.2 q5 (.inl (g.2.1 3, (Int32.toNatClampNeg (a1)), .inl (fun _ => 0)))))) hx hb (hml.trans hl.1.symm) hown (hts _ k_C_186) (hts _ k_C_188) (hts _ k_C_187) (hts _ k_C_15) hK hP hD hS h15 h16 h17 h18 h19 (Nat.le_of_ble_eq_true rfl) (Nat.le_of_ble_eq_true rfl) d_Ar_copyOf_28 (fun H locs hP hD hS => ?_)
  have hP : va_P g.1 classes (wC g (S.1, S.2.1, S.2.2.1, S.2.2.2.1, S.2.2.2.2.1, (S.2.2.2.2.2.1 ++ [q5]), (va_up (va_up S.2.2.2.2.2.2 q5 (.inl (g.2.1 3, (Int32.toNatClampNeg (a1)), .inl (fun _ => 0)))) q5 (.inl (g.2.1 3, n13, .inl (va_cpy f12 f14 (Int32.toNatClampNeg (0)) (Int32.toNatClampNeg (0)) (Int32.toNatClampNeg ((if (a1 : Int32) < (Int32.ofNat n7) then a1 else (Int32.ofNat n7)))))))))) H := hP
  have hD : va_D A (wC g (S.1, S.2.1, S.2.2.1, S.2.2.2.1, S.2.2.2.2.1, (S.2.2.2.2.2.1 ++ [q5]), (va_up (va_up S.2.2.2.2.2.2 q5 (.inl (g.2.1 3, (Int32.toNatClampNeg (a1)), .inl (fun _ => 0)))) q5 (.inl (g.2.1 3, n13, .inl (va_cpy f12 f14 (Int32.toNatClampNeg (0)) (Int32.toNatClampNeg (0)) (Int32.toNatClampNeg ((if (a1 : Int32) < (Int32.ofNat n7) then a1 else (Int32.ofNat n7)))))))))) := hD
  refine lv_aload_n hx hb d_Ar_copyOf_31 rfl (lv_at hl 0 rfl) ?_
  exact kr (some (q5)) (S.1, S.2.1, S.2.2.1, S.2.2.2.1, S.2.2.2.2.1, (S.2.2.2.2.2.1 ++ [q5]), (va_up (va_up S.2.2.2.2.2.2 q5 (.inl (g.2.1 3, (Int32.toNatClampNeg (a1)), .inl (fun _ => 0)))) q5 (.inl (g.2.1 3, n13, .inl (va_cpy f12 f14 (Int32.toNatClampNeg (0)) (Int32.toNatClampNeg (0)) (Int32.toNatClampNeg ((if (a1 : Int32) < (Int32.ofNat n7) then a1 else (Int32.ofNat n7))))))))) _ _ _ _ _ _ hcm hzm hw hP hD hS d_Ar_copyOf_32
theorem qA_10 {R : Room} {s : State} {args : Array Value} {mc1 ms1 : Nat} (hts : ∀ w ∈ w_C, w.before args s = true) (hR : (rmA 2 44 mc1 ms1).frames + 1 ≤ R.frames ∧ 8 + (6 + 11) + (rmA 2 44 mc1 ms1).locals ≤ R.locals) : va_CU R s args "java/lang/AbstractStringBuilder" "java/lang/StringBuilder" "java/lang/AbstractStringBuilder" 104 y_AB_newCapacity y_AB_newCapacity b_AB_newCapacity 6 (some .int) (.code y_AB_newCapacity b_AB_newCapacity 6 (some .int) :: w_C) (rmA 2 44 mc1 ms1) mc1 ms1 1 := va_cwU 1 hts (good_U k_C_160 k_C_768 k_C_780 k_C_161 k_C_1 k_C_162) rfl rfl rfl rfl ⟨by decide +kernel, by decide +kernel, by decide +kernel⟩ hR
theorem qA_11 {R : Room} {s : State} {args : Array Value} {mc1 ms1 : Nat} (hts : ∀ w ∈ w_C, w.before args s = true) (hR : (rmA 1 40 mc1 ms1).frames + 1 ≤ R.frames ∧ 8 + (3 + 11) + (rmA 1 40 mc1 ms1).locals ≤ R.locals) : CallB R s args "java/lang/AbstractStringBuilder" 108 y_Ar_copyOf b_Ar_copyOf 3 (some (.array .byte)) (.code y_Ar_copyOf b_Ar_copyOf 3 (some (.array .byte)) :: w_C) (rmA 1 40 mc1 ms1) mc1 ms1 2 ∧ (Cond.static y_Ar_copyOf).before args s = true := ⟨callB_of 2 hts (good_C k_C_176) rfl rfl rfl (hts _ k_C_14) (hts _ k_C_174) ⟨by decide +kernel, by decide +kernel, by decide +kernel⟩ hR, hts _ k_C_175⟩
theorem d_AB_ensureCapacityInternal_0 : decode b_AB_ensureCapacityInternal 0 = .ok (.aload_n 0, 1) := by decide +kernel
theorem d_AB_ensureCapacityInternal_1 : decode b_AB_ensureCapacityInternal 1 = .ok (.getfield 15, 3) := by decide +kernel
theorem d_AB_ensureCapacityInternal_4 : decode b_AB_ensureCapacityInternal 4 = .ok (.arraylength, 1) := by decide +kernel
theorem d_AB_ensureCapacityInternal_5 : decode b_AB_ensureCapacityInternal 5 = .ok (.aload_n 0, 1) := by decide +kernel
theorem d_AB_ensureCapacityInternal_6 : decode b_AB_ensureCapacityInternal 6 = .ok (.getfield 22, 3) := by decide +kernel
theorem d_AB_ensureCapacityInternal_9 : decode b_AB_ensureCapacityInternal 9 = .ok (.ishr, 1) := by decide +kernel
theorem d_AB_ensureCapacityInternal_10 : decode b_AB_ensureCapacityInternal 10 = .ok (.istore_n 2, 1) := by decide +kernel
theorem d_AB_ensureCapacityInternal_11 : decode b_AB_ensureCapacityInternal 11 = .ok (.iload_n 1, 1) := by decide +kernel
theorem d_AB_ensureCapacityInternal_12 : decode b_AB_ensureCapacityInternal 12 = .ok (.iload_n 2, 1) := by decide +kernel
theorem d_AB_ensureCapacityInternal_13 : decode b_AB_ensureCapacityInternal 13 = .ok (.isub, 1) := by decide +kernel
theorem d_AB_ensureCapacityInternal_14 : decode b_AB_ensureCapacityInternal 14 = .ok (.ifCond .le 24, 3) := by decide +kernel
theorem d_AB_ensureCapacityInternal_17 : decode b_AB_ensureCapacityInternal 17 = .ok (.aload_n 0, 1) := by decide +kernel
theorem d_AB_ensureCapacityInternal_18 : decode b_AB_ensureCapacityInternal 18 = .ok (.aload_n 0, 1) := by decide +kernel
theorem d_AB_ensureCapacityInternal_19 : decode b_AB_ensureCapacityInternal 19 = .ok (.getfield 15, 3) := by decide +kernel
theorem d_AB_ensureCapacityInternal_22 : decode b_AB_ensureCapacityInternal 22 = .ok (.aload_n 0, 1) := by decide +kernel
theorem d_AB_ensureCapacityInternal_23 : decode b_AB_ensureCapacityInternal 23 = .ok (.iload_n 1, 1) := by decide +kernel
theorem d_AB_ensureCapacityInternal_24 : decode b_AB_ensureCapacityInternal 24 = .ok (.invokevirtual 104, 3) := by decide +kernel
theorem d_AB_ensureCapacityInternal_27 : decode b_AB_ensureCapacityInternal 27 = .ok (.aload_n 0, 1) := by decide +kernel
theorem d_AB_ensureCapacityInternal_28 : decode b_AB_ensureCapacityInternal 28 = .ok (.getfield 22, 3) := by decide +kernel
theorem d_AB_ensureCapacityInternal_31 : decode b_AB_ensureCapacityInternal 31 = .ok (.ishl, 1) := by decide +kernel
theorem d_AB_ensureCapacityInternal_32 : decode b_AB_ensureCapacityInternal 32 = .ok (.invokestatic 108, 3) := by decide +kernel
theorem d_AB_ensureCapacityInternal_35 : decode b_AB_ensureCapacityInternal 35 = .ok (.putfield 15, 3) := by decide +kernel
theorem d_AB_ensureCapacityInternal_38 : decode b_AB_ensureCapacityInternal 38 = .ok (.return_, 1) := by decide +kernel
def wq_AB_ensureCapacityInternal_38 (g : Gm) (post : StC → Prop) (mc ms : Nat)  (S : StC) (c0 : Nat) (z0 : Nat) : Prop :=
  post S
def wp_AB_ensureCapacityInternal (g : Gm) (post : StC → Prop) (mc ms : Nat) (S : StC) (a0 : Int32) : Prop :=
  ∃ (n1 : Nat) (f2 : Nat → Int32), ((S.2.2.1 0) ∈ S.2.2.2.2.2.1) ∧ (S.2.2.2.2.2.2 (S.2.2.1 0) = .inl (g.2.1 3, n1, .inl f2)) ∧ ((((a0 - ((Int32.ofNat n1) >>> ((S.1 0) &&& 31))) ≤ 0) → wq_AB_ensureCapacityInternal_38 g post mc ms  S (0) (0)) ∧ (¬ ((a0 - ((Int32.ofNat n1) >>> ((S.1 0) &&& 31))) ≤ 0) → ∃ (mc5 : Nat) (ms6 : Nat), (0 + mc5 ≤ mc) ∧ (0 + ms6 ≤ ms) ∧ (wp_AB_newCapacity g (fun (r8 : Int32) (S7 : StC) => (∃ (mc9 : Nat) (ms10 : Nat), ((0 + mc5) + mc9 ≤ mc) ∧ ((0 + ms6) + ms10 ≤ ms) ∧ (wp_Ar_copyOf g (fun (r12 : Option Nat) (S11 : StC) => (∃ (y13 : Nat), (r12 = some y13) ∧ (wq_AB_ensureCapacityInternal_38 g post mc ms  (S11.1, S11.2.1, (va_up S11.2.2.1 0 (y13)), S11.2.2.2) (((0 + mc5) + mc9)) (((0 + ms6) + ms10))))) mc9 ms10 S7 ((S.2.2.1 0)) ((r8 <<< ((S7.1 0) &&& 31)))))) mc5 ms6 S (a0))))
set_option maxRecDepth 100000 in
set_option maxHeartbeats 4000000 in
theorem c_AB_ensureCapacityInternal (l : Launch) (g : Gm) (sz : Nat) (S : StC) (a0 : Int32) (post : StC → Prop) (mc ms : Nat) (hw : wp_AB_ensureCapacityInternal g post mc ms S a0) : Met l y_AB_ensureCapacityInternal (.code y_AB_ensureCapacityInternal b_AB_ensureCapacityInternal 3 none :: w_C) (rmA 3 69 mc ms) (va_Pc [.ref (g.2.2 1), .int (a0)] (PC g sz S)) (va_Qv post (BC g (AC g sz S)) (AC g sz S)) mc ms (AC g sz S) := by
  refine ofA_v (by decide) (Nat.le_of_ble_eq_true rfl) (fun p e s m args below meth c Q A H locs ls hx hb hml hts hown hK hA hC hN hmn kr hl hP hD hS => ?_)
  have hl : lv_has ls 3 [(0, .ref (g.2.2 1)), (1, .int (a0))] := hl
  unfold wp_AB_ensureCapacityInternal at hw
  have hcm : 0 ≤ mc := Nat.zero_le _
  have hzm : 0 ≤ ms := Nat.zero_le _
  have J38 : ∀ (S : StC) (c0 : Nat) (z0 : Nat) (H : Heap) (locs : List Loc) (ls : Array Slot), c0 ≤ mc → z0 ≤ ms → wq_AB_ensureCapacityInternal_38 g post mc ms  S c0 z0 → lv_has ls 3 [] → va_P g.1 classes (wC g S) H → va_D A (wC g S) → va_S A s.heap H locs → W p l e (rmA 3 69 mc ms) s m args below meth c H locs c0 z0 Q (F0 m 38 ls []) := by
    intro S c0 z0 H locs ls hcm hzm hw hl hP hD hS
    unfold wq_AB_ensureCapacityInternal_38 at hw
    exact kr S _ _ _ _ _ _ hcm hzm hw hP hD hS d_AB_ensureCapacityInternal_38
  refine lv_aload_n hx hb d_AB_ensureCapacityInternal_0 rfl (lv_at hl 0 rfl) ?_
  refine va_get (D := g.1) (ci := 2) (v := .ref ((S.2.2.1 0))) (C := R_SB) (T := F_SB) (N := 4) hx hb hts hin_SB hown hK hP 1 rfl rfl 0 (by decide) (hts _ k_C_45) (fun _ h9 => h9) rfl d_AB_ensureCapacityInternal_1 ?_
  obtain ⟨n1, f2, ha3, hf4, hw⟩ := hw
  refine pal_C (S := S) hx hb hK hP ha3 hf4 d_AB_ensureCapacityInternal_4 ?_
  refine lv_aload_n hx hb d_AB_ensureCapacityInternal_5 rfl (lv_at hl 0 rfl) ?_
  refine va_get (D := g.1) (ci := 2) (v := .int ((S.1 0))) (C := R_SB) (T := F_SB) (N := 4) hx hb hts hin_SB hown hK hP 1 rfl rfl 1 (by decide) (hts _ k_C_46) (fun _ h9 => h9) rfl d_AB_ensureCapacityInternal_6 ?_
  refine lv_ishr hx hb d_AB_ensureCapacityInternal_9 ?_
  refine lv_istore_n (lv' := [(2, .int (((Int32.ofNat n1) >>> ((S.1 0) &&& 31)))), (0, .ref (g.2.2 1)), (1, .int (a0))]) hx hb d_AB_ensureCapacityInternal_10 rfl hl (by decide) rfl (fun ls hl => ?_)
  refine lv_iload_n hx hb d_AB_ensureCapacityInternal_11 rfl (lv_at hl 2 rfl) ?_
  refine lv_iload_n hx hb d_AB_ensureCapacityInternal_12 rfl (lv_at hl 0 rfl) ?_
  refine lv_isub hx hb d_AB_ensureCapacityInternal_13 ?_
  refine lv_if_le hx hb d_AB_ensureCapacityInternal_14 (tgt := 38) (by decide) (fun hc => ?_) (fun hc => ?_)
  · have hw := hw.1 hc
    exact J38 S (0) (0) _ _ _ hcm hzm hw (lv_sub hl [] rfl) hP hD hS
  · have hw := hw.2 hc
    refine lv_aload_n hx hb d_AB_ensureCapacityInternal_17 rfl (lv_at hl 1 rfl) ?_
    refine lv_aload_n hx hb d_AB_ensureCapacityInternal_18 rfl (lv_at hl 1 rfl) ?_
    refine va_get (D := g.1) (ci := 2) (v := .ref ((S.2.2.1 0))) (C := R_SB) (T := F_SB) (N := 4) hx hb hts hin_SB hown hK hP 1 rfl rfl 0 (by decide) (hts _ k_C_45) (fun _ h9 => h9) rfl d_AB_ensureCapacityInternal_19 ?_
    refine lv_aload_n hx hb d_AB_ensureCapacityInternal_22 rfl (lv_at hl 1 rfl) ?_
    refine lv_iload_n hx hb d_AB_ensureCapacityInternal_23 rfl (lv_at hl 2 rfl) ?_
    obtain ⟨mc5, ms6, hcm, hzm, hw⟩ := hw
    refine cA_iU (As := [.int (a0)]) (rest := [.ref ((S.2.2.1 0)), .ref (g.2.2 1)]) hx hb hml hown hts hK hC hN hP hD hS hA hcm hzm hl.1 (va_recv (q0 := 1) (ci := 2) (q := (R_SB, F_SB, 4)) hK hP rfl rfl) (qA_10 hts ⟨Nat.le_of_ble_eq_true rfl, Nat.le_of_ble_eq_true rfl⟩) (c_AB_newCapacity l g H.size _ (a0) _ _ _ hw) rfl rfl (Nat.le_of_ble_eq_true rfl) d_AB_ensureCapacityInternal_24 (fun r8 S7 H locs hw hP hD hS => ?_)
    refine lv_aload_n hx hb d_AB_ensureCapacityInternal_27 rfl (lv_at hl 1 rfl) ?_
    refine va_get (D := g.1) (ci := 2) (v := .int ((S7.1 0))) (C := R_SB) (T := F_SB) (N := 4) hx hb hts hin_SB hown hK hP 1 rfl rfl 1 (by decide) (hts _ k_C_46) (fun _ h9 => h9) rfl d_AB_ensureCapacityInternal_28 ?_
    refine lv_ishl hx hb d_AB_ensureCapacityInternal_31 ?_
    obtain ⟨mc9, ms10, hcm, hzm, hw⟩ := hw
    refine cA_qS (As := [.ref ((S.2.2.1 0)), .int ((r8 <<< ((S7.1 0) &&& 31)))]) (rest := [.ref (g.2.2 1)]) hx hb hml hown hts hK hC hN hP hD hS hA hcm hzm hl.1  (qA_11 hts ⟨Nat.le_of_ble_eq_true rfl, Nat.le_of_ble_eq_true rfl⟩) (c_Ar_copyOf l g H.size _ ((S.2.2.1 0)) ((r8 <<< ((S7.1 0) &&& 31))) _ _ _ hw) rfl rfl (Nat.le_of_ble_eq_true rfl) d_AB_ensureCapacityInternal_32 (fun r12 S11 H locs hw hP hD hS => ?_)
    obtain ⟨y13, hy14, hw⟩ := hw
    refine W_rf hy14 ?_
    refine pt_C (S2 := (S11.1, S11.2.1, (va_up S11.2.2.1 0 (y13)), S11.2.2.2)) (v := .ref (y13)) (C := R_SB) (F := F_SB) (N := 4) (ci := 2) hx hb hts hin_SB t_SB t_SB_ok n_SB hown hK hP hD hS 1 rfl rfl 0 (by decide) rfl rfl rfl (Nat.le_of_ble_eq_true rfl) (sP_C_0 g _ _) k_C_45 d_AB_ensureCapacityInternal_35 (fun H locs hP hD hS => ?_)
    exact J38 (S11.1, S11.2.1, (va_up S11.2.2.1 0 (y13)), S11.2.2.2) (((0 + mc5) + mc9)) (((0 + ms6) + ms10)) _ _ _ hcm hzm hw (lv_sub hl [] rfl) hP hD hS
theorem qA_12 {R : Room} {s : State} {args : Array Value} {mc1 ms1 : Nat} (hts : ∀ w ∈ w_C, w.before args s = true) (hR : (rmA 3 69 mc1 ms1).frames + 1 ≤ R.frames ∧ 8 + (3 + 11) + (rmA 3 69 mc1 ms1).locals ≤ R.locals) : va_CU R s args "java/lang/AbstractStringBuilder" "java/lang/StringBuilder" "java/lang/AbstractStringBuilder" 100 y_AB_ensureCapacityInternal y_AB_ensureCapacityInternal b_AB_ensureCapacityInternal 3 none (.code y_AB_ensureCapacityInternal b_AB_ensureCapacityInternal 3 none :: w_C) (rmA 3 69 mc1 ms1) mc1 ms1 1 := va_cwU 1 hts (good_U k_C_157 k_C_767 k_C_779 k_C_158 k_C_1 k_C_159) rfl rfl rfl rfl ⟨by decide +kernel, by decide +kernel, by decide +kernel⟩ hR
theorem d_AB_setLength_0 : decode b_AB_setLength 0 = .ok (.iload_n 1, 1) := by decide +kernel
theorem d_AB_setLength_1 : decode b_AB_setLength 1 = .ok (.ifCond .ge 12, 3) := by decide +kernel
theorem d_AB_setLength_4 : decode b_AB_setLength 4 = .ok (.new 129, 3) := by decide +kernel
theorem d_AB_setLength_7 : decode b_AB_setLength 7 = .ok (.dup, 1) := by decide +kernel
theorem d_AB_setLength_8 : decode b_AB_setLength 8 = .ok (.iload_n 1, 1) := by decide +kernel
theorem d_AB_setLength_9 : decode b_AB_setLength 9 = .ok (.invokespecial 131, 3) := by decide +kernel
theorem d_AB_setLength_12 : decode b_AB_setLength 12 = .ok (.athrow, 1) := by decide +kernel
theorem d_AB_setLength_13 : decode b_AB_setLength 13 = .ok (.aload_n 0, 1) := by decide +kernel
theorem d_AB_setLength_14 : decode b_AB_setLength 14 = .ok (.iload_n 1, 1) := by decide +kernel
theorem d_AB_setLength_15 : decode b_AB_setLength 15 = .ok (.invokevirtual 100, 3) := by decide +kernel
theorem d_AB_setLength_18 : decode b_AB_setLength 18 = .ok (.aload_n 0, 1) := by decide +kernel
theorem d_AB_setLength_19 : decode b_AB_setLength 19 = .ok (.getfield 79, 3) := by decide +kernel
theorem d_AB_setLength_22 : decode b_AB_setLength 22 = .ok (.iload_n 1, 1) := by decide +kernel
theorem d_AB_setLength_23 : decode b_AB_setLength 23 = .ok (.if_icmp .ge 40, 3) := by decide +kernel
theorem d_AB_setLength_26 : decode b_AB_setLength 26 = .ok (.aload_n 0, 1) := by decide +kernel
theorem d_AB_setLength_27 : decode b_AB_setLength 27 = .ok (.invokevirtual 83, 3) := by decide +kernel
theorem d_AB_setLength_30 : decode b_AB_setLength 30 = .ok (.ifCond .eq 18, 3) := by decide +kernel
theorem d_AB_setLength_33 : decode b_AB_setLength 33 = .ok (.aload_n 0, 1) := by decide +kernel
theorem d_AB_setLength_34 : decode b_AB_setLength 34 = .ok (.getfield 15, 3) := by decide +kernel
theorem d_AB_setLength_37 : decode b_AB_setLength 37 = .ok (.aload_n 0, 1) := by decide +kernel
theorem d_AB_setLength_38 : decode b_AB_setLength 38 = .ok (.getfield 79, 3) := by decide +kernel
theorem d_AB_setLength_41 : decode b_AB_setLength 41 = .ok (.iload_n 1, 1) := by decide +kernel
theorem d_AB_setLength_42 : decode b_AB_setLength 42 = .ok (.invokestatic 133, 3) := by decide +kernel
theorem d_AB_setLength_45 : decode b_AB_setLength 45 = .ok (.goto 31, 3) := by decide +kernel
theorem d_AB_setLength_48 : decode b_AB_setLength 48 = .ok (.aload_n 0, 1) := by decide +kernel
theorem d_AB_setLength_49 : decode b_AB_setLength 49 = .ok (.getfield 15, 3) := by decide +kernel
theorem d_AB_setLength_52 : decode b_AB_setLength 52 = .ok (.aload_n 0, 1) := by decide +kernel
theorem d_AB_setLength_53 : decode b_AB_setLength 53 = .ok (.getfield 79, 3) := by decide +kernel
theorem d_AB_setLength_56 : decode b_AB_setLength 56 = .ok (.iload_n 1, 1) := by decide +kernel
theorem d_AB_setLength_57 : decode b_AB_setLength 57 = .ok (.invokestatic 137, 3) := by decide +kernel
theorem d_AB_setLength_60 : decode b_AB_setLength 60 = .ok (.goto 16, 3) := by decide +kernel
theorem d_AB_setLength_63 : decode b_AB_setLength 63 = .ok (.aload_n 0, 1) := by decide +kernel
theorem d_AB_setLength_64 : decode b_AB_setLength 64 = .ok (.getfield 79, 3) := by decide +kernel
theorem d_AB_setLength_67 : decode b_AB_setLength 67 = .ok (.iload_n 1, 1) := by decide +kernel
theorem d_AB_setLength_68 : decode b_AB_setLength 68 = .ok (.if_icmp .le 8, 3) := by decide +kernel
theorem d_AB_setLength_71 : decode b_AB_setLength 71 = .ok (.aload_n 0, 1) := by decide +kernel
theorem d_AB_setLength_72 : decode b_AB_setLength 72 = .ok (.iconst 1, 1) := by decide +kernel
theorem d_AB_setLength_73 : decode b_AB_setLength 73 = .ok (.putfield 73, 3) := by decide +kernel
theorem d_AB_setLength_76 : decode b_AB_setLength 76 = .ok (.aload_n 0, 1) := by decide +kernel
theorem d_AB_setLength_77 : decode b_AB_setLength 77 = .ok (.iload_n 1, 1) := by decide +kernel
theorem d_AB_setLength_78 : decode b_AB_setLength 78 = .ok (.putfield 79, 3) := by decide +kernel
theorem d_AB_setLength_81 : decode b_AB_setLength 81 = .ok (.return_, 1) := by decide +kernel
def wq_AB_setLength_76 (g : Gm) (post : StC → Prop) (mc ms : Nat)  (S : StC) (x1 : Int32) (c0 : Nat) (z0 : Nat) : Prop :=
  post ((upd S.1 2 (x1)), S.2)
def wp_AB_setLength (g : Gm) (post : StC → Prop) (mc ms : Nat) (S : StC) (a0 : Int32) : Prop :=
  (0 ≤ a0) ∧ (∃ (mc1 : Nat) (ms2 : Nat), (0 + mc1 ≤ mc) ∧ (0 + ms2 ≤ ms) ∧ (wp_AB_ensureCapacityInternal g (fun S3 : StC => ((a0 ≤ (S3.1 2)) ∧ ((((S3.1 2) ≤ a0) → wq_AB_setLength_76 g post mc ms  S3 (a0) ((0 + mc1)) ((0 + ms2))) ∧ (¬ ((S3.1 2) ≤ a0) → wq_AB_setLength_76 g post mc ms  ((upd S3.1 1 (1)), S3.2) (a0) ((0 + mc1)) ((0 + ms2)))))) mc1 ms2 S (a0)))
set_option maxRecDepth 100000 in
set_option maxHeartbeats 4000000 in
theorem c_AB_setLength (l : Launch) (g : Gm) (sz : Nat) (S : StC) (a0 : Int32) (post : StC → Prop) (mc ms : Nat) (hw : wp_AB_setLength g post mc ms S a0) : Met l y_AB_setLength (.code y_AB_setLength b_AB_setLength 2 none :: w_C) (rmA 4 91 mc ms) (va_Pc [.ref (g.2.2 1), .int (a0)] (PC g sz S)) (va_Qv post (BC g (AC g sz S)) (AC g sz S)) mc ms (AC g sz S) := by
  refine ofA_v (by decide) (Nat.le_of_ble_eq_true rfl) (fun p e s m args below meth c Q A H locs ls hx hb hml hts hown hK hA hC hN hmn kr hl hP hD hS => ?_)
  have hl : lv_has ls 2 [(0, .ref (g.2.2 1)), (1, .int (a0))] := hl
  unfold wp_AB_setLength at hw
  have hcm : 0 ≤ mc := Nat.zero_le _
  have hzm : 0 ≤ ms := Nat.zero_le _
  have J76 : ∀ (S : StC) (x1 : Int32) (c0 : Nat) (z0 : Nat) (H : Heap) (locs : List Loc) (ls : Array Slot), c0 ≤ mc → z0 ≤ ms → wq_AB_setLength_76 g post mc ms  S x1 c0 z0 → lv_has ls 2 [(0, .ref (g.2.2 1)), (1, .int (x1))] → va_P g.1 classes (wC g S) H → va_D A (wC g S) → va_S A s.heap H locs → W p l e (rmA 4 91 mc ms) s m args below meth c H locs c0 z0 Q (F0 m 76 ls []) := by
    intro S x1 c0 z0 H locs ls hcm hzm hw hl hP hD hS
    unfold wq_AB_setLength_76 at hw
    refine lv_aload_n hx hb d_AB_setLength_76 rfl (lv_at hl 0 rfl) ?_
    refine lv_iload_n hx hb d_AB_setLength_77 rfl (lv_at hl 1 rfl) ?_
    refine pt_C (S2 := ((upd S.1 2 (x1)), S.2)) (v := .int (x1)) (C := R_SB) (F := F_SB) (N := 4) (ci := 2) hx hb hts hin_SB t_SB t_SB_ok n_SB hown hK hP hD hS 1 rfl rfl 3 (by decide) rfl rfl rfl (Nat.le_of_ble_eq_true rfl) (sI_C_2 g _ _) k_C_49 d_AB_setLength_78 (fun H locs hP hD hS => ?_)
    exact kr ((upd S.1 2 (x1)), S.2) _ _ _ _ _ _ hcm hzm hw hP hD hS d_AB_setLength_81
  refine lv_iload_n hx hb d_AB_setLength_0 rfl (lv_at hl 1 rfl) ?_
  obtain ⟨hc9, hw⟩ := hw
  refine lv_if_ge hx hb d_AB_setLength_1 (tgt := 13) (by decide) (fun hc => ?_) (fun hc => absurd hc9 hc)
  refine lv_aload_n hx hb d_AB_setLength_13 rfl (lv_at hl 0 rfl) ?_
  refine lv_iload_n hx hb d_AB_setLength_14 rfl (lv_at hl 1 rfl) ?_
  obtain ⟨mc1, ms2, hcm, hzm, hw⟩ := hw
  refine cA_vU (As := [.int (a0)]) (rest := []) hx hb hml hown hts hK hC hN hP hD hS hA hcm hzm hl.1 (va_recv (q0 := 1) (ci := 2) (q := (R_SB, F_SB, 4)) hK hP rfl rfl) (qA_12 hts ⟨Nat.le_of_ble_eq_true rfl, Nat.le_of_ble_eq_true rfl⟩) (c_AB_ensureCapacityInternal l g H.size _ (a0) _ _ _ hw) rfl rfl (Nat.le_of_ble_eq_true rfl) d_AB_setLength_15 (fun S3 H locs hw hP hD hS => ?_)
  refine lv_aload_n hx hb d_AB_setLength_18 rfl (lv_at hl 0 rfl) ?_
  refine va_get (D := g.1) (ci := 2) (v := .int ((S3.1 2))) (C := R_SB) (T := F_SB) (N := 4) hx hb hts hin_SB hown hK hP 1 rfl rfl 3 (by decide) (hts _ k_C_49) (fun _ h9 => h9) rfl d_AB_setLength_19 ?_
  refine lv_iload_n hx hb d_AB_setLength_22 rfl (lv_at hl 1 rfl) ?_
  obtain ⟨hc9, hw⟩ := hw
  refine lv_icmp_ge hx hb d_AB_setLength_23 (tgt := 63) (by decide) (fun hc => ?_) (fun hc => absurd hc9 hc)
  refine lv_aload_n hx hb d_AB_setLength_63 rfl (lv_at hl 0 rfl) ?_
  refine va_get (D := g.1) (ci := 2) (v := .int ((S3.1 2))) (C := R_SB) (T := F_SB) (N := 4) hx hb hts hin_SB hown hK hP 1 rfl rfl 3 (by decide) (hts _ k_C_49) (fun _ h9 => h9) rfl d_AB_setLength_64 ?_
  refine lv_iload_n hx hb d_AB_setLength_67 rfl (lv_at hl 1 rfl) ?_
  refine lv_icmp_le hx hb d_AB_setLength_68 (tgt := 76) (by decide) (fun hc => ?_) (fun hc => ?_)
  · have hw := hw.1 hc
    exact J76 S3 (a0) ((0 + mc1)) ((0 + ms2)) _ _ _ hcm hzm hw (lv_sub hl [0, 1] rfl) hP hD hS
  · have hw := hw.2 hc
    refine lv_aload_n hx hb d_AB_setLength_71 rfl (lv_at hl 0 rfl) ?_
    refine lv_iconst (v := 1) hx hb d_AB_setLength_72 (by decide) ?_
    refine pt_C (S2 := ((upd S3.1 1 (1)), S3.2)) (v := .int (1)) (C := R_SB) (F := F_SB) (N := 4) (ci := 2) hx hb hts hin_SB t_SB t_SB_ok n_SB hown hK hP hD hS 1 rfl rfl 2 (by decide) rfl rfl rfl (Nat.le_of_ble_eq_true rfl) (sI_C_1 g _ _) k_C_47 d_AB_setLength_73 (fun H locs hP hD hS => ?_)
    exact J76 ((upd S3.1 1 (1)), S3.2) (a0) ((0 + mc1)) ((0 + ms2)) _ _ _ hcm hzm hw (lv_sub hl [0, 1] rfl) hP hD hS
theorem qA_13 {R : Room} {s : State} {args : Array Value} {mc1 ms1 : Nat} (hts : ∀ w ∈ w_C, w.before args s = true) (hR : (rmA 4 91 mc1 ms1).frames + 1 ≤ R.frames ∧ 8 + (2 + 11) + (rmA 4 91 mc1 ms1).locals ≤ R.locals) : va_CS R s args "java/lang/StringBuilder" 333 y_AB_setLength b_AB_setLength 2 none (.code y_AB_setLength b_AB_setLength 2 none :: w_C) (rmA 4 91 mc1 ms1) mc1 ms1 1 := va_cwSU 1 hts (good_X k_C_298 k_C_771 k_C_50 k_C_299 k_C_1 k_C_300) rfl rfl rfl ⟨by decide +kernel, by decide +kernel⟩ hR
theorem d_SB_setLength_0 : decode b_SB_setLength 0 = .ok (.aload_n 0, 1) := by decide +kernel
theorem d_SB_setLength_1 : decode b_SB_setLength 1 = .ok (.iload_n 1, 1) := by decide +kernel
theorem d_SB_setLength_2 : decode b_SB_setLength 2 = .ok (.invokespecial 333, 3) := by decide +kernel
theorem d_SB_setLength_5 : decode b_SB_setLength 5 = .ok (.return_, 1) := by decide +kernel
def wp_SB_setLength (g : Gm) (post : StC → Prop) (mc ms : Nat) (S : StC) (a0 : Int32) : Prop :=
  ∃ (mc1 : Nat) (ms2 : Nat), (0 + mc1 ≤ mc) ∧ (0 + ms2 ≤ ms) ∧ (wp_AB_setLength g (fun S3 : StC => (post S3)) mc1 ms2 S (a0))
set_option maxRecDepth 100000 in
set_option maxHeartbeats 4000000 in
theorem c_SB_setLength (l : Launch) (g : Gm) (sz : Nat) (S : StC) (a0 : Int32) (post : StC → Prop) (mc ms : Nat) (hw : wp_SB_setLength g post mc ms S a0) : Met l y_SB_setLength (.code y_SB_setLength b_SB_setLength 2 none :: w_C) (rmA 5 112 mc ms) (va_Pc [.ref (g.2.2 1), .int (a0)] (PC g sz S)) (va_Qv post (BC g (AC g sz S)) (AC g sz S)) mc ms (AC g sz S) := by
  refine ofA_v (by decide) (Nat.le_of_ble_eq_true rfl) (fun p e s m args below meth c Q A H locs ls hx hb hml hts hown hK hA hC hN hmn kr hl hP hD hS => ?_)
  have hl : lv_has ls 2 [(0, .ref (g.2.2 1)), (1, .int (a0))] := hl
  unfold wp_SB_setLength at hw
  have hcm : 0 ≤ mc := Nat.zero_le _
  have hzm : 0 ≤ ms := Nat.zero_le _
  refine lv_aload_n hx hb d_SB_setLength_0 rfl (lv_at hl 0 rfl) ?_
  refine lv_iload_n hx hb d_SB_setLength_1 rfl (lv_at hl 1 rfl) ?_
  obtain ⟨mc1, ms2, hcm, hzm, hw⟩ := hw
  refine cA_vX (As := [.int (a0)]) (rest := []) hx hb hml hown hts hK hC hN hP hD hS hA hcm hzm hl.1 ((hK.1 2 (R_SB, F_SB, 4) rfl).2) (va_recv (q0 := 1) (ci := 2) (q := (R_SB, F_SB, 4)) hK hP rfl rfl) (qA_13 hts ⟨Nat.le_of_ble_eq_true rfl, Nat.le_of_ble_eq_true rfl⟩) (c_AB_setLength l g H.size _ (a0) _ _ _ hw) rfl rfl (Nat.le_of_ble_eq_true rfl) d_SB_setLength_2 (fun S3 H locs hw hP hD hS => ?_)
  exact kr S3 _ _ _ _ _ _ hcm hzm hw hP hD hS d_SB_setLength_5
theorem d_St_coder_0 : decode b_St_coder 0 = .ok (.getstatic 38, 3) := by decide +kernel
theorem d_St_coder_3 : decode b_St_coder 3 = .ok (.ifCond .eq 10, 3) := by decide +kernel
theorem d_St_coder_6 : decode b_St_coder 6 = .ok (.aload_n 0, 1) := by decide +kernel
theorem d_St_coder_7 : decode b_St_coder 7 = .ok (.getfield 15, 3) := by decide +kernel
theorem d_St_coder_10 : decode b_St_coder 10 = .ok (.goto 4, 3) := by decide +kernel
theorem d_St_coder_13 : decode b_St_coder 13 = .ok (.iconst 1, 1) := by decide +kernel
theorem d_St_coder_14 : decode b_St_coder 14 = .ok (.ireturn, 1) := by decide +kernel
def wq_St_coder_14 (g : Gm) (post : Int32 → StC → Prop) (mc ms : Nat)  (S : StC) (t0 : Int32) (c0 : Nat) (z0 : Nat) : Prop :=
  (narrow .byte (.int (t0)) = .int (t0)) ∧ (post (t0) S)
def wpP_St_coder (g : Gm) (post : Int32 → StC → Prop) (mc ms : Nat) (S : StC) (h0 : Nat) : Prop :=
  (¬ ((1 : Int32) = 0)) ∧ (∃ (vs1 : List Value) (z5 : Int32), (h0 ∈ S.2.2.2.2.2.1) ∧ (S.2.2.2.2.2.2 h0 = .inr (3, vs1)) ∧ (vs1[1]? = some (.int (z5))) ∧ (wq_St_coder_14 g post mc ms  S (z5) (0) (0)))
set_option maxRecDepth 100000 in
set_option maxHeartbeats 4000000 in
theorem cP_St_coder (l : Launch) (g : Gm) (sz : Nat) (S : StC) (h0 : Nat) (post : Int32 → StC → Prop) (mc ms : Nat) (hw : wpP_St_coder g post mc ms S h0) : Met l y_St_coder (.code y_St_coder b_St_coder 1 (some .byte) :: w_C) (rmA 0 0 mc ms) (va_Pc [.ref (h0)] (PC g sz S)) (va_Qi post (BC g (AC g sz S)) (AC g sz S)) mc ms (AC g sz S) := by
  refine ofA_z (by decide) (Nat.le_of_ble_eq_true rfl) (fun p e s m args below meth c Q A H locs ls hx hb hml hts hown hK hA hC hN hmn kr hl hP hD hS => ?_)
  have hl : lv_has ls 1 [(0, .ref (h0))] := hl
  unfold wpP_St_coder at hw
  have hcm : 0 ≤ mc := Nat.zero_le _
  have hzm : 0 ≤ ms := Nat.zero_le _
  have J14 : ∀ (S : StC) (t0 : Int32) (c0 : Nat) (z0 : Nat) (H : Heap) (locs : List Loc) (ls : Array Slot), c0 ≤ mc → z0 ≤ ms → wq_St_coder_14 g post mc ms  S t0 c0 z0 → lv_has ls 1 [] → va_P g.1 classes (wC g S) H → va_D A (wC g S) → va_S A s.heap H locs → W p l e (rmA 0 0 mc ms) s m args below meth c H locs c0 z0 Q (F0 m 14 ls [.int (t0)]) := by
    intro S t0 c0 z0 H locs ls hcm hzm hw hl hP hD hS
    unfold wq_St_coder_14 at hw
    obtain ⟨hnz, hw⟩ := hw
    exact kr (t0) S _ _ _ _ _ _ hcm hzm hnz hw hP hD hS d_St_coder_14
  refine va_gets (C := "java/lang/String") (n := "COMPACT_STRINGS") (d := "Z") (v := .int (1)) hx hb hC.2.2.2.1 hS hown (hts _ k_C_269) (fun _ h9 => h9) d_St_coder_0 ?_
  obtain ⟨hc9, hw⟩ := hw
  refine lv_if_eq hx hb d_St_coder_3 (tgt := 13) (by decide) (fun hc => absurd hc hc9) (fun hc => ?_)
  refine lv_aload_n hx hb d_St_coder_6 rfl (lv_at hl 0 rfl) ?_
  obtain ⟨vs1, z5, ha2, hf3, hv4, hw⟩ := hw
  refine pg_C (S := S) (vs := vs1) (v := .int (z5)) (C := R_St) (F := F_St) (N := 4) hx hb hts hin_St hown hK hP ha2 hf3 rfl 1 (by decide) hv4 k_C_284 d_St_coder_7 ?_
  refine lv_goto hx hb d_St_coder_10 (tgt := 14) (by decide) ?_
  exact J14 S (z5) (0) (0) _ _ _ hcm hzm hw (lv_sub hl [] rfl) hP hD hS
set_option maxRecDepth 100000 in
set_option maxHeartbeats 4000000 in
theorem cE_St_coder (l : Launch) (g : Gm) (sz : Nat) (S : StC) (post : Int32 → StC → Prop) (mc ms : Nat) (hw : post 0 S) : Met l y_St_coder (.code y_St_coder b_St_coder 1 (some .byte) :: w_C) (rmA 0 0 mc ms) (va_Pc [.ref (g.2.2 (200 + 52))] (PC g sz S)) (va_Qi post (BC g (AC g sz S)) (AC g sz S)) mc ms (AC g sz S) := by
  refine ofA_z (by decide) (Nat.le_of_ble_eq_true rfl) (fun p e s m args below meth c Q A H locs ls hx hb hml hts hown hK hA hC hN hmn kr hl hP hD hS => ?_)
  have hl : lv_has ls 1 [(0, .ref (g.2.2 (200 + 52)))] := hl
  have hcm : 0 ≤ mc := Nat.zero_le _
  have hzm : 0 ≤ ms := Nat.zero_le _
  refine va_gets (C := "java/lang/String") (n := "COMPACT_STRINGS") (d := "Z") (v := .int (1)) hx hb hC.2.2.2.1 hS hown (hts _ k_C_269) (fun _ h9 => h9) d_St_coder_0 ?_
  refine lv_if_eq hx hb d_St_coder_3 (tgt := 13) (by decide) (fun hc => absurd hc (by decide)) (fun hc => ?_)
  refine lv_aload_n hx hb d_St_coder_6 rfl (lv_at hl 0 rfl) ?_
  refine vk_getf (q := g.2.2 (200 + 52)) (v := .int (0)) hx hb (hC.2.1.1 52 (by decide)).2.1 hS hown (hts _ k_C_284) (fun _ h9 => h9) d_St_coder_7 ?_
  refine lv_goto hx hb d_St_coder_10 (tgt := 14) (by decide) ?_
  exact kr 0 S _ _ _ _ _ _ hcm hzm rfl hw hP hD hS d_St_coder_14
def wp_St_coder (g : Gm) (post : Int32 → StC → Prop) (mc ms : Nat) (S : StC) (h0 : Nat) : Prop :=
  (wpP_St_coder g post mc ms S h0) ∨ ((h0 = g.2.2 (200 + 52)) ∧ (post 0 S))
theorem c_St_coder (l : Launch) (g : Gm) (sz : Nat) (S : StC) (h0 : Nat) (post : Int32 → StC → Prop) (mc ms : Nat) (hw : wp_St_coder g post mc ms S h0) : Met l y_St_coder (.code y_St_coder b_St_coder 1 (some .byte) :: w_C) (rmA 0 0 mc ms) (va_Pc [.ref (h0)] (PC g sz S)) (va_Qi post (BC g (AC g sz S)) (AC g sz S)) mc ms (AC g sz S) := by
  rcases hw with hw | ⟨e, hw⟩
  · exact cP_St_coder l g sz S h0 post mc ms hw
  · subst e
    exact cE_St_coder l g sz S post mc ms hw
theorem qA_14 {R : Room} {s : State} {args : Array Value} {mc1 ms1 : Nat} (hts : ∀ w ∈ w_C, w.before args s = true) (hR : (rmA 0 0 mc1 ms1).frames + 1 ≤ R.frames ∧ 8 + (1 + 11) + (rmA 0 0 mc1 ms1).locals ≤ R.locals) : CallW R s args "java/lang/String" R_St 335 y_St_coder b_St_coder 1 (some .byte) (.code y_St_coder b_St_coder 1 (some .byte) :: w_C) (rmA 0 0 mc1 ms1) mc1 ms1 0 := ⟨callB_of 0 hts (good_C k_C_328) rfl rfl rfl (hts _ k_C_3) (hts _ k_C_325) ⟨by decide +kernel, by decide +kernel, by decide +kernel⟩ hR, hts _ k_C_326, hts _ k_C_327⟩
theorem d_St_length_0 : decode b_St_length 0 = .ok (.aload_n 0, 1) := by decide +kernel
theorem d_St_length_1 : decode b_St_length 1 = .ok (.getfield 9, 3) := by decide +kernel
theorem d_St_length_4 : decode b_St_length 4 = .ok (.arraylength, 1) := by decide +kernel
theorem d_St_length_5 : decode b_St_length 5 = .ok (.aload_n 0, 1) := by decide +kernel
theorem d_St_length_6 : decode b_St_length 6 = .ok (.invokevirtual 335, 3) := by decide +kernel
theorem d_St_length_9 : decode b_St_length 9 = .ok (.ishr, 1) := by decide +kernel
theorem d_St_length_10 : decode b_St_length 10 = .ok (.ireturn, 1) := by decide +kernel
def wpP_St_length (g : Gm) (post : Int32 → StC → Prop) (mc ms : Nat) (S : StC) (h0 : Nat) : Prop :=
  ∃ (vs1 : List Value) (z5 : Nat), (h0 ∈ S.2.2.2.2.2.1) ∧ (S.2.2.2.2.2.2 h0 = .inr (3, vs1)) ∧ (vs1[0]? = some (.ref (z5))) ∧ (∃ (n6 : Nat) (f7 : Nat → Int32), (z5 ∈ S.2.2.2.2.2.1) ∧ (S.2.2.2.2.2.2 z5 = .inl (g.2.1 3, n6, .inl f7)) ∧ ((isStr g S (h0)) ∧ (∃ (mc11 : Nat) (ms12 : Nat), (0 + mc11 ≤ mc) ∧ (0 + ms12 ≤ ms) ∧ (wp_St_coder g (fun (r14 : Int32) (S13 : StC) => (post (((Int32.ofNat n6) >>> (r14 &&& 31))) S13)) mc11 ms12 S (h0)))))
set_option maxRecDepth 100000 in
set_option maxHeartbeats 4000000 in
theorem cP_St_length (l : Launch) (g : Gm) (sz : Nat) (S : StC) (h0 : Nat) (post : Int32 → StC → Prop) (mc ms : Nat) (hw : wpP_St_length g post mc ms S h0) : Met l y_St_length (.code y_St_length b_St_length 1 (some .int) :: w_C) (rmA 1 20 mc ms) (va_Pc [.ref (h0)] (PC g sz S)) (va_Qi post (BC g (AC g sz S)) (AC g sz S)) mc ms (AC g sz S) := by
  refine ofA_i (by decide) (Nat.le_of_ble_eq_true rfl) (fun p e s m args below meth c Q A H locs ls hx hb hml hts hown hK hA hC hN hmn kr hl hP hD hS => ?_)
  have hl : lv_has ls 1 [(0, .ref (h0))] := hl
  unfold wpP_St_length at hw
  have hcm : 0 ≤ mc := Nat.zero_le _
  have hzm : 0 ≤ ms := Nat.zero_le _
  refine lv_aload_n hx hb d_St_length_0 rfl (lv_at hl 0 rfl) ?_
  obtain ⟨vs1, z5, ha2, hf3, hv4, hw⟩ := hw
  refine pg_C (S := S) (vs := vs1) (v := .ref (z5)) (C := R_St) (F := F_St) (N := 4) hx hb hts hin_St hown hK hP ha2 hf3 rfl 0 (by decide) hv4 k_C_283 d_St_length_1 ?_
  obtain ⟨n6, f7, ha8, hf9, hw⟩ := hw
  refine pal_C (S := S) hx hb hK hP ha8 hf9 d_St_length_4 ?_
  refine lv_aload_n hx hb d_St_length_5 rfl (lv_at hl 0 rfl) ?_
  obtain ⟨hsr10, hw⟩ := hw
  obtain ⟨mc11, ms12, hcm, hzm, hw⟩ := hw
  refine cA_iV (As := []) (rest := [.int ((Int32.ofNat n6))]) hx hb hml hown hts hK hC hN hP hD hS hA hcm hzm hl.1 (strv_C hK hC hP hS hsr10) (qA_14 hts ⟨Nat.le_of_ble_eq_true rfl, Nat.le_of_ble_eq_true rfl⟩) (c_St_coder l g H.size _ (h0) _ _ _ hw) rfl rfl (Nat.le_of_ble_eq_true rfl) d_St_length_6 (fun r14 S13 H locs hw hP hD hS => ?_)
  refine lv_ishr hx hb d_St_length_9 ?_
  exact kr (((Int32.ofNat n6) >>> (r14 &&& 31))) S13 _ _ _ _ _ _ hcm hzm hw hP hD hS d_St_length_10
set_option maxRecDepth 100000 in
set_option maxHeartbeats 4000000 in
theorem cE_St_length (l : Launch) (g : Gm) (sz : Nat) (S : StC) (post : Int32 → StC → Prop) (mc ms : Nat) (hw : post 0 S) : Met l y_St_length (.code y_St_length b_St_length 1 (some .int) :: w_C) (rmA 1 20 mc ms) (va_Pc [.ref (g.2.2 (200 + 52))] (PC g sz S)) (va_Qi post (BC g (AC g sz S)) (AC g sz S)) mc ms (AC g sz S) := by
  refine ofA_i (by decide) (Nat.le_of_ble_eq_true rfl) (fun p e s m args below meth c Q A H locs ls hx hb hml hts hown hK hA hC hN hmn kr hl hP hD hS => ?_)
  have hl : lv_has ls 1 [(0, .ref (g.2.2 (200 + 52)))] := hl
  have hcm : 0 ≤ mc := Nat.zero_le _
  have hzm : 0 ≤ ms := Nat.zero_le _
  refine lv_aload_n hx hb d_St_length_0 rfl (lv_at hl 0 rfl) ?_
  refine vk_getf (q := g.2.2 (200 + 52)) (v := .ref (g.2.2 (300 + 52))) hx hb (hC.2.1.1 52 (by decide)).2.2.1 hS hown (hts _ k_C_283) (fun _ h9 => h9) d_St_length_1 ?_
  refine va_tlen (v := (Int32.ofNat (lenJ.getD 52 0))) hx hb (hC.2.1.1 52 (by decide)).2.2.2 hS rfl d_St_length_4 ?_
  refine lv_aload_n hx hb d_St_length_5 rfl (lv_at hl 0 rfl) ?_
  have hsr : isStr g S (g.2.2 (200 + 52)) := Or.inr ⟨52, by decide, rfl⟩
  have hcm : 0 + 0 ≤ mc := Nat.zero_le _
  have hzm : 0 + 0 ≤ ms := Nat.zero_le _
  have hw : post ((Int32.ofNat (lenJ.getD 52 0)) >>> ((0 : Int32) &&& 31)) S := hw
  refine cA_iV (As := []) (rest := [.int ((Int32.ofNat (lenJ.getD 52 0)))]) hx hb hml hown hts hK hC hN hP hD hS hA hcm hzm hl.1 (strv_C hK hC hP hS hsr) (qA_14 hts ⟨Nat.le_of_ble_eq_true rfl, Nat.le_of_ble_eq_true rfl⟩) (cE_St_coder l g H.size _ (fun (r14 : Int32) (S13 : StC) => (post (((Int32.ofNat (lenJ.getD 52 0)) >>> (r14 &&& 31))) S13)) _ _ hw) rfl rfl (Nat.le_of_ble_eq_true rfl) d_St_length_6 (fun r14 S13 H locs hw hP hD hS => ?_)
  refine lv_ishr hx hb d_St_length_9 ?_
  exact kr (((Int32.ofNat (lenJ.getD 52 0)) >>> (r14 &&& 31))) S13 _ _ _ _ _ _ hcm hzm hw hP hD hS d_St_length_10
def wp_St_length (g : Gm) (post : Int32 → StC → Prop) (mc ms : Nat) (S : StC) (h0 : Nat) : Prop :=
  (wpP_St_length g post mc ms S h0) ∨ ((h0 = g.2.2 (200 + 52)) ∧ (post 0 S))
theorem c_St_length (l : Launch) (g : Gm) (sz : Nat) (S : StC) (h0 : Nat) (post : Int32 → StC → Prop) (mc ms : Nat) (hw : wp_St_length g post mc ms S h0) : Met l y_St_length (.code y_St_length b_St_length 1 (some .int) :: w_C) (rmA 1 20 mc ms) (va_Pc [.ref (h0)] (PC g sz S)) (va_Qi post (BC g (AC g sz S)) (AC g sz S)) mc ms (AC g sz S) := by
  rcases hw with hw | ⟨e, hw⟩
  · exact cP_St_length l g sz S h0 post mc ms hw
  · subst e
    exact cE_St_length l g sz S post mc ms hw
theorem d_St_isLatin1_0 : decode b_St_isLatin1 0 = .ok (.getstatic 38, 3) := by decide +kernel
theorem d_St_isLatin1_3 : decode b_St_isLatin1 3 = .ok (.ifCond .eq 14, 3) := by decide +kernel
theorem d_St_isLatin1_6 : decode b_St_isLatin1 6 = .ok (.aload_n 0, 1) := by decide +kernel
theorem d_St_isLatin1_7 : decode b_St_isLatin1 7 = .ok (.getfield 15, 3) := by decide +kernel
theorem d_St_isLatin1_10 : decode b_St_isLatin1 10 = .ok (.ifCond .ne 7, 3) := by decide +kernel
theorem d_St_isLatin1_13 : decode b_St_isLatin1 13 = .ok (.iconst 1, 1) := by decide +kernel
theorem d_St_isLatin1_14 : decode b_St_isLatin1 14 = .ok (.goto 4, 3) := by decide +kernel
theorem d_St_isLatin1_17 : decode b_St_isLatin1 17 = .ok (.iconst 0, 1) := by decide +kernel
theorem d_St_isLatin1_18 : decode b_St_isLatin1 18 = .ok (.ireturn, 1) := by decide +kernel
def wq_St_isLatin1_18 (g : Gm) (post : Int32 → StC → Prop) (mc ms : Nat)  (S : StC) (t0 : Int32) (c0 : Nat) (z0 : Nat) : Prop :=
  (narrow .boolean (.int (t0)) = .int (t0)) ∧ (post (t0) S)
def wq_St_isLatin1_17 (g : Gm) (post : Int32 → StC → Prop) (mc ms : Nat)  (S : StC) (c0 : Nat) (z0 : Nat) : Prop :=
  wq_St_isLatin1_18 g post mc ms  S (0) (c0) (z0)
def wp_St_isLatin1 (g : Gm) (post : Int32 → StC → Prop) (mc ms : Nat) (S : StC) (h0 : Nat) : Prop :=
  (¬ ((1 : Int32) = 0)) ∧ (∃ (vs1 : List Value) (z5 : Int32), (h0 ∈ S.2.2.2.2.2.1) ∧ (S.2.2.2.2.2.2 h0 = .inr (3, vs1)) ∧ (vs1[1]? = some (.int (z5))) ∧ (((z5 = 0) → wq_St_isLatin1_18 g post mc ms  S (1) (0) (0)) ∧ (¬ (z5 = 0) → wq_St_isLatin1_17 g post mc ms  S (0) (0))))
set_option maxRecDepth 100000 in
set_option maxHeartbeats 4000000 in
theorem c_St_isLatin1 (l : Launch) (g : Gm) (sz : Nat) (S : StC) (h0 : Nat) (post : Int32 → StC → Prop) (mc ms : Nat) (hw : wp_St_isLatin1 g post mc ms S h0) : Met l y_St_isLatin1 (.code y_St_isLatin1 b_St_isLatin1 1 (some .boolean) :: w_C) (rmA 0 0 mc ms) (va_Pc [.ref (h0)] (PC g sz S)) (va_Qi post (BC g (AC g sz S)) (AC g sz S)) mc ms (AC g sz S) := by
  refine ofA_z (by decide) (Nat.le_of_ble_eq_true rfl) (fun p e s m args below meth c Q A H locs ls hx hb hml hts hown hK hA hC hN hmn kr hl hP hD hS => ?_)
  have hl : lv_has ls 1 [(0, .ref (h0))] := hl
  unfold wp_St_isLatin1 at hw
  have hcm : 0 ≤ mc := Nat.zero_le _
  have hzm : 0 ≤ ms := Nat.zero_le _
  have J18 : ∀ (S : StC) (t0 : Int32) (c0 : Nat) (z0 : Nat) (H : Heap) (locs : List Loc) (ls : Array Slot), c0 ≤ mc → z0 ≤ ms → wq_St_isLatin1_18 g post mc ms  S t0 c0 z0 → lv_has ls 1 [] → va_P g.1 classes (wC g S) H → va_D A (wC g S) → va_S A s.heap H locs → W p l e (rmA 0 0 mc ms) s m args below meth c H locs c0 z0 Q (F0 m 18 ls [.int (t0)]) := by
    intro S t0 c0 z0 H locs ls hcm hzm hw hl hP hD hS
    unfold wq_St_isLatin1_18 at hw
    obtain ⟨hnz, hw⟩ := hw
    exact kr (t0) S _ _ _ _ _ _ hcm hzm hnz hw hP hD hS d_St_isLatin1_18
  have J17 : ∀ (S : StC) (c0 : Nat) (z0 : Nat) (H : Heap) (locs : List Loc) (ls : Array Slot), c0 ≤ mc → z0 ≤ ms → wq_St_isLatin1_17 g post mc ms  S c0 z0 → lv_has ls 1 [] → va_P g.1 classes (wC g S) H → va_D A (wC g S) → va_S A s.heap H locs → W p l e (rmA 0 0 mc ms) s m args below meth c H locs c0 z0 Q (F0 m 17 ls []) := by
    intro S c0 z0 H locs ls hcm hzm hw hl hP hD hS
    unfold wq_St_isLatin1_17 at hw
    refine lv_iconst (v := 0) hx hb d_St_isLatin1_17 (by decide) ?_
    exact J18 S (0) (c0) (z0) _ _ _ hcm hzm hw (lv_sub hl [] rfl) hP hD hS
  refine va_gets (C := "java/lang/String") (n := "COMPACT_STRINGS") (d := "Z") (v := .int (1)) hx hb hC.2.2.2.1 hS hown (hts _ k_C_269) (fun _ h9 => h9) d_St_isLatin1_0 ?_
  obtain ⟨hc9, hw⟩ := hw
  refine lv_if_eq hx hb d_St_isLatin1_3 (tgt := 17) (by decide) (fun hc => absurd hc hc9) (fun hc => ?_)
  refine lv_aload_n hx hb d_St_isLatin1_6 rfl (lv_at hl 0 rfl) ?_
  obtain ⟨vs1, z5, ha2, hf3, hv4, hw⟩ := hw
  refine pg_C (S := S) (vs := vs1) (v := .int (z5)) (C := R_St) (F := F_St) (N := 4) hx hb hts hin_St hown hK hP ha2 hf3 rfl 1 (by decide) hv4 k_C_284 d_St_isLatin1_7 ?_
  refine lv_if_ne hx hb d_St_isLatin1_10 (tgt := 17) (by decide) (fun hc => ?_) (fun hc => ?_)
  · have hw := hw.2 hc
    exact J17 S (0) (0) _ _ _ hcm hzm hw (lv_sub hl [] rfl) hP hD hS
  · have hw := hw.1 hc
    refine lv_iconst (v := 1) hx hb d_St_isLatin1_13 (by decide) ?_
    refine lv_goto hx hb d_St_isLatin1_14 (tgt := 18) (by decide) ?_
    exact J18 S (1) (0) (0) _ _ _ hcm hzm hw (lv_sub hl [] rfl) hP hD hS
theorem d_Pr_checkIndex_0 : decode b_Pr_checkIndex 0 = .ok (.iload_n 0, 1) := by decide +kernel
theorem d_Pr_checkIndex_1 : decode b_Pr_checkIndex 1 = .ok (.ifCond .lt 8, 3) := by decide +kernel
theorem d_Pr_checkIndex_4 : decode b_Pr_checkIndex 4 = .ok (.iload_n 0, 1) := by decide +kernel
theorem d_Pr_checkIndex_5 : decode b_Pr_checkIndex 5 = .ok (.iload_n 1, 1) := by decide +kernel
theorem d_Pr_checkIndex_6 : decode b_Pr_checkIndex 6 = .ok (.if_icmp .lt 10, 3) := by decide +kernel
theorem d_Pr_checkIndex_9 : decode b_Pr_checkIndex 9 = .ok (.aload_n 2, 1) := by decide +kernel
theorem d_Pr_checkIndex_10 : decode b_Pr_checkIndex 10 = .ok (.iload_n 0, 1) := by decide +kernel
theorem d_Pr_checkIndex_11 : decode b_Pr_checkIndex 11 = .ok (.iload_n 1, 1) := by decide +kernel
theorem d_Pr_checkIndex_12 : decode b_Pr_checkIndex 12 = .ok (.invokestatic 95, 3) := by decide +kernel
theorem d_Pr_checkIndex_15 : decode b_Pr_checkIndex 15 = .ok (.athrow, 1) := by decide +kernel
theorem d_Pr_checkIndex_16 : decode b_Pr_checkIndex 16 = .ok (.iload_n 0, 1) := by decide +kernel
theorem d_Pr_checkIndex_17 : decode b_Pr_checkIndex 17 = .ok (.ireturn, 1) := by decide +kernel
def wp_Pr_checkIndex (g : Gm) (post : Int32 → StC → Prop) (mc ms : Nat) (S : StC) (a0 : Int32) (a1 : Int32) (a2 : Option Nat) : Prop :=
  (¬ (a0 < 0)) ∧ ((a0 < a1) ∧ (post (a0) S))
set_option maxRecDepth 100000 in
set_option maxHeartbeats 4000000 in
theorem c_Pr_checkIndex (l : Launch) (g : Gm) (sz : Nat) (S : StC) (a0 : Int32) (a1 : Int32) (a2 : Option Nat) (post : Int32 → StC → Prop) (mc ms : Nat) (hw : wp_Pr_checkIndex g post mc ms S a0 a1 a2) : Met l y_Pr_checkIndex (.code y_Pr_checkIndex b_Pr_checkIndex 3 (some .int) :: w_C) (rmA 0 0 mc ms) (va_Pc [.int (a0), .int (a1), va_rf (a2)] (PC g sz S)) (va_Qi post (BC g (AC g sz S)) (AC g sz S)) mc ms (AC g sz S) := by
  refine ofA_i (by decide) (by cases a2 <;> exact Nat.le_of_ble_eq_true rfl) (fun p e s m args below meth c Q A H locs ls hx hb hml hts hown hK hA hC hN hmn kr hl hP hD hS => ?_)
  have hl : lv_has ls 3 [(0, .int (a0)), (1, .int (a1)), (2, va_rf (a2))] := hl
  unfold wp_Pr_checkIndex at hw
  have hcm : 0 ≤ mc := Nat.zero_le _
  have hzm : 0 ≤ ms := Nat.zero_le _
  refine lv_iload_n hx hb d_Pr_checkIndex_0 rfl (lv_at hl 0 rfl) ?_
  obtain ⟨hc9, hw⟩ := hw
  refine lv_if_lt hx hb d_Pr_checkIndex_1 (tgt := 9) (by decide) (fun hc => absurd hc hc9) (fun hc => ?_)
  refine lv_iload_n hx hb d_Pr_checkIndex_4 rfl (lv_at hl 0 rfl) ?_
  refine lv_iload_n hx hb d_Pr_checkIndex_5 rfl (lv_at hl 1 rfl) ?_
  obtain ⟨hc9, hw⟩ := hw
  refine lv_icmp_lt hx hb d_Pr_checkIndex_6 (tgt := 16) (by decide) (fun hc => ?_) (fun hc => absurd hc9 hc)
  refine lv_iload_n hx hb d_Pr_checkIndex_16 rfl (lv_at hl 0 rfl) ?_
  exact kr (a0) S _ _ _ _ _ _ hcm hzm hw hP hD hS d_Pr_checkIndex_17
theorem qA_15 {R : Room} {s : State} {args : Array Value} {mc1 ms1 : Nat} (hts : ∀ w ∈ w_C, w.before args s = true) (hR : (rmA 0 0 mc1 ms1).frames + 1 ≤ R.frames ∧ 8 + (3 + 11) + (rmA 0 0 mc1 ms1).locals ≤ R.locals) : CallB R s args "java/lang/String" 1059 y_Pr_checkIndex b_Pr_checkIndex 3 (some .int) (.code y_Pr_checkIndex b_Pr_checkIndex 3 (some .int) :: w_C) (rmA 0 0 mc1 ms1) mc1 ms1 3 ∧ (Cond.static y_Pr_checkIndex).before args s = true := ⟨callB_of 3 hts (good_C k_C_236) rfl rfl rfl (hts _ k_C_17) (hts _ k_C_234) ⟨by decide +kernel, by decide +kernel, by decide +kernel⟩ hR, hts _ k_C_235⟩
theorem d_St_checkIndex_0 : decode b_St_checkIndex 0 = .ok (.iload_n 0, 1) := by decide +kernel
theorem d_St_checkIndex_1 : decode b_St_checkIndex 1 = .ok (.iload_n 1, 1) := by decide +kernel
theorem d_St_checkIndex_2 : decode b_St_checkIndex 2 = .ok (.getstatic 1053, 3) := by decide +kernel
theorem d_St_checkIndex_5 : decode b_St_checkIndex 5 = .ok (.invokestatic 1059, 3) := by decide +kernel
theorem d_St_checkIndex_8 : decode b_St_checkIndex 8 = .ok (.pop, 1) := by decide +kernel
theorem d_St_checkIndex_9 : decode b_St_checkIndex 9 = .ok (.return_, 1) := by decide +kernel
def wp_St_checkIndex (g : Gm) (post : StC → Prop) (mc ms : Nat) (S : StC) (a0 : Int32) (a1 : Int32) : Prop :=
  ∃ (mc1 : Nat) (ms2 : Nat), (0 + mc1 ≤ mc) ∧ (0 + ms2 ≤ ms) ∧ (wp_Pr_checkIndex g (fun (r4 : Int32) (S3 : StC) => (post S3)) mc1 ms2 S (a0) (a1) (fmtg g))
set_option maxRecDepth 100000 in
set_option maxHeartbeats 4000000 in
theorem c_St_checkIndex (l : Launch) (g : Gm) (sz : Nat) (S : StC) (a0 : Int32) (a1 : Int32) (post : StC → Prop) (mc ms : Nat) (hw : wp_St_checkIndex g post mc ms S a0 a1) : Met l y_St_checkIndex (.code y_St_checkIndex b_St_checkIndex 2 none :: w_C) (rmA 1 22 mc ms) (va_Pc [.int (a0), .int (a1)] (PC g sz S)) (va_Qv post (BC g (AC g sz S)) (AC g sz S)) mc ms (AC g sz S) := by
  refine ofA_v (by decide) (Nat.le_of_ble_eq_true rfl) (fun p e s m args below meth c Q A H locs ls hx hb hml hts hown hK hA hC hN hmn kr hl hP hD hS => ?_)
  have hl : lv_has ls 2 [(0, .int (a0)), (1, .int (a1))] := hl
  unfold wp_St_checkIndex at hw
  have hcm : 0 ≤ mc := Nat.zero_le _
  have hzm : 0 ≤ ms := Nat.zero_le _
  refine lv_iload_n hx hb d_St_checkIndex_0 rfl (lv_at hl 0 rfl) ?_
  refine lv_iload_n hx hb d_St_checkIndex_1 rfl (lv_at hl 1 rfl) ?_
  refine va_gets (C := "jdk/internal/util/Preconditions") (n := "SIOOBE_FORMATTER") (d := "Ljava/util/function/BiFunction;") (v := va_rf (fmtg g)) hx hb hC.2.2.2.2 hS hown (hts _ k_C_215) (fun _ h9 => h9) d_St_checkIndex_2 ?_
  obtain ⟨mc1, ms2, hcm, hzm, hw⟩ := hw
  refine cA_iS (As := [.int (a0), .int (a1), va_rf (fmtg g)]) (rest := []) hx hb hml hown hts hK hC hN hP hD hS hA hcm hzm hl.1  (qA_15 hts ⟨Nat.le_of_ble_eq_true rfl, Nat.le_of_ble_eq_true rfl⟩) (c_Pr_checkIndex l g H.size _ (a0) (a1) (fmtg g) _ _ _ hw) rfl rfl (Nat.le_of_ble_eq_true rfl) d_St_checkIndex_5 (fun r4 S3 H locs hw hP hD hS => ?_)
  refine lv_pop hx hb d_St_checkIndex_8 rfl ?_
  exact kr S3 _ _ _ _ _ _ hcm hzm hw hP hD hS d_St_checkIndex_9
theorem qA_16 {R : Room} {s : State} {args : Array Value} {mc1 ms1 : Nat} (hts : ∀ w ∈ w_C, w.before args s = true) (hR : (rmA 1 22 mc1 ms1).frames + 1 ≤ R.frames ∧ 8 + (2 + 11) + (rmA 1 22 mc1 ms1).locals ≤ R.locals) : CallB R s args "java/lang/StringLatin1" 9 y_St_checkIndex b_St_checkIndex 2 none (.code y_St_checkIndex b_St_checkIndex 2 none :: w_C) (rmA 1 22 mc1 ms1) mc1 ms1 2 ∧ (Cond.static y_St_checkIndex).before args s = true := ⟨callB_of 2 hts (good_C k_C_233) rfl rfl rfl (hts _ k_C_3) (hts _ k_C_340) ⟨by decide +kernel, by decide +kernel, by decide +kernel⟩ hR, hts _ k_C_232⟩
theorem d_La_charAt_0 : decode b_La_charAt 0 = .ok (.iload_n 1, 1) := by decide +kernel
theorem d_La_charAt_1 : decode b_La_charAt 1 = .ok (.aload_n 0, 1) := by decide +kernel
theorem d_La_charAt_2 : decode b_La_charAt 2 = .ok (.arraylength, 1) := by decide +kernel
theorem d_La_charAt_3 : decode b_La_charAt 3 = .ok (.invokestatic 9, 3) := by decide +kernel
theorem d_La_charAt_6 : decode b_La_charAt 6 = .ok (.aload_n 0, 1) := by decide +kernel
theorem d_La_charAt_7 : decode b_La_charAt 7 = .ok (.iload_n 1, 1) := by decide +kernel
theorem d_La_charAt_8 : decode b_La_charAt 8 = .ok (.baload, 1) := by decide +kernel
theorem d_La_charAt_9 : decode b_La_charAt 9 = .ok (.sipush 255, 3) := by decide +kernel
theorem d_La_charAt_12 : decode b_La_charAt 12 = .ok (.iand, 1) := by decide +kernel
theorem d_La_charAt_13 : decode b_La_charAt 13 = .ok (.i2c, 1) := by decide +kernel
theorem d_La_charAt_14 : decode b_La_charAt 14 = .ok (.ireturn, 1) := by decide +kernel
def wp_La_charAt (g : Gm) (post : Int32 → StC → Prop) (mc ms : Nat) (S : StC) (a0 : Nat) (a1 : Int32) : Prop :=
  ∃ (n1 : Nat) (f2 : Nat → Int32), (a0 ∈ S.2.2.2.2.2.1) ∧ (S.2.2.2.2.2.2 a0 = .inl (g.2.1 3, n1, .inl f2)) ∧ (∃ (mc5 : Nat) (ms6 : Nat), (0 + mc5 ≤ mc) ∧ (0 + ms6 ≤ ms) ∧ (wp_St_checkIndex g (fun S7 : StC => (∃ (n8 : Nat) (f9 : Nat → Int32), (a0 ∈ S7.2.2.2.2.2.1) ∧ (S7.2.2.2.2.2.2 a0 = .inl (g.2.1 3, n8, .inl f9)) ∧ (vp_in a1 n8) ∧ ((narrow .char (.int ((((Int32.toUInt32 ((f9 (Int32.toNatClampNeg (a1))) &&& 255)) % 65536).toInt32))) = .int ((((Int32.toUInt32 ((f9 (Int32.toNatClampNeg (a1))) &&& 255)) % 65536).toInt32))) ∧ (post ((((Int32.toUInt32 ((f9 (Int32.toNatClampNeg (a1))) &&& 255)) % 65536).toInt32)) S7)))) mc5 ms6 S (a1) ((Int32.ofNat n1))))
set_option maxRecDepth 100000 in
set_option maxHeartbeats 4000000 in
theorem c_La_charAt (l : Launch) (g : Gm) (sz : Nat) (S : StC) (a0 : Nat) (a1 : Int32) (post : Int32 → StC → Prop) (mc ms : Nat) (hw : wp_La_charAt g post mc ms S a0 a1) : Met l y_La_charAt (.code y_La_charAt b_La_charAt 2 (some .char) :: w_C) (rmA 2 43 mc ms) (va_Pc [.ref (a0), .int (a1)] (PC g sz S)) (va_Qi post (BC g (AC g sz S)) (AC g sz S)) mc ms (AC g sz S) := by
  refine ofA_z (by decide) (Nat.le_of_ble_eq_true rfl) (fun p e s m args below meth c Q A H locs ls hx hb hml hts hown hK hA hC hN hmn kr hl hP hD hS => ?_)
  have hl : lv_has ls 2 [(0, .ref (a0)), (1, .int (a1))] := hl
  unfold wp_La_charAt at hw
  have hcm : 0 ≤ mc := Nat.zero_le _
  have hzm : 0 ≤ ms := Nat.zero_le _
  refine lv_iload_n hx hb d_La_charAt_0 rfl (lv_at hl 1 rfl) ?_
  refine lv_aload_n hx hb d_La_charAt_1 rfl (lv_at hl 0 rfl) ?_
  obtain ⟨n1, f2, ha3, hf4, hw⟩ := hw
  refine pal_C (S := S) hx hb hK hP ha3 hf4 d_La_charAt_2 ?_
  obtain ⟨mc5, ms6, hcm, hzm, hw⟩ := hw
  refine cA_vS (As := [.int (a1), .int ((Int32.ofNat n1))]) (rest := []) hx hb hml hown hts hK hC hN hP hD hS hA hcm hzm hl.1  (qA_16 hts ⟨Nat.le_of_ble_eq_true rfl, Nat.le_of_ble_eq_true rfl⟩) (c_St_checkIndex l g H.size _ (a1) ((Int32.ofNat n1)) _ _ _ hw) rfl rfl (Nat.le_of_ble_eq_true rfl) d_La_charAt_3 (fun S7 H locs hw hP hD hS => ?_)
  refine lv_aload_n hx hb d_La_charAt_6 rfl (lv_at hl 0 rfl) ?_
  refine lv_iload_n hx hb d_La_charAt_7 rfl (lv_at hl 1 rfl) ?_
  obtain ⟨n8, f9, ha10, hf11, hi12, hw⟩ := hw
  refine pbl_C (S := S7) hx hb hK hP ha10 hf11 hi12 d_La_charAt_8 ?_
  refine lv_sipush (v := 255) hx hb d_La_charAt_9 (by decide) ?_
  refine lv_iand hx hb d_La_charAt_12 ?_
  refine lv_i2c (v := ((Int32.toUInt32 ((f9 (Int32.toNatClampNeg (a1))) &&& 255)) % 65536).toInt32) hx hb d_La_charAt_13 rfl ?_
  obtain ⟨hnz, hw⟩ := hw
  exact kr ((((Int32.toUInt32 ((f9 (Int32.toNatClampNeg (a1))) &&& 255)) % 65536).toInt32)) S7 _ _ _ _ _ _ hcm hzm hnz hw hP hD hS d_La_charAt_14
theorem qA_17 {R : Room} {s : State} {args : Array Value} {mc1 ms1 : Nat} (hts : ∀ w ∈ w_C, w.before args s = true) (hR : (rmA 0 0 mc1 ms1).frames + 1 ≤ R.frames ∧ 8 + (1 + 11) + (rmA 0 0 mc1 ms1).locals ≤ R.locals) : CallW R s args "java/lang/String" R_St 492 y_St_isLatin1 b_St_isLatin1 1 (some .boolean) (.code y_St_isLatin1 b_St_isLatin1 1 (some .boolean) :: w_C) (rmA 0 0 mc1 ms1) mc1 ms1 0 := ⟨callB_of 0 hts (good_C k_C_336) rfl rfl rfl (hts _ k_C_3) (hts _ k_C_333) ⟨by decide +kernel, by decide +kernel, by decide +kernel⟩ hR, hts _ k_C_334, hts _ k_C_335⟩
theorem qA_18 {R : Room} {s : State} {args : Array Value} {mc1 ms1 : Nat} (hts : ∀ w ∈ w_C, w.before args s = true) (hR : (rmA 2 43 mc1 ms1).frames + 1 ≤ R.frames ∧ 8 + (2 + 11) + (rmA 2 43 mc1 ms1).locals ≤ R.locals) : CallB R s args "java/lang/String" 495 y_La_charAt b_La_charAt 2 (some .char) (.code y_La_charAt b_La_charAt 2 (some .char) :: w_C) (rmA 2 43 mc1 ms1) mc1 ms1 2 ∧ (Cond.static y_La_charAt).before args s = true := ⟨callB_of 2 hts (good_C k_C_339) rfl rfl rfl (hts _ k_C_16) (hts _ k_C_337) ⟨by decide +kernel, by decide +kernel, by decide +kernel⟩ hR, hts _ k_C_338⟩
theorem d_St_charAt_0 : decode b_St_charAt 0 = .ok (.aload_n 0, 1) := by decide +kernel
theorem d_St_charAt_1 : decode b_St_charAt 1 = .ok (.invokevirtual 492, 3) := by decide +kernel
theorem d_St_charAt_4 : decode b_St_charAt 4 = .ok (.ifCond .eq 12, 3) := by decide +kernel
theorem d_St_charAt_7 : decode b_St_charAt 7 = .ok (.aload_n 0, 1) := by decide +kernel
theorem d_St_charAt_8 : decode b_St_charAt 8 = .ok (.getfield 9, 3) := by decide +kernel
theorem d_St_charAt_11 : decode b_St_charAt 11 = .ok (.iload_n 1, 1) := by decide +kernel
theorem d_St_charAt_12 : decode b_St_charAt 12 = .ok (.invokestatic 495, 3) := by decide +kernel
theorem d_St_charAt_15 : decode b_St_charAt 15 = .ok (.ireturn, 1) := by decide +kernel
theorem d_St_charAt_16 : decode b_St_charAt 16 = .ok (.aload_n 0, 1) := by decide +kernel
theorem d_St_charAt_17 : decode b_St_charAt 17 = .ok (.getfield 9, 3) := by decide +kernel
theorem d_St_charAt_20 : decode b_St_charAt 20 = .ok (.iload_n 1, 1) := by decide +kernel
theorem d_St_charAt_21 : decode b_St_charAt 21 = .ok (.invokestatic 498, 3) := by decide +kernel
theorem d_St_charAt_24 : decode b_St_charAt 24 = .ok (.ireturn, 1) := by decide +kernel
def wp_St_charAt (g : Gm) (post : Int32 → StC → Prop) (mc ms : Nat) (S : StC) (h0 : Nat) (a0 : Int32) : Prop :=
  (isStr g S (h0)) ∧ (∃ (mc2 : Nat) (ms3 : Nat), (0 + mc2 ≤ mc) ∧ (0 + ms3 ≤ ms) ∧ (wp_St_isLatin1 g (fun (r5 : Int32) (S4 : StC) => ((¬ (r5 = 0)) ∧ (∃ (vs6 : List Value) (z10 : Nat), (h0 ∈ S4.2.2.2.2.2.1) ∧ (S4.2.2.2.2.2.2 h0 = .inr (3, vs6)) ∧ (vs6[0]? = some (.ref (z10))) ∧ (∃ (mc11 : Nat) (ms12 : Nat), ((0 + mc2) + mc11 ≤ mc) ∧ ((0 + ms3) + ms12 ≤ ms) ∧ (wp_La_charAt g (fun (r14 : Int32) (S13 : StC) => ((narrow .char (.int (r14)) = .int (r14)) ∧ (post (r14) S13))) mc11 ms12 S4 (z10) (a0)))))) mc2 ms3 S (h0)))
set_option maxRecDepth 100000 in
set_option maxHeartbeats 4000000 in
theorem c_St_charAt (l : Launch) (g : Gm) (sz : Nat) (S : StC) (h0 : Nat) (a0 : Int32) (post : Int32 → StC → Prop) (mc ms : Nat) (hw : wp_St_charAt g post mc ms S h0 a0) : Met l y_St_charAt (.code y_St_charAt b_St_charAt 2 (some .char) :: w_C) (rmA 3 64 mc ms) (va_Pc [.ref (h0), .int (a0)] (PC g sz S)) (va_Qi post (BC g (AC g sz S)) (AC g sz S)) mc ms (AC g sz S) := by
  refine ofA_z (by decide) (Nat.le_of_ble_eq_true rfl) (fun p e s m args below meth c Q A H locs ls hx hb hml hts hown hK hA hC hN hmn kr hl hP hD hS => ?_)
  have hl : lv_has ls 2 [(0, .ref (h0)), (1, .int (a0))] := hl
  unfold wp_St_charAt at hw
  have hcm : 0 ≤ mc := Nat.zero_le _
  have hzm : 0 ≤ ms := Nat.zero_le _
  refine lv_aload_n hx hb d_St_charAt_0 rfl (lv_at hl 0 rfl) ?_
  obtain ⟨hsr1, hw⟩ := hw
  obtain ⟨mc2, ms3, hcm, hzm, hw⟩ := hw
  refine cA_iV (As := []) (rest := []) hx hb hml hown hts hK hC hN hP hD hS hA hcm hzm hl.1 (strv_C hK hC hP hS hsr1) (qA_17 hts ⟨Nat.le_of_ble_eq_true rfl, Nat.le_of_ble_eq_true rfl⟩) (c_St_isLatin1 l g H.size _ (h0) _ _ _ hw) rfl rfl (Nat.le_of_ble_eq_true rfl) d_St_charAt_1 (fun r5 S4 H locs hw hP hD hS => ?_)
  obtain ⟨hc9, hw⟩ := hw
  refine lv_if_eq hx hb d_St_charAt_4 (tgt := 16) (by decide) (fun hc => absurd hc hc9) (fun hc => ?_)
  refine lv_aload_n hx hb d_St_charAt_7 rfl (lv_at hl 0 rfl) ?_
  obtain ⟨vs6, z10, ha7, hf8, hv9, hw⟩ := hw
  refine pg_C (S := S4) (vs := vs6) (v := .ref (z10)) (C := R_St) (F := F_St) (N := 4) hx hb hts hin_St hown hK hP ha7 hf8 rfl 0 (by decide) hv9 k_C_283 d_St_charAt_8 ?_
  refine lv_iload_n hx hb d_St_charAt_11 rfl (lv_at hl 1 rfl) ?_
  obtain ⟨mc11, ms12, hcm, hzm, hw⟩ := hw
  refine cA_iS (As := [.ref (z10), .int (a0)]) (rest := []) hx hb hml hown hts hK hC hN hP hD hS hA hcm hzm hl.1  (qA_18 hts ⟨Nat.le_of_ble_eq_true rfl, Nat.le_of_ble_eq_true rfl⟩) (c_La_charAt l g H.size _ (z10) (a0) _ _ _ hw) rfl rfl (Nat.le_of_ble_eq_true rfl) d_St_charAt_12 (fun r14 S13 H locs hw hP hD hS => ?_)
  obtain ⟨hnz, hw⟩ := hw
  exact kr (r14) S13 _ _ _ _ _ _ hcm hzm hnz hw hP hD hS d_St_charAt_15
theorem qA_19 {R : Room} {s : State} {args : Array Value} {mc1 ms1 : Nat} (hts : ∀ w ∈ w_C, w.before args s = true) (hR : (rmA 1 20 mc1 ms1).frames + 1 ≤ R.frames ∧ 8 + (1 + 11) + (rmA 1 20 mc1 ms1).locals ≤ R.locals) : CallW R s args "WordSmith$Reader" R_St 57 y_St_length b_St_length 1 (some .int) (.code y_St_length b_St_length 1 (some .int) :: w_C) (rmA 1 20 mc1 ms1) mc1 ms1 0 := ⟨callB_of 0 hts (good_C k_C_324) rfl rfl rfl (hts _ k_C_3) (hts _ k_C_321) ⟨by decide +kernel, by decide +kernel, by decide +kernel⟩ hR, hts _ k_C_322, hts _ k_C_323⟩
theorem qA_20 {R : Room} {s : State} {args : Array Value} {mc1 ms1 : Nat} (hts : ∀ w ∈ w_C, w.before args s = true) (hR : (rmA 3 64 mc1 ms1).frames + 1 ≤ R.frames ∧ 8 + (2 + 11) + (rmA 3 64 mc1 ms1).locals ≤ R.locals) : CallW R s args "WordSmith$Reader" R_St 61 y_St_charAt b_St_charAt 2 (some .char) (.code y_St_charAt b_St_charAt 2 (some .char) :: w_C) (rmA 3 64 mc1 ms1) mc1 ms1 1 := ⟨callB_of 1 hts (good_C k_C_332) rfl rfl rfl (hts _ k_C_3) (hts _ k_C_329) ⟨by decide +kernel, by decide +kernel, by decide +kernel⟩ hR, hts _ k_C_330, hts _ k_C_331⟩
theorem d_Rd_skipSpaces_0 : decode b_Rd_skipSpaces 0 = .ok (.aload_n 0, 1) := by decide +kernel
theorem d_Rd_skipSpaces_1 : decode b_Rd_skipSpaces 1 = .ok (.getfield 34, 3) := by decide +kernel
theorem d_Rd_skipSpaces_4 : decode b_Rd_skipSpaces 4 = .ok (.aload_n 0, 1) := by decide +kernel
theorem d_Rd_skipSpaces_5 : decode b_Rd_skipSpaces 5 = .ok (.getfield 27, 3) := by decide +kernel
theorem d_Rd_skipSpaces_8 : decode b_Rd_skipSpaces 8 = .ok (.invokevirtual 57, 3) := by decide +kernel
theorem d_Rd_skipSpaces_11 : decode b_Rd_skipSpaces 11 = .ok (.if_icmp .ge 32, 3) := by decide +kernel
theorem d_Rd_skipSpaces_14 : decode b_Rd_skipSpaces 14 = .ok (.aload_n 0, 1) := by decide +kernel
theorem d_Rd_skipSpaces_15 : decode b_Rd_skipSpaces 15 = .ok (.getfield 27, 3) := by decide +kernel
theorem d_Rd_skipSpaces_18 : decode b_Rd_skipSpaces 18 = .ok (.aload_n 0, 1) := by decide +kernel
theorem d_Rd_skipSpaces_19 : decode b_Rd_skipSpaces 19 = .ok (.getfield 34, 3) := by decide +kernel
theorem d_Rd_skipSpaces_22 : decode b_Rd_skipSpaces 22 = .ok (.invokevirtual 61, 3) := by decide +kernel
theorem d_Rd_skipSpaces_25 : decode b_Rd_skipSpaces 25 = .ok (.bipush 32, 2) := by decide +kernel
theorem d_Rd_skipSpaces_27 : decode b_Rd_skipSpaces 27 = .ok (.if_icmp .ne 16, 3) := by decide +kernel
theorem d_Rd_skipSpaces_30 : decode b_Rd_skipSpaces 30 = .ok (.aload_n 0, 1) := by decide +kernel
theorem d_Rd_skipSpaces_31 : decode b_Rd_skipSpaces 31 = .ok (.dup, 1) := by decide +kernel
theorem d_Rd_skipSpaces_32 : decode b_Rd_skipSpaces 32 = .ok (.getfield 34, 3) := by decide +kernel
theorem d_Rd_skipSpaces_35 : decode b_Rd_skipSpaces 35 = .ok (.iconst 1, 1) := by decide +kernel
theorem d_Rd_skipSpaces_36 : decode b_Rd_skipSpaces 36 = .ok (.iadd, 1) := by decide +kernel
theorem d_Rd_skipSpaces_37 : decode b_Rd_skipSpaces 37 = .ok (.putfield 34, 3) := by decide +kernel
theorem d_Rd_skipSpaces_40 : decode b_Rd_skipSpaces 40 = .ok (.goto (-40), 3) := by decide +kernel
theorem d_Rd_skipSpaces_43 : decode b_Rd_skipSpaces 43 = .ok (.return_, 1) := by decide +kernel
def wq_Rd_skipSpaces_43 (g : Gm) (post : StC → Prop) (mc ms : Nat)  (S : StC) (c0 : Nat) (z0 : Nat) : Prop :=
  post S
def wq_Rd_skipSpaces_0 (g : Gm) (post : StC → Prop) (mc ms : Nat)  : Nat → StC → Nat → Nat → Prop
  | 0, _, _, _ => False
  | n0 + 1, S, c0, z0 =>
    (isStr g S ((S.2.2.1 1))) ∧ (∃ (mc2 : Nat) (ms3 : Nat), (c0 + mc2 ≤ mc) ∧ (z0 + ms3 ≤ ms) ∧ (wp_St_length g (fun (r5 : Int32) (S4 : StC) => (((r5 ≤ (S.1 3)) → wq_Rd_skipSpaces_43 g post mc ms  S4 ((c0 + mc2)) ((z0 + ms3))) ∧ (¬ (r5 ≤ (S.1 3)) → (isStr g S4 ((S4.2.2.1 1))) ∧ (∃ (mc7 : Nat) (ms8 : Nat), ((c0 + mc2) + mc7 ≤ mc) ∧ ((z0 + ms3) + ms8 ≤ ms) ∧ (wp_St_charAt g (fun (r10 : Int32) (S9 : StC) => (((r10 = 32) → (wq_Rd_skipSpaces_0 g post mc ms  n0) ((upd S9.1 3 (((S9.1 3) + 1))), S9.2) (((c0 + mc2) + mc7)) (((z0 + ms3) + ms8))) ∧ (¬ (r10 = 32) → wq_Rd_skipSpaces_43 g post mc ms  S9 (((c0 + mc2) + mc7)) (((z0 + ms3) + ms8))))) mc7 ms8 S4 ((S4.2.2.1 1)) ((S4.1 3))))))) mc2 ms3 S ((S.2.2.1 1))))
def wp_Rd_skipSpaces (g : Gm) (post : StC → Prop) (mc ms : Nat) (S : StC)  : Prop :=
  ∃ nn : Nat, wq_Rd_skipSpaces_0 g post mc ms  nn S (0) (0)
set_option maxRecDepth 100000 in
set_option maxHeartbeats 4000000 in
theorem c_Rd_skipSpaces (l : Launch) (g : Gm) (sz : Nat) (S : StC)  (post : StC → Prop) (mc ms : Nat) (hw : wp_Rd_skipSpaces g post mc ms S ) : Met l y_Rd_skipSpaces (.code y_Rd_skipSpaces b_Rd_skipSpaces 1 none :: w_C) (rmA 4 85 mc ms) (va_Pc [.ref (g.2.2 2)] (PC g sz S)) (va_Qv post (BC g (AC g sz S)) (AC g sz S)) mc ms (AC g sz S) := by
  refine ofA_v (by decide) (Nat.le_of_ble_eq_true rfl) (fun p e s m args below meth c Q A H locs ls hx hb hml hts hown hK hA hC hN hmn kr hl hP hD hS => ?_)
  have hl : lv_has ls 1 [(0, .ref (g.2.2 2))] := hl
  unfold wp_Rd_skipSpaces at hw
  have hcm : 0 ≤ mc := Nat.zero_le _
  have hzm : 0 ≤ ms := Nat.zero_le _
  have J43 : ∀ (S : StC) (c0 : Nat) (z0 : Nat) (H : Heap) (locs : List Loc) (ls : Array Slot), c0 ≤ mc → z0 ≤ ms → wq_Rd_skipSpaces_43 g post mc ms  S c0 z0 → lv_has ls 1 [] → va_P g.1 classes (wC g S) H → va_D A (wC g S) → va_S A s.heap H locs → W p l e (rmA 4 85 mc ms) s m args below meth c H locs c0 z0 Q (F0 m 43 ls []) := by
    intro S c0 z0 H locs ls hcm hzm hw hl hP hD hS
    unfold wq_Rd_skipSpaces_43 at hw
    exact kr S _ _ _ _ _ _ hcm hzm hw hP hD hS d_Rd_skipSpaces_43
  have J0 : ∀ (n0 : Nat), ∀ (S : StC) (c0 : Nat) (z0 : Nat) (H : Heap) (locs : List Loc) (ls : Array Slot), c0 ≤ mc → z0 ≤ ms → wq_Rd_skipSpaces_0 g post mc ms  n0 S c0 z0 → lv_has ls 1 [(0, .ref (g.2.2 2))] → va_P g.1 classes (wC g S) H → va_D A (wC g S) → va_S A s.heap H locs → W p l e (rmA 4 85 mc ms) s m args below meth c H locs c0 z0 Q (F0 m 0 ls []) := by
    intro n0
    induction n0 with
    | zero => intro S c0 z0 H locs ls hcm hzm hw; exact hw.elim
    | succ n0 ih0 =>
      intro S c0 z0 H locs ls hcm hzm hw hl hP hD hS
      unfold wq_Rd_skipSpaces_0 at hw
      refine lv_aload_n hx hb d_Rd_skipSpaces_0 rfl (lv_at hl 0 rfl) ?_
      refine va_get (D := g.1) (ci := 4) (v := .int ((S.1 3))) (C := R_Rd) (T := F_Rd) (N := 6) hx hb hts hin_Rd hown hK hP 2 rfl rfl 3 (by decide) (hts _ k_C_130) (fun _ h9 => h9) rfl d_Rd_skipSpaces_1 ?_
      refine lv_aload_n hx hb d_Rd_skipSpaces_4 rfl (lv_at hl 0 rfl) ?_
      refine va_get (D := g.1) (ci := 4) (v := .ref ((S.2.2.1 1))) (C := R_Rd) (T := F_Rd) (N := 6) hx hb hts hin_Rd hown hK hP 2 rfl rfl 2 (by decide) (hts _ k_C_129) (fun _ h9 => h9) rfl d_Rd_skipSpaces_5 ?_
      obtain ⟨hsr1, hw⟩ := hw
      obtain ⟨mc2, ms3, hcm, hzm, hw⟩ := hw
      refine cA_iV (As := []) (rest := [.int ((S.1 3))]) hx hb hml hown hts hK hC hN hP hD hS hA hcm hzm hl.1 (strv_C hK hC hP hS hsr1) (qA_19 hts ⟨Nat.le_of_ble_eq_true rfl, Nat.le_of_ble_eq_true rfl⟩) (c_St_length l g H.size _ ((S.2.2.1 1)) _ _ _ hw) rfl rfl (Nat.le_of_ble_eq_true rfl) d_Rd_skipSpaces_8 (fun r5 S4 H locs hw hP hD hS => ?_)
      refine lv_icmp_ge hx hb d_Rd_skipSpaces_11 (tgt := 43) (by decide) (fun hc => ?_) (fun hc => ?_)
      · have hw := hw.1 hc
        exact J43 S4 ((c0 + mc2)) ((z0 + ms3)) _ _ _ hcm hzm hw (lv_sub hl [] rfl) hP hD hS
      · have hw := hw.2 hc
        refine lv_aload_n hx hb d_Rd_skipSpaces_14 rfl (lv_at hl 0 rfl) ?_
        refine va_get (D := g.1) (ci := 4) (v := .ref ((S4.2.2.1 1))) (C := R_Rd) (T := F_Rd) (N := 6) hx hb hts hin_Rd hown hK hP 2 rfl rfl 2 (by decide) (hts _ k_C_129) (fun _ h9 => h9) rfl d_Rd_skipSpaces_15 ?_
        refine lv_aload_n hx hb d_Rd_skipSpaces_18 rfl (lv_at hl 0 rfl) ?_
        refine va_get (D := g.1) (ci := 4) (v := .int ((S4.1 3))) (C := R_Rd) (T := F_Rd) (N := 6) hx hb hts hin_Rd hown hK hP 2 rfl rfl 3 (by decide) (hts _ k_C_130) (fun _ h9 => h9) rfl d_Rd_skipSpaces_19 ?_
        obtain ⟨hsr6, hw⟩ := hw
        obtain ⟨mc7, ms8, hcm, hzm, hw⟩ := hw
        refine cA_iV (As := [.int ((S4.1 3))]) (rest := []) hx hb hml hown hts hK hC hN hP hD hS hA hcm hzm hl.1 (strv_C hK hC hP hS hsr6) (qA_20 hts ⟨Nat.le_of_ble_eq_true rfl, Nat.le_of_ble_eq_true rfl⟩) (c_St_charAt l g H.size _ ((S4.2.2.1 1)) ((S4.1 3)) _ _ _ hw) rfl rfl (Nat.le_of_ble_eq_true rfl) d_Rd_skipSpaces_22 (fun r10 S9 H locs hw hP hD hS => ?_)
        refine lv_bipush (v := 32) hx hb d_Rd_skipSpaces_25 (by decide) ?_
        refine lv_icmp_ne hx hb d_Rd_skipSpaces_27 (tgt := 43) (by decide) (fun hc => ?_) (fun hc => ?_)
        · have hw := hw.2 hc
          exact J43 S9 (((c0 + mc2) + mc7)) (((z0 + ms3) + ms8)) _ _ _ hcm hzm hw (lv_sub hl [] rfl) hP hD hS
        · have hw := hw.1 hc
          refine lv_aload_n hx hb d_Rd_skipSpaces_30 rfl (lv_at hl 0 rfl) ?_
          refine lv_dup hx hb d_Rd_skipSpaces_31 rfl ?_
          refine va_get (D := g.1) (ci := 4) (v := .int ((S9.1 3))) (C := R_Rd) (T := F_Rd) (N := 6) hx hb hts hin_Rd hown hK hP 2 rfl rfl 3 (by decide) (hts _ k_C_130) (fun _ h9 => h9) rfl d_Rd_skipSpaces_32 ?_
          refine lv_iconst (v := 1) hx hb d_Rd_skipSpaces_35 (by decide) ?_
          refine lv_iadd hx hb d_Rd_skipSpaces_36 ?_
          refine pt_C (S2 := ((upd S9.1 3 (((S9.1 3) + 1))), S9.2)) (v := .int (((S9.1 3) + 1))) (C := R_Rd) (F := F_Rd) (N := 6) (ci := 4) hx hb hts hin_Rd t_Rd t_Rd_ok n_Rd hown hK hP hD hS 2 rfl rfl 3 (by decide) rfl rfl rfl (Nat.le_of_ble_eq_true rfl) (sI_C_3 g _ _) k_C_130 d_Rd_skipSpaces_37 (fun H locs hP hD hS => ?_)
          refine lv_goto hx hb d_Rd_skipSpaces_40 (tgt := 0) (by decide) ?_
          exact ih0 ((upd S9.1 3 (((S9.1 3) + 1))), S9.2) (((c0 + mc2) + mc7)) (((z0 + ms3) + ms8)) _ _ _ hcm hzm hw (lv_sub hl [0] rfl) hP hD hS
  obtain ⟨nn, hw⟩ := hw
  exact J0 nn S (0) (0) _ _ _ hcm hzm hw (lv_sub hl [0] rfl) hP hD hS
theorem d_Pr_checkFromToIndex_0 : decode b_Pr_checkFromToIndex 0 = .ok (.iload_n 0, 1) := by decide +kernel
theorem d_Pr_checkFromToIndex_1 : decode b_Pr_checkFromToIndex 1 = .ok (.ifCond .lt 13, 3) := by decide +kernel
theorem d_Pr_checkFromToIndex_4 : decode b_Pr_checkFromToIndex 4 = .ok (.iload_n 0, 1) := by decide +kernel
theorem d_Pr_checkFromToIndex_5 : decode b_Pr_checkFromToIndex 5 = .ok (.iload_n 1, 1) := by decide +kernel
theorem d_Pr_checkFromToIndex_6 : decode b_Pr_checkFromToIndex 6 = .ok (.if_icmp .gt 8, 3) := by decide +kernel
theorem d_Pr_checkFromToIndex_9 : decode b_Pr_checkFromToIndex 9 = .ok (.iload_n 1, 1) := by decide +kernel
theorem d_Pr_checkFromToIndex_10 : decode b_Pr_checkFromToIndex 10 = .ok (.iload_n 2, 1) := by decide +kernel
theorem d_Pr_checkFromToIndex_11 : decode b_Pr_checkFromToIndex 11 = .ok (.if_icmp .le 11, 3) := by decide +kernel
theorem d_Pr_checkFromToIndex_14 : decode b_Pr_checkFromToIndex 14 = .ok (.aload_n 3, 1) := by decide +kernel
theorem d_Pr_checkFromToIndex_15 : decode b_Pr_checkFromToIndex 15 = .ok (.iload_n 0, 1) := by decide +kernel
theorem d_Pr_checkFromToIndex_16 : decode b_Pr_checkFromToIndex 16 = .ok (.iload_n 1, 1) := by decide +kernel
theorem d_Pr_checkFromToIndex_17 : decode b_Pr_checkFromToIndex 17 = .ok (.iload_n 2, 1) := by decide +kernel
theorem d_Pr_checkFromToIndex_18 : decode b_Pr_checkFromToIndex 18 = .ok (.invokestatic 99, 3) := by decide +kernel
theorem d_Pr_checkFromToIndex_21 : decode b_Pr_checkFromToIndex 21 = .ok (.athrow, 1) := by decide +kernel
theorem d_Pr_checkFromToIndex_22 : decode b_Pr_checkFromToIndex 22 = .ok (.iload_n 0, 1) := by decide +kernel
theorem d_Pr_checkFromToIndex_23 : decode b_Pr_checkFromToIndex 23 = .ok (.ireturn, 1) := by decide +kernel
def wp_Pr_checkFromToIndex (g : Gm) (post : Int32 → StC → Prop) (mc ms : Nat) (S : StC) (a0 : Int32) (a1 : Int32) (a2 : Int32) (a3 : Option Nat) : Prop :=
  (¬ (a0 < 0)) ∧ ((¬ (a1 < a0)) ∧ ((a1 ≤ a2) ∧ (post (a0) S)))
set_option maxRecDepth 100000 in
set_option maxHeartbeats 4000000 in
theorem c_Pr_checkFromToIndex (l : Launch) (g : Gm) (sz : Nat) (S : StC) (a0 : Int32) (a1 : Int32) (a2 : Int32) (a3 : Option Nat) (post : Int32 → StC → Prop) (mc ms : Nat) (hw : wp_Pr_checkFromToIndex g post mc ms S a0 a1 a2 a3) : Met l y_Pr_checkFromToIndex (.code y_Pr_checkFromToIndex b_Pr_checkFromToIndex 4 (some .int) :: w_C) (rmA 0 0 mc ms) (va_Pc [.int (a0), .int (a1), .int (a2), va_rf (a3)] (PC g sz S)) (va_Qi post (BC g (AC g sz S)) (AC g sz S)) mc ms (AC g sz S) := by
  refine ofA_i (by decide) (by cases a3 <;> exact Nat.le_of_ble_eq_true rfl) (fun p e s m args below meth c Q A H locs ls hx hb hml hts hown hK hA hC hN hmn kr hl hP hD hS => ?_)
  have hl : lv_has ls 4 [(0, .int (a0)), (1, .int (a1)), (2, .int (a2)), (3, va_rf (a3))] := hl
  unfold wp_Pr_checkFromToIndex at hw
  have hcm : 0 ≤ mc := Nat.zero_le _
  have hzm : 0 ≤ ms := Nat.zero_le _
  refine lv_iload_n hx hb d_Pr_checkFromToIndex_0 rfl (lv_at hl 0 rfl) ?_
  obtain ⟨hc9, hw⟩ := hw
  refine lv_if_lt hx hb d_Pr_checkFromToIndex_1 (tgt := 14) (by decide) (fun hc => absurd hc hc9) (fun hc => ?_)
  refine lv_iload_n hx hb d_Pr_checkFromToIndex_4 rfl (lv_at hl 0 rfl) ?_
  refine lv_iload_n hx hb d_Pr_checkFromToIndex_5 rfl (lv_at hl 1 rfl) ?_
  obtain ⟨hc9, hw⟩ := hw
  refine lv_icmp_gt hx hb d_Pr_checkFromToIndex_6 (tgt := 14) (by decide) (fun hc => absurd hc hc9) (fun hc => ?_)
  refine lv_iload_n hx hb d_Pr_checkFromToIndex_9 rfl (lv_at hl 1 rfl) ?_
  refine lv_iload_n hx hb d_Pr_checkFromToIndex_10 rfl (lv_at hl 2 rfl) ?_
  obtain ⟨hc9, hw⟩ := hw
  refine lv_icmp_le hx hb d_Pr_checkFromToIndex_11 (tgt := 22) (by decide) (fun hc => ?_) (fun hc => absurd hc9 hc)
  refine lv_iload_n hx hb d_Pr_checkFromToIndex_22 rfl (lv_at hl 0 rfl) ?_
  exact kr (a0) S _ _ _ _ _ _ hcm hzm hw hP hD hS d_Pr_checkFromToIndex_23
theorem qA_21 {R : Room} {s : State} {args : Array Value} {mc1 ms1 : Nat} (hts : ∀ w ∈ w_C, w.before args s = true) (hR : (rmA 0 0 mc1 ms1).frames + 1 ≤ R.frames ∧ 8 + (4 + 11) + (rmA 0 0 mc1 ms1).locals ≤ R.locals) : CallB R s args "java/lang/String" 1062 y_Pr_checkFromToIndex b_Pr_checkFromToIndex 4 (some .int) (.code y_Pr_checkFromToIndex b_Pr_checkFromToIndex 4 (some .int) :: w_C) (rmA 0 0 mc1 ms1) mc1 ms1 4 ∧ (Cond.static y_Pr_checkFromToIndex).before args s = true := ⟨callB_of 4 hts (good_C k_C_357) rfl rfl rfl (hts _ k_C_17) (hts _ k_C_355) ⟨by decide +kernel, by decide +kernel, by decide +kernel⟩ hR, hts _ k_C_356⟩
theorem d_St_checkBoundsBeginEnd_0 : decode b_St_checkBoundsBeginEnd 0 = .ok (.iload_n 0, 1) := by decide +kernel
theorem d_St_checkBoundsBeginEnd_1 : decode b_St_checkBoundsBeginEnd 1 = .ok (.iload_n 1, 1) := by decide +kernel
theorem d_St_checkBoundsBeginEnd_2 : decode b_St_checkBoundsBeginEnd 2 = .ok (.iload_n 2, 1) := by decide +kernel
theorem d_St_checkBoundsBeginEnd_3 : decode b_St_checkBoundsBeginEnd 3 = .ok (.getstatic 1053, 3) := by decide +kernel
theorem d_St_checkBoundsBeginEnd_6 : decode b_St_checkBoundsBeginEnd 6 = .ok (.invokestatic 1062, 3) := by decide +kernel
theorem d_St_checkBoundsBeginEnd_9 : decode b_St_checkBoundsBeginEnd 9 = .ok (.pop, 1) := by decide +kernel
theorem d_St_checkBoundsBeginEnd_10 : decode b_St_checkBoundsBeginEnd 10 = .ok (.return_, 1) := by decide +kernel
def wp_St_checkBoundsBeginEnd (g : Gm) (post : StC → Prop) (mc ms : Nat) (S : StC) (a0 : Int32) (a1 : Int32) (a2 : Int32) : Prop :=
  ∃ (mc1 : Nat) (ms2 : Nat), (0 + mc1 ≤ mc) ∧ (0 + ms2 ≤ ms) ∧ (wp_Pr_checkFromToIndex g (fun (r4 : Int32) (S3 : StC) => (post S3)) mc1 ms2 S (a0) (a1) (a2) (fmtg g))
set_option maxRecDepth 100000 in
set_option maxHeartbeats 4000000 in
theorem c_St_checkBoundsBeginEnd (l : Launch) (g : Gm) (sz : Nat) (S : StC) (a0 : Int32) (a1 : Int32) (a2 : Int32) (post : StC → Prop) (mc ms : Nat) (hw : wp_St_checkBoundsBeginEnd g post mc ms S a0 a1 a2) : Met l y_St_checkBoundsBeginEnd (.code y_St_checkBoundsBeginEnd b_St_checkBoundsBeginEnd 3 none :: w_C) (rmA 1 23 mc ms) (va_Pc [.int (a0), .int (a1), .int (a2)] (PC g sz S)) (va_Qv post (BC g (AC g sz S)) (AC g sz S)) mc ms (AC g sz S) := by
  refine ofA_v (by decide) (Nat.le_of_ble_eq_true rfl) (fun p e s m args below meth c Q A H locs ls hx hb hml hts hown hK hA hC hN hmn kr hl hP hD hS => ?_)
  have hl : lv_has ls 3 [(0, .int (a0)), (1, .int (a1)), (2, .int (a2))] := hl
  unfold wp_St_checkBoundsBeginEnd at hw
  have hcm : 0 ≤ mc := Nat.zero_le _
  have hzm : 0 ≤ ms := Nat.zero_le _
  refine lv_iload_n hx hb d_St_checkBoundsBeginEnd_0 rfl (lv_at hl 0 rfl) ?_
  refine lv_iload_n hx hb d_St_checkBoundsBeginEnd_1 rfl (lv_at hl 1 rfl) ?_
  refine lv_iload_n hx hb d_St_checkBoundsBeginEnd_2 rfl (lv_at hl 2 rfl) ?_
  refine va_gets (C := "jdk/internal/util/Preconditions") (n := "SIOOBE_FORMATTER") (d := "Ljava/util/function/BiFunction;") (v := va_rf (fmtg g)) hx hb hC.2.2.2.2 hS hown (hts _ k_C_215) (fun _ h9 => h9) d_St_checkBoundsBeginEnd_3 ?_
  obtain ⟨mc1, ms2, hcm, hzm, hw⟩ := hw
  refine cA_iS (As := [.int (a0), .int (a1), .int (a2), va_rf (fmtg g)]) (rest := []) hx hb hml hown hts hK hC hN hP hD hS hA hcm hzm hl.1  (qA_21 hts ⟨Nat.le_of_ble_eq_true rfl, Nat.le_of_ble_eq_true rfl⟩) (c_Pr_checkFromToIndex l g H.size _ (a0) (a1) (a2) (fmtg g) _ _ _ hw) rfl rfl (Nat.le_of_ble_eq_true rfl) d_St_checkBoundsBeginEnd_6 (fun r4 S3 H locs hw hP hD hS => ?_)
  refine lv_pop hx hb d_St_checkBoundsBeginEnd_9 rfl ?_
  exact kr S3 _ _ _ _ _ _ hcm hzm hw hP hD hS d_St_checkBoundsBeginEnd_10
theorem d_St_init_0 : decode b_St_init 0 = .ok (.aload_n 0, 1) := by decide +kernel
theorem d_St_init_1 : decode b_St_init 1 = .ok (.invokespecial 1, 3) := by decide +kernel
theorem d_St_init_4 : decode b_St_init 4 = .ok (.aload_n 0, 1) := by decide +kernel
theorem d_St_init_5 : decode b_St_init 5 = .ok (.aload_n 1, 1) := by decide +kernel
theorem d_St_init_6 : decode b_St_init 6 = .ok (.putfield 9, 3) := by decide +kernel
theorem d_St_init_9 : decode b_St_init 9 = .ok (.aload_n 0, 1) := by decide +kernel
theorem d_St_init_10 : decode b_St_init 10 = .ok (.iload_n 2, 1) := by decide +kernel
theorem d_St_init_11 : decode b_St_init 11 = .ok (.putfield 15, 3) := by decide +kernel
theorem d_St_init_14 : decode b_St_init 14 = .ok (.return_, 1) := by decide +kernel
def wp_St_init (g : Gm) (post : StC → Prop) (mc ms : Nat) (S : StC) (h0 : Nat) (a0 : Nat) (a1 : Int32) : Prop :=
  ∃ (vs1 : List Value), (h0 ∈ S.2.2.2.2.2.1) ∧ (S.2.2.2.2.2.2 h0 = .inr (3, vs1)) ∧ (0 < vs1.length) ∧ (∃ (vs5 : List Value), (h0 ∈ S.2.2.2.2.2.1) ∧ ((va_up S.2.2.2.2.2.2 h0 (.inr (3, vs1.set 0 (.ref (a0))))) h0 = .inr (3, vs5)) ∧ (1 < vs5.length) ∧ ((narrow .byte (.int (a1)) = .int (a1)) ∧ (fits .byte (.int (a1)) = true) ∧ (post (S.1, S.2.1, S.2.2.1, S.2.2.2.1, S.2.2.2.2.1, S.2.2.2.2.2.1, (va_up (va_up S.2.2.2.2.2.2 h0 (.inr (3, vs1.set 0 (.ref (a0))))) h0 (.inr (3, vs5.set 1 (.int (a1)))))))))
set_option maxRecDepth 100000 in
set_option maxHeartbeats 4000000 in
theorem c_St_init (l : Launch) (g : Gm) (sz : Nat) (S : StC) (h0 : Nat) (a0 : Nat) (a1 : Int32) (post : StC → Prop) (mc ms : Nat) (hw : wp_St_init g post mc ms S h0 a0 a1) : Met l y_St_init (.code y_St_init b_St_init 3 none :: w_C) (rmA 1 20 mc ms) (va_Pc [.ref (h0), .ref (a0), .int (a1)] (PC g sz S)) (va_Qv post (BC g (AC g sz S)) (AC g sz S)) mc ms (AC g sz S) := by
  refine ofA_v (by decide) (Nat.le_of_ble_eq_true rfl) (fun p e s m args below meth c Q A H locs ls hx hb hml hts hown hK hA hC hN hmn kr hl hP hD hS => ?_)
  have hl : lv_has ls 3 [(0, .ref (h0)), (1, .ref (a0)), (2, .int (a1))] := hl
  unfold wp_St_init at hw
  have hcm : 0 ≤ mc := Nat.zero_le _
  have hzm : 0 ≤ ms := Nat.zero_le _
  refine lv_aload_n hx hb d_St_init_0 rfl (lv_at hl 0 rfl) ?_
  refine W.objInit hx hb hown (hts _ k_C_252) (hts _ k_C_26) (hts _ k_C_27) rfl (by rw [hml]; exact hl.1) rfl d_St_init_1 (Nat.le_of_ble_eq_true rfl) (Nat.le_of_ble_eq_true rfl) ?_
  refine W.eq (g2 := F0 m 4 ls []) rfl ?_
  refine lv_aload_n hx hb d_St_init_4 rfl (lv_at hl 0 rfl) ?_
  refine lv_aload_n hx hb d_St_init_5 rfl (lv_at hl 1 rfl) ?_
  obtain ⟨vs1, ha2, hf3, hk4, hw⟩ := hw
  refine ppF_C (S := S) (vs := vs1) (v := .ref (a0)) (C := R_St) (F := F_St) (N := 4) hx hb hts hin_St t_St t_St_ok n_St hown hK hP hD hS ha2 hf3 rfl 0 (by decide) rfl hmn rfl rfl rfl hk4 k_C_283 d_St_init_6 (fun H locs hP hD hS => ?_)
  have hP : va_P g.1 classes (wC g (S.1, S.2.1, S.2.2.1, S.2.2.2.1, S.2.2.2.2.1, S.2.2.2.2.2.1, (va_up S.2.2.2.2.2.2 h0 (.inr (3, vs1.set 0 (.ref (a0))))))) H := hP
  have hD : va_D A (wC g (S.1, S.2.1, S.2.2.1, S.2.2.2.1, S.2.2.2.2.1, S.2.2.2.2.2.1, (va_up S.2.2.2.2.2.2 h0 (.inr (3, vs1.set 0 (.ref (a0))))))) := hD
  refine lv_aload_n hx hb d_St_init_9 rfl (lv_at hl 0 rfl) ?_
  refine lv_iload_n hx hb d_St_init_10 rfl (lv_at hl 2 rfl) ?_
  obtain ⟨vs5, ha6, hf7, hk8, hw⟩ := hw
  obtain ⟨hn9, hf9, hw⟩ := hw
  refine ppF_C (S := (S.1, S.2.1, S.2.2.1, S.2.2.2.1, S.2.2.2.2.1, S.2.2.2.2.2.1, (va_up S.2.2.2.2.2.2 h0 (.inr (3, vs1.set 0 (.ref (a0))))))) (vs := vs5) (v := .int (a1)) (C := R_St) (F := F_St) (N := 4) hx hb hts hin_St t_St t_St_ok n_St hown hK hP hD hS ha6 hf7 rfl 1 (by decide) rfl hmn rfl hn9 hf9 hk8 k_C_284 d_St_init_11 (fun H locs hP hD hS => ?_)
  have hP : va_P g.1 classes (wC g (S.1, S.2.1, S.2.2.1, S.2.2.2.1, S.2.2.2.2.1, S.2.2.2.2.2.1, (va_up (va_up S.2.2.2.2.2.2 h0 (.inr (3, vs1.set 0 (.ref (a0))))) h0 (.inr (3, vs5.set 1 (.int (a1))))))) H := hP
  have hD : va_D A (wC g (S.1, S.2.1, S.2.2.1, S.2.2.2.1, S.2.2.2.2.1, S.2.2.2.2.2.1, (va_up (va_up S.2.2.2.2.2.2 h0 (.inr (3, vs1.set 0 (.ref (a0))))) h0 (.inr (3, vs5.set 1 (.int (a1))))))) := hD
  exact kr (S.1, S.2.1, S.2.2.1, S.2.2.2.1, S.2.2.2.2.1, S.2.2.2.2.2.1, (va_up (va_up S.2.2.2.2.2.2 h0 (.inr (3, vs1.set 0 (.ref (a0))))) h0 (.inr (3, vs5.set 1 (.int (a1)))))) _ _ _ _ _ _ hcm hzm hw hP hD hS d_St_init_14
theorem qA_22 {R : Room} {s : State} {args : Array Value} {mc1 ms1 : Nat} (hts : ∀ w ∈ w_C, w.before args s = true) (hR : (rmA 2 64 mc1 ms1).frames + 1 ≤ R.frames ∧ 8 + (3 + 11) + (rmA 2 64 mc1 ms1).locals ≤ R.locals) : CallB R s args "java/lang/StringLatin1" 232 y_Ar_copyOfRange b_Ar_copyOfRange 3 (some (.array .byte)) (.code y_Ar_copyOfRange b_Ar_copyOfRange 3 (some (.array .byte)) :: w_C) (rmA 2 64 mc1 ms1) mc1 ms1 3 ∧ (Cond.static y_Ar_copyOfRange).before args s = true := ⟨callB_of 3 hts (good_C k_C_262) rfl rfl rfl (hts _ k_C_14) (hts _ k_C_362) ⟨by decide +kernel, by decide +kernel, by decide +kernel⟩ hR, hts _ k_C_261⟩
theorem qA_23 {R : Room} {s : State} {args : Array Value} {mc1 ms1 : Nat} (hts : ∀ w ∈ w_C, w.before args s = true) (hR : (rmA 1 20 mc1 ms1).frames + 1 ≤ R.frames ∧ 8 + (3 + 11) + (rmA 1 20 mc1 ms1).locals ≤ R.locals) : CallB R s args "java/lang/StringLatin1" 112 y_St_init b_St_init 3 none (.code y_St_init b_St_init 3 none :: w_C) (rmA 1 20 mc1 ms1) mc1 ms1 2 ∧ y_St_init.name = "<init>" ∧ (Cond.instanceMethod y_St_init).before args s = true := ⟨callB_of 2 hts (good_C k_C_365) rfl rfl rfl (hts _ k_C_3) (hts _ k_C_363) ⟨by decide +kernel, by decide +kernel, by decide +kernel⟩ hR, rfl, hts _ k_C_364⟩
theorem d_La_newString_0 : decode b_La_newString 0 = .ok (.iload_n 2, 1) := by decide +kernel
theorem d_La_newString_1 : decode b_La_newString 1 = .ok (.ifCond .ne 6, 3) := by decide +kernel
theorem d_La_newString_4 : decode b_La_newString 4 = .ok (.ldc 151, 2) := by decide +kernel
theorem d_La_newString_6 : decode b_La_newString 6 = .ok (.areturn, 1) := by decide +kernel
theorem d_La_newString_7 : decode b_La_newString 7 = .ok (.new 1, 3) := by decide +kernel
theorem d_La_newString_10 : decode b_La_newString 10 = .ok (.dup, 1) := by decide +kernel
theorem d_La_newString_11 : decode b_La_newString 11 = .ok (.aload_n 0, 1) := by decide +kernel
theorem d_La_newString_12 : decode b_La_newString 12 = .ok (.iload_n 1, 1) := by decide +kernel
theorem d_La_newString_13 : decode b_La_newString 13 = .ok (.iload_n 1, 1) := by decide +kernel
theorem d_La_newString_14 : decode b_La_newString 14 = .ok (.iload_n 2, 1) := by decide +kernel
theorem d_La_newString_15 : decode b_La_newString 15 = .ok (.iadd, 1) := by decide +kernel
theorem d_La_newString_16 : decode b_La_newString 16 = .ok (.invokestatic 232, 3) := by decide +kernel
theorem d_La_newString_19 : decode b_La_newString 19 = .ok (.iconst 0, 1) := by decide +kernel
theorem d_La_newString_20 : decode b_La_newString 20 = .ok (.invokespecial 112, 3) := by decide +kernel
theorem d_La_newString_23 : decode b_La_newString 23 = .ok (.areturn, 1) := by decide +kernel
def wp_La_newString (g : Gm) (post : Option Nat → StC → Prop) (mc ms : Nat) (S : StC) (a0 : Nat) (a1 : Int32) (a2 : Int32) : Prop :=
  ((a2 = 0) → post (some ((g.2.2 252))) S) ∧ (¬ (a2 = 0) → (0 + 1 ≤ mc) ∧ (0 + 4 ≤ ms) ∧ (∀ q1 : Nat, q1 ∉ S.2.2.2.2.2.1 → ∃ (mc3 : Nat) (ms4 : Nat), ((0 + 1) + mc3 ≤ mc) ∧ ((0 + 4) + ms4 ≤ ms) ∧ (wp_Ar_copyOfRange g (fun (r6 : Option Nat) (S5 : StC) => (∃ (y7 : Nat), (r6 = some y7) ∧ (∃ (mc9 : Nat) (ms10 : Nat), (((0 + 1) + mc3) + mc9 ≤ mc) ∧ (((0 + 4) + ms4) + ms10 ≤ ms) ∧ (wp_St_init g (fun S11 : StC => (post (some (q1)) S11)) mc9 ms10 S5 (q1) (y7) (0))))) mc3 ms4 (S.1, S.2.1, S.2.2.1, S.2.2.2.1, S.2.2.2.2.1, (S.2.2.2.2.2.1 ++ [q1]), (va_up S.2.2.2.2.2.2 q1 (.inr (3, [.null, .int 0, .int 0, .int 0])))) (a0) (a1) ((a1 + a2)))))
set_option maxRecDepth 100000 in
set_option maxHeartbeats 4000000 in
theorem c_La_newString (l : Launch) (g : Gm) (sz : Nat) (S : StC) (a0 : Nat) (a1 : Int32) (a2 : Int32) (post : Option Nat → StC → Prop) (mc ms : Nat) (hw : wp_La_newString g post mc ms S a0 a1 a2) : Met l y_La_newString (.code y_La_newString b_La_newString 3 (some (.object "java/lang/String")) :: w_C) (rmA 3 86 mc ms) (va_Pc [.ref (a0), .int (a1), .int (a2)] (PC g sz S)) (va_Qq post (BC g (AC g sz S)) (AC g sz S)) mc ms (AC g sz S) := by
  refine ofA_q (Or.inl ⟨_, rfl⟩) (by decide) (Nat.le_of_ble_eq_true rfl) (fun p e s m args below meth c Q A H locs ls hx hb hml hts hown hK hA hC hN hmn kr hl hP hD hS => ?_)
  have hl : lv_has ls 3 [(0, .ref (a0)), (1, .int (a1)), (2, .int (a2))] := hl
  unfold wp_La_newString at hw
  have hcm : 0 ≤ mc := Nat.zero_le _
  have hzm : 0 ≤ ms := Nat.zero_le _
  refine lv_iload_n hx hb d_La_newString_0 rfl (lv_at hl 2 rfl) ?_
  refine lv_if_ne hx hb d_La_newString_1 (tgt := 7) (by decide) (fun hc => ?_) (fun hc => ?_)
  · have hw := hw.2 hc
    obtain ⟨hcm, hzm, hw⟩ := hw
    refine pn_C (S := S) (fs := [.null, .int 0, .int 0, .int 0]) (C := R_St) (F := F_St) (N := 4) (ci := 3) hx hb hts hin_St t_St t_St_ok hown k_C_361 k_C_245 k_C_3 hK hP hD hS hA rfl (fun j hj => by rcases (show j = 0 ∨ j = 1 ∨ j = 2 ∨ j = 3 by omega) with rfl | rfl | rfl | rfl <;> rfl) hcm hzm d_La_newString_7 (fun q1 H hq2 hP hD hS => ?_)
    have hP : va_P g.1 classes (wC g (S.1, S.2.1, S.2.2.1, S.2.2.2.1, S.2.2.2.2.1, (S.2.2.2.2.2.1 ++ [q1]), (va_up S.2.2.2.2.2.2 q1 (.inr (3, [.null, .int 0, .int 0, .int 0]))))) H := hP
    have hD : va_D A (wC g (S.1, S.2.1, S.2.2.1, S.2.2.2.1, S.2.2.2.2.1, (S.2.2.2.2.2.1 ++ [q1]), (va_up S.2.2.2.2.2.2 q1 (.inr (3, [.null, .int 0, .int 0, .int 0]))))) := hD
    have hw := hw q1 hq2
    refine lv_dup hx hb d_La_newString_10 rfl ?_
    refine lv_aload_n hx hb d_La_newString_11 rfl (lv_at hl 0 rfl) ?_
    refine lv_iload_n hx hb d_La_newString_12 rfl (lv_at hl 1 rfl) ?_
    refine lv_iload_n hx hb d_La_newString_13 rfl (lv_at hl 1 rfl) ?_
    refine lv_iload_n hx hb d_La_newString_14 rfl (lv_at hl 2 rfl) ?_
    refine lv_iadd hx hb d_La_newString_15 ?_
    obtain ⟨mc3, ms4, hcm, hzm, hw⟩ := hw
    refine cA_qS (As := [.ref (a0), .int (a1), .int ((a1 + a2))]) (rest := [.ref (q1), .ref (q1)]) hx hb hml hown hts hK hC hN hP hD hS hA hcm hzm hl.1  (qA_22 hts ⟨Nat.le_of_ble_eq_true rfl, Nat.le_of_ble_eq_true rfl⟩) (c_Ar_copyOfRange l g H.size _ (a0) (a1) ((a1 + a2)) _ _ _ hw) rfl rfl (Nat.le_of_ble_eq_true rfl) d_La_newString_16 (fun r6 S5 H locs hw hP hD hS => ?_)
    obtain ⟨y7, hy8, hw⟩ := hw
    refine W_rf hy8 ?_
    refine lv_iconst (v := 0) hx hb d_La_newString_19 (by decide) ?_
    obtain ⟨mc9, ms10, hcm, hzm, hw⟩ := hw
    refine cA_vI (As := [.ref (y7), .int (0)]) (rest := [.ref (q1)]) hx hb hml hown hts hK hC hN hP hD hS hA hcm hzm hl.1  (qA_23 hts ⟨Nat.le_of_ble_eq_true rfl, Nat.le_of_ble_eq_true rfl⟩) (c_St_init l g H.size _ (q1) (y7) (0) _ _ _ hw) rfl rfl (Nat.le_of_ble_eq_true rfl) d_La_newString_20 (fun S11 H locs hw hP hD hS => ?_)
    exact kr (some (q1)) S11 _ _ _ _ _ _ hcm hzm hw hP hD hS d_La_newString_23
  · have hw := hw.1 hc
    refine va_ldcS hx hb hown hN.2.2.1 d_La_newString_4 ?_
    exact kr (some ((g.2.2 252))) S _ _ _ _ _ _ hcm hzm hw hP hD hS d_La_newString_6
