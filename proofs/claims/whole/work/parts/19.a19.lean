theorem qA_24 {R : Room} {s : State} {args : Array Value} {mc1 ms1 : Nat} (hts : ∀ w ∈ w_C, w.before args s = true) (hR : (rmA 3 86 mc1 ms1).frames + 1 ≤ R.frames ∧ 8 + (3 + 11) + (rmA 3 86 mc1 ms1).locals ≤ R.locals) : CallB R s args "java/lang/String" 685 y_La_newString b_La_newString 3 (some (.object "java/lang/String")) (.code y_La_newString b_La_newString 3 (some (.object "java/lang/String")) :: w_C) (rmA 3 86 mc1 ms1) mc1 ms1 3 ∧ (Cond.static y_La_newString).before args s = true := ⟨callB_of 3 hts (good_C k_C_360) rfl rfl rfl (hts _ k_C_16) (hts _ k_C_358) ⟨by decide +kernel, by decide +kernel, by decide +kernel⟩ hR, hts _ k_C_359⟩
theorem qA_25 {R : Room} {s : State} {args : Array Value} {mc1 ms1 : Nat} (hts : ∀ w ∈ w_C, w.before args s = true) (hR : (rmA 1 20 mc1 ms1).frames + 1 ≤ R.frames ∧ 8 + (1 + 11) + (rmA 1 20 mc1 ms1).locals ≤ R.locals) : CallW R s args "java/lang/String" R_St 505 y_St_length b_St_length 1 (some .int) (.code y_St_length b_St_length 1 (some .int) :: w_C) (rmA 1 20 mc1 ms1) mc1 ms1 0 := ⟨callB_of 0 hts (good_C k_C_324) rfl rfl rfl (hts _ k_C_3) (hts _ k_C_351) ⟨by decide +kernel, by decide +kernel, by decide +kernel⟩ hR, hts _ k_C_322, hts _ k_C_323⟩
theorem qA_26 {R : Room} {s : State} {args : Array Value} {mc1 ms1 : Nat} (hts : ∀ w ∈ w_C, w.before args s = true) (hR : (rmA 1 23 mc1 ms1).frames + 1 ≤ R.frames ∧ 8 + (3 + 11) + (rmA 1 23 mc1 ms1).locals ≤ R.locals) : CallB R s args "java/lang/String" 521 y_St_checkBoundsBeginEnd b_St_checkBoundsBeginEnd 3 none (.code y_St_checkBoundsBeginEnd b_St_checkBoundsBeginEnd 3 none :: w_C) (rmA 1 23 mc1 ms1) mc1 ms1 3 ∧ (Cond.static y_St_checkBoundsBeginEnd).before args s = true := ⟨callB_of 3 hts (good_C k_C_354) rfl rfl rfl (hts _ k_C_3) (hts _ k_C_352) ⟨by decide +kernel, by decide +kernel, by decide +kernel⟩ hR, hts _ k_C_353⟩
theorem d_St_substring_0 : decode b_St_substring 0 = .ok (.aload_n 0, 1) := by decide +kernel
theorem d_St_substring_1 : decode b_St_substring 1 = .ok (.invokevirtual 505, 3) := by decide +kernel
theorem d_St_substring_4 : decode b_St_substring 4 = .ok (.istore_n 3, 1) := by decide +kernel
theorem d_St_substring_5 : decode b_St_substring 5 = .ok (.iload_n 1, 1) := by decide +kernel
theorem d_St_substring_6 : decode b_St_substring 6 = .ok (.iload_n 2, 1) := by decide +kernel
theorem d_St_substring_7 : decode b_St_substring 7 = .ok (.iload_n 3, 1) := by decide +kernel
theorem d_St_substring_8 : decode b_St_substring 8 = .ok (.invokestatic 521, 3) := by decide +kernel
theorem d_St_substring_11 : decode b_St_substring 11 = .ok (.iload_n 1, 1) := by decide +kernel
theorem d_St_substring_12 : decode b_St_substring 12 = .ok (.ifCond .ne 10, 3) := by decide +kernel
theorem d_St_substring_15 : decode b_St_substring 15 = .ok (.iload_n 2, 1) := by decide +kernel
theorem d_St_substring_16 : decode b_St_substring 16 = .ok (.iload_n 3, 1) := by decide +kernel
theorem d_St_substring_17 : decode b_St_substring 17 = .ok (.if_icmp .ne 5, 3) := by decide +kernel
theorem d_St_substring_20 : decode b_St_substring 20 = .ok (.aload_n 0, 1) := by decide +kernel
theorem d_St_substring_21 : decode b_St_substring 21 = .ok (.areturn, 1) := by decide +kernel
theorem d_St_substring_22 : decode b_St_substring 22 = .ok (.iload_n 2, 1) := by decide +kernel
theorem d_St_substring_23 : decode b_St_substring 23 = .ok (.iload_n 1, 1) := by decide +kernel
theorem d_St_substring_24 : decode b_St_substring 24 = .ok (.isub, 1) := by decide +kernel
theorem d_St_substring_25 : decode b_St_substring 25 = .ok (.istore 4, 2) := by decide +kernel
theorem d_St_substring_27 : decode b_St_substring 27 = .ok (.aload_n 0, 1) := by decide +kernel
theorem d_St_substring_28 : decode b_St_substring 28 = .ok (.invokevirtual 492, 3) := by decide +kernel
theorem d_St_substring_31 : decode b_St_substring 31 = .ok (.ifCond .eq 16, 3) := by decide +kernel
theorem d_St_substring_34 : decode b_St_substring 34 = .ok (.aload_n 0, 1) := by decide +kernel
theorem d_St_substring_35 : decode b_St_substring 35 = .ok (.getfield 9, 3) := by decide +kernel
theorem d_St_substring_38 : decode b_St_substring 38 = .ok (.iload_n 1, 1) := by decide +kernel
theorem d_St_substring_39 : decode b_St_substring 39 = .ok (.iload 4, 2) := by decide +kernel
theorem d_St_substring_41 : decode b_St_substring 41 = .ok (.invokestatic 685, 3) := by decide +kernel
theorem d_St_substring_44 : decode b_St_substring 44 = .ok (.goto 13, 3) := by decide +kernel
theorem d_St_substring_47 : decode b_St_substring 47 = .ok (.aload_n 0, 1) := by decide +kernel
theorem d_St_substring_48 : decode b_St_substring 48 = .ok (.getfield 9, 3) := by decide +kernel
theorem d_St_substring_51 : decode b_St_substring 51 = .ok (.iload_n 1, 1) := by decide +kernel
theorem d_St_substring_52 : decode b_St_substring 52 = .ok (.iload 4, 2) := by decide +kernel
theorem d_St_substring_54 : decode b_St_substring 54 = .ok (.invokestatic 689, 3) := by decide +kernel
theorem d_St_substring_57 : decode b_St_substring 57 = .ok (.areturn, 1) := by decide +kernel
def wq_St_substring_57 (g : Gm) (post : Option Nat → StC → Prop) (mc ms : Nat)  (S : StC) (t0 : Option Nat) (c0 : Nat) (z0 : Nat) : Prop :=
  post (t0) S
def wq_St_substring_22 (g : Gm) (post : Option Nat → StC → Prop) (mc ms : Nat)  (S : StC) (x0 : Nat) (x1 : Int32) (x2 : Int32) (c0 : Nat) (z0 : Nat) : Prop :=
  (isStr g S (x0)) ∧ (∃ (mc2 : Nat) (ms3 : Nat), (c0 + mc2 ≤ mc) ∧ (z0 + ms3 ≤ ms) ∧ (wp_St_isLatin1 g (fun (r5 : Int32) (S4 : StC) => ((¬ (r5 = 0)) ∧ (∃ (vs6 : List Value) (z10 : Nat), (x0 ∈ S4.2.2.2.2.2.1) ∧ (S4.2.2.2.2.2.2 x0 = .inr (3, vs6)) ∧ (vs6[0]? = some (.ref (z10))) ∧ (∃ (mc11 : Nat) (ms12 : Nat), ((c0 + mc2) + mc11 ≤ mc) ∧ ((z0 + ms3) + ms12 ≤ ms) ∧ (wp_La_newString g (fun (r14 : Option Nat) (S13 : StC) => (wq_St_substring_57 g post mc ms  S13 (r14) (((c0 + mc2) + mc11)) (((z0 + ms3) + ms12)))) mc11 ms12 S4 (z10) (x1) ((x2 - x1))))))) mc2 ms3 S (x0)))
def wp_St_substring (g : Gm) (post : Option Nat → StC → Prop) (mc ms : Nat) (S : StC) (h0 : Nat) (a0 : Int32) (a1 : Int32) : Prop :=
  (isStr g S (h0)) ∧ (∃ (mc16 : Nat) (ms17 : Nat), (0 + mc16 ≤ mc) ∧ (0 + ms17 ≤ ms) ∧ (wp_St_length g (fun (r19 : Int32) (S18 : StC) => (∃ (mc20 : Nat) (ms21 : Nat), ((0 + mc16) + mc20 ≤ mc) ∧ ((0 + ms17) + ms21 ≤ ms) ∧ (wp_St_checkBoundsBeginEnd g (fun S22 : StC => (((a0 = 0) → ((a1 = r19) → post (some (h0)) S22) ∧ (¬ (a1 = r19) → wq_St_substring_22 g post mc ms  S22 (h0) (a0) (a1) (((0 + mc16) + mc20)) (((0 + ms17) + ms21)))) ∧ (¬ (a0 = 0) → wq_St_substring_22 g post mc ms  S22 (h0) (a0) (a1) (((0 + mc16) + mc20)) (((0 + ms17) + ms21))))) mc20 ms21 S18 (a0) (a1) (r19)))) mc16 ms17 S (h0)))
set_option maxRecDepth 100000 in
set_option maxHeartbeats 4000000 in
theorem c_St_substring (l : Launch) (g : Gm) (sz : Nat) (S : StC) (h0 : Nat) (a0 : Int32) (a1 : Int32) (post : Option Nat → StC → Prop) (mc ms : Nat) (hw : wp_St_substring g post mc ms S h0 a0 a1) : Met l y_St_substring (.code y_St_substring b_St_substring 5 (some (.object "java/lang/String")) :: w_C) (rmA 4 108 mc ms) (va_Pc [.ref (h0), .int (a0), .int (a1)] (PC g sz S)) (va_Qq post (BC g (AC g sz S)) (AC g sz S)) mc ms (AC g sz S) := by
  refine ofA_q (Or.inl ⟨_, rfl⟩) (by decide) (Nat.le_of_ble_eq_true rfl) (fun p e s m args below meth c Q A H locs ls hx hb hml hts hown hK hA hC hN hmn kr hl hP hD hS => ?_)
  have hl : lv_has ls 5 [(0, .ref (h0)), (1, .int (a0)), (2, .int (a1))] := hl
  unfold wp_St_substring at hw
  have hcm : 0 ≤ mc := Nat.zero_le _
  have hzm : 0 ≤ ms := Nat.zero_le _
  have J57 : ∀ (S : StC) (t0 : Option Nat) (c0 : Nat) (z0 : Nat) (H : Heap) (locs : List Loc) (ls : Array Slot), c0 ≤ mc → z0 ≤ ms → wq_St_substring_57 g post mc ms  S t0 c0 z0 → lv_has ls 5 [] → va_P g.1 classes (wC g S) H → va_D A (wC g S) → va_S A s.heap H locs → W p l e (rmA 4 108 mc ms) s m args below meth c H locs c0 z0 Q (F0 m 57 ls [va_rf (t0)]) := by
    intro S t0 c0 z0 H locs ls hcm hzm hw hl hP hD hS
    unfold wq_St_substring_57 at hw
    exact kr (t0) S _ _ _ _ _ _ hcm hzm hw hP hD hS d_St_substring_57
  have J22 : ∀ (S : StC) (x0 : Nat) (x1 : Int32) (x2 : Int32) (c0 : Nat) (z0 : Nat) (H : Heap) (locs : List Loc) (ls : Array Slot), c0 ≤ mc → z0 ≤ ms → wq_St_substring_22 g post mc ms  S x0 x1 x2 c0 z0 → lv_has ls 5 [(0, .ref (x0)), (1, .int (x1)), (2, .int (x2))] → va_P g.1 classes (wC g S) H → va_D A (wC g S) → va_S A s.heap H locs → W p l e (rmA 4 108 mc ms) s m args below meth c H locs c0 z0 Q (F0 m 22 ls []) := by
    intro S x0 x1 x2 c0 z0 H locs ls hcm hzm hw hl hP hD hS
    unfold wq_St_substring_22 at hw
    refine lv_iload_n hx hb d_St_substring_22 rfl (lv_at hl 2 rfl) ?_
    refine lv_iload_n hx hb d_St_substring_23 rfl (lv_at hl 1 rfl) ?_
    refine lv_isub hx hb d_St_substring_24 ?_
    refine lv_istore (lv' := [(4, .int ((x2 - x1))), (0, .ref (x0)), (1, .int (x1)), (2, .int (x2))]) hx hb d_St_substring_25 hl (by decide) rfl (fun ls hl => ?_)
    refine lv_aload_n hx hb d_St_substring_27 rfl (lv_at hl 1 rfl) ?_
    obtain ⟨hsr1, hw⟩ := hw
    obtain ⟨mc2, ms3, hcm, hzm, hw⟩ := hw
    refine cA_iV (As := []) (rest := []) hx hb hml hown hts hK hC hN hP hD hS hA hcm hzm hl.1 (strv_C hK hC hP hS hsr1) (qA_17 hts ⟨Nat.le_of_ble_eq_true rfl, Nat.le_of_ble_eq_true rfl⟩) (c_St_isLatin1 l g H.size _ (x0) _ _ _ hw) rfl rfl (Nat.le_of_ble_eq_true rfl) d_St_substring_28 (fun r5 S4 H locs hw hP hD hS => ?_)
    obtain ⟨hc9, hw⟩ := hw
    refine lv_if_eq hx hb d_St_substring_31 (tgt := 47) (by decide) (fun hc => absurd hc hc9) (fun hc => ?_)
    refine lv_aload_n hx hb d_St_substring_34 rfl (lv_at hl 1 rfl) ?_
    obtain ⟨vs6, z10, ha7, hf8, hv9, hw⟩ := hw
    refine pg_C (S := S4) (vs := vs6) (v := .ref (z10)) (C := R_St) (F := F_St) (N := 4) hx hb hts hin_St hown hK hP ha7 hf8 rfl 0 (by decide) hv9 k_C_283 d_St_substring_35 ?_
    refine lv_iload_n hx hb d_St_substring_38 rfl (lv_at hl 2 rfl) ?_
    refine lv_iload hx hb d_St_substring_39 (lv_at hl 0 rfl) ?_
    obtain ⟨mc11, ms12, hcm, hzm, hw⟩ := hw
    refine cA_qS (As := [.ref (z10), .int (x1), .int ((x2 - x1))]) (rest := []) hx hb hml hown hts hK hC hN hP hD hS hA hcm hzm hl.1  (qA_24 hts ⟨Nat.le_of_ble_eq_true rfl, Nat.le_of_ble_eq_true rfl⟩) (c_La_newString l g H.size _ (z10) (x1) ((x2 - x1)) _ _ _ hw) rfl rfl (Nat.le_of_ble_eq_true rfl) d_St_substring_41 (fun r14 S13 H locs hw hP hD hS => ?_)
    refine lv_goto hx hb d_St_substring_44 (tgt := 57) (by decide) ?_
    exact J57 S13 (r14) (((c0 + mc2) + mc11)) (((z0 + ms3) + ms12)) _ _ _ hcm hzm hw (lv_sub hl [] rfl) hP hD hS
  refine lv_aload_n hx hb d_St_substring_0 rfl (lv_at hl 0 rfl) ?_
  obtain ⟨hsr15, hw⟩ := hw
  obtain ⟨mc16, ms17, hcm, hzm, hw⟩ := hw
  refine cA_iV (As := []) (rest := []) hx hb hml hown hts hK hC hN hP hD hS hA hcm hzm hl.1 (strv_C hK hC hP hS hsr15) (qA_25 hts ⟨Nat.le_of_ble_eq_true rfl, Nat.le_of_ble_eq_true rfl⟩) (c_St_length l g H.size _ (h0) _ _ _ hw) rfl rfl (Nat.le_of_ble_eq_true rfl) d_St_substring_1 (fun r19 S18 H locs hw hP hD hS => ?_)
  refine lv_istore_n (lv' := [(3, .int (r19)), (0, .ref (h0)), (1, .int (a0)), (2, .int (a1))]) hx hb d_St_substring_4 rfl hl (by decide) rfl (fun ls hl => ?_)
  refine lv_iload_n hx hb d_St_substring_5 rfl (lv_at hl 2 rfl) ?_
  refine lv_iload_n hx hb d_St_substring_6 rfl (lv_at hl 3 rfl) ?_
  refine lv_iload_n hx hb d_St_substring_7 rfl (lv_at hl 0 rfl) ?_
  obtain ⟨mc20, ms21, hcm, hzm, hw⟩ := hw
  refine cA_vS (As := [.int (a0), .int (a1), .int (r19)]) (rest := []) hx hb hml hown hts hK hC hN hP hD hS hA hcm hzm hl.1  (qA_26 hts ⟨Nat.le_of_ble_eq_true rfl, Nat.le_of_ble_eq_true rfl⟩) (c_St_checkBoundsBeginEnd l g H.size _ (a0) (a1) (r19) _ _ _ hw) rfl rfl (Nat.le_of_ble_eq_true rfl) d_St_substring_8 (fun S22 H locs hw hP hD hS => ?_)
  refine lv_iload_n hx hb d_St_substring_11 rfl (lv_at hl 2 rfl) ?_
  refine lv_if_ne hx hb d_St_substring_12 (tgt := 22) (by decide) (fun hc => ?_) (fun hc => ?_)
  · have hw := hw.2 hc
    exact J22 S22 (h0) (a0) (a1) (((0 + mc16) + mc20)) (((0 + ms17) + ms21)) _ _ _ hcm hzm hw (lv_sub hl [1, 2, 3] rfl) hP hD hS
  · have hw := hw.1 hc
    refine lv_iload_n hx hb d_St_substring_15 rfl (lv_at hl 3 rfl) ?_
    refine lv_iload_n hx hb d_St_substring_16 rfl (lv_at hl 0 rfl) ?_
    refine lv_icmp_ne hx hb d_St_substring_17 (tgt := 22) (by decide) (fun hc => ?_) (fun hc => ?_)
    · have hw := hw.2 hc
      exact J22 S22 (h0) (a0) (a1) (((0 + mc16) + mc20)) (((0 + ms17) + ms21)) _ _ _ hcm hzm hw (lv_sub hl [1, 2, 3] rfl) hP hD hS
    · have hw := hw.1 hc
      refine lv_aload_n hx hb d_St_substring_20 rfl (lv_at hl 1 rfl) ?_
      exact kr (some (h0)) S22 _ _ _ _ _ _ hcm hzm hw hP hD hS d_St_substring_21
theorem qA_27 {R : Room} {s : State} {args : Array Value} {mc1 ms1 : Nat} (hts : ∀ w ∈ w_C, w.before args s = true) (hR : (rmA 4 108 mc1 ms1).frames + 1 ≤ R.frames ∧ 8 + (5 + 11) + (rmA 4 108 mc1 ms1).locals ≤ R.locals) : CallW R s args "WordSmith$Reader" R_St 65 y_St_substring b_St_substring 5 (some (.object "java/lang/String")) (.code y_St_substring b_St_substring 5 (some (.object "java/lang/String")) :: w_C) (rmA 4 108 mc1 ms1) mc1 ms1 2 := ⟨callB_of 2 hts (good_C k_C_350) rfl rfl rfl (hts _ k_C_3) (hts _ k_C_347) ⟨by decide +kernel, by decide +kernel, by decide +kernel⟩ hR, hts _ k_C_348, hts _ k_C_349⟩
theorem d_Rd_cutToken_0 : decode b_Rd_cutToken 0 = .ok (.aload_n 0, 1) := by decide +kernel
theorem d_Rd_cutToken_1 : decode b_Rd_cutToken 1 = .ok (.getfield 34, 3) := by decide +kernel
theorem d_Rd_cutToken_4 : decode b_Rd_cutToken 4 = .ok (.istore_n 1, 1) := by decide +kernel
theorem d_Rd_cutToken_5 : decode b_Rd_cutToken 5 = .ok (.aload_n 0, 1) := by decide +kernel
theorem d_Rd_cutToken_6 : decode b_Rd_cutToken 6 = .ok (.getfield 34, 3) := by decide +kernel
theorem d_Rd_cutToken_9 : decode b_Rd_cutToken 9 = .ok (.aload_n 0, 1) := by decide +kernel
theorem d_Rd_cutToken_10 : decode b_Rd_cutToken 10 = .ok (.getfield 27, 3) := by decide +kernel
theorem d_Rd_cutToken_13 : decode b_Rd_cutToken 13 = .ok (.invokevirtual 57, 3) := by decide +kernel
theorem d_Rd_cutToken_16 : decode b_Rd_cutToken 16 = .ok (.if_icmp .ge 32, 3) := by decide +kernel
theorem d_Rd_cutToken_19 : decode b_Rd_cutToken 19 = .ok (.aload_n 0, 1) := by decide +kernel
theorem d_Rd_cutToken_20 : decode b_Rd_cutToken 20 = .ok (.getfield 27, 3) := by decide +kernel
theorem d_Rd_cutToken_23 : decode b_Rd_cutToken 23 = .ok (.aload_n 0, 1) := by decide +kernel
theorem d_Rd_cutToken_24 : decode b_Rd_cutToken 24 = .ok (.getfield 34, 3) := by decide +kernel
theorem d_Rd_cutToken_27 : decode b_Rd_cutToken 27 = .ok (.invokevirtual 61, 3) := by decide +kernel
theorem d_Rd_cutToken_30 : decode b_Rd_cutToken 30 = .ok (.bipush 32, 2) := by decide +kernel
theorem d_Rd_cutToken_32 : decode b_Rd_cutToken 32 = .ok (.if_icmp .eq 16, 3) := by decide +kernel
theorem d_Rd_cutToken_35 : decode b_Rd_cutToken 35 = .ok (.aload_n 0, 1) := by decide +kernel
theorem d_Rd_cutToken_36 : decode b_Rd_cutToken 36 = .ok (.dup, 1) := by decide +kernel
theorem d_Rd_cutToken_37 : decode b_Rd_cutToken 37 = .ok (.getfield 34, 3) := by decide +kernel
theorem d_Rd_cutToken_40 : decode b_Rd_cutToken 40 = .ok (.iconst 1, 1) := by decide +kernel
theorem d_Rd_cutToken_41 : decode b_Rd_cutToken 41 = .ok (.iadd, 1) := by decide +kernel
theorem d_Rd_cutToken_42 : decode b_Rd_cutToken 42 = .ok (.putfield 34, 3) := by decide +kernel
theorem d_Rd_cutToken_45 : decode b_Rd_cutToken 45 = .ok (.goto (-40), 3) := by decide +kernel
theorem d_Rd_cutToken_48 : decode b_Rd_cutToken 48 = .ok (.aload_n 0, 1) := by decide +kernel
theorem d_Rd_cutToken_49 : decode b_Rd_cutToken 49 = .ok (.getfield 27, 3) := by decide +kernel
theorem d_Rd_cutToken_52 : decode b_Rd_cutToken 52 = .ok (.iload_n 1, 1) := by decide +kernel
theorem d_Rd_cutToken_53 : decode b_Rd_cutToken 53 = .ok (.aload_n 0, 1) := by decide +kernel
theorem d_Rd_cutToken_54 : decode b_Rd_cutToken 54 = .ok (.getfield 34, 3) := by decide +kernel
theorem d_Rd_cutToken_57 : decode b_Rd_cutToken 57 = .ok (.invokevirtual 65, 3) := by decide +kernel
theorem d_Rd_cutToken_60 : decode b_Rd_cutToken 60 = .ok (.areturn, 1) := by decide +kernel
def wq_Rd_cutToken_48 (g : Gm) (post : Option Nat → StC → Prop) (mc ms : Nat)  (S : StC) (x1 : Int32) (c0 : Nat) (z0 : Nat) : Prop :=
  (isStr g S ((S.2.2.1 1))) ∧ (∃ (mc2 : Nat) (ms3 : Nat), (c0 + mc2 ≤ mc) ∧ (z0 + ms3 ≤ ms) ∧ (wp_St_substring g (fun (r5 : Option Nat) (S4 : StC) => (post (r5) S4)) mc2 ms3 S ((S.2.2.1 1)) (x1) ((S.1 3))))
def wq_Rd_cutToken_5 (g : Gm) (post : Option Nat → StC → Prop) (mc ms : Nat)  : Nat → StC → Int32 → Nat → Nat → Prop
  | 0, _, _, _, _ => False
  | n5 + 1, S, x1, c0, z0 =>
    (isStr g S ((S.2.2.1 1))) ∧ (∃ (mc7 : Nat) (ms8 : Nat), (c0 + mc7 ≤ mc) ∧ (z0 + ms8 ≤ ms) ∧ (wp_St_length g (fun (r10 : Int32) (S9 : StC) => (((r10 ≤ (S.1 3)) → wq_Rd_cutToken_48 g post mc ms  S9 (x1) ((c0 + mc7)) ((z0 + ms8))) ∧ (¬ (r10 ≤ (S.1 3)) → (isStr g S9 ((S9.2.2.1 1))) ∧ (∃ (mc12 : Nat) (ms13 : Nat), ((c0 + mc7) + mc12 ≤ mc) ∧ ((z0 + ms8) + ms13 ≤ ms) ∧ (wp_St_charAt g (fun (r15 : Int32) (S14 : StC) => (((r15 = 32) → wq_Rd_cutToken_48 g post mc ms  S14 (x1) (((c0 + mc7) + mc12)) (((z0 + ms8) + ms13))) ∧ (¬ (r15 = 32) → (wq_Rd_cutToken_5 g post mc ms  n5) ((upd S14.1 3 (((S14.1 3) + 1))), S14.2) (x1) (((c0 + mc7) + mc12)) (((z0 + ms8) + ms13))))) mc12 ms13 S9 ((S9.2.2.1 1)) ((S9.1 3))))))) mc7 ms8 S ((S.2.2.1 1))))
def wp_Rd_cutToken (g : Gm) (post : Option Nat → StC → Prop) (mc ms : Nat) (S : StC)  : Prop :=
  ∃ nn : Nat, wq_Rd_cutToken_5 g post mc ms  nn S ((S.1 3)) (0) (0)
set_option maxRecDepth 100000 in
set_option maxHeartbeats 4000000 in
theorem c_Rd_cutToken (l : Launch) (g : Gm) (sz : Nat) (S : StC)  (post : Option Nat → StC → Prop) (mc ms : Nat) (hw : wp_Rd_cutToken g post mc ms S ) : Met l y_Rd_cutToken (.code y_Rd_cutToken b_Rd_cutToken 2 (some (.object "java/lang/String")) :: w_C) (rmA 5 132 mc ms) (va_Pc [.ref (g.2.2 2)] (PC g sz S)) (va_Qq post (BC g (AC g sz S)) (AC g sz S)) mc ms (AC g sz S) := by
  refine ofA_q (Or.inl ⟨_, rfl⟩) (by decide) (Nat.le_of_ble_eq_true rfl) (fun p e s m args below meth c Q A H locs ls hx hb hml hts hown hK hA hC hN hmn kr hl hP hD hS => ?_)
  have hl : lv_has ls 2 [(0, .ref (g.2.2 2))] := hl
  unfold wp_Rd_cutToken at hw
  have hcm : 0 ≤ mc := Nat.zero_le _
  have hzm : 0 ≤ ms := Nat.zero_le _
  have J48 : ∀ (S : StC) (x1 : Int32) (c0 : Nat) (z0 : Nat) (H : Heap) (locs : List Loc) (ls : Array Slot), c0 ≤ mc → z0 ≤ ms → wq_Rd_cutToken_48 g post mc ms  S x1 c0 z0 → lv_has ls 2 [(0, .ref (g.2.2 2)), (1, .int (x1))] → va_P g.1 classes (wC g S) H → va_D A (wC g S) → va_S A s.heap H locs → W p l e (rmA 5 132 mc ms) s m args below meth c H locs c0 z0 Q (F0 m 48 ls []) := by
    intro S x1 c0 z0 H locs ls hcm hzm hw hl hP hD hS
    unfold wq_Rd_cutToken_48 at hw
    refine lv_aload_n hx hb d_Rd_cutToken_48 rfl (lv_at hl 0 rfl) ?_
    refine va_get (D := g.1) (ci := 4) (v := .ref ((S.2.2.1 1))) (C := R_Rd) (T := F_Rd) (N := 6) hx hb hts hin_Rd hown hK hP 2 rfl rfl 2 (by decide) (hts _ k_C_129) (fun _ h9 => h9) rfl d_Rd_cutToken_49 ?_
    refine lv_iload_n hx hb d_Rd_cutToken_52 rfl (lv_at hl 1 rfl) ?_
    refine lv_aload_n hx hb d_Rd_cutToken_53 rfl (lv_at hl 0 rfl) ?_
    refine va_get (D := g.1) (ci := 4) (v := .int ((S.1 3))) (C := R_Rd) (T := F_Rd) (N := 6) hx hb hts hin_Rd hown hK hP 2 rfl rfl 3 (by decide) (hts _ k_C_130) (fun _ h9 => h9) rfl d_Rd_cutToken_54 ?_
    obtain ⟨hsr1, hw⟩ := hw
    obtain ⟨mc2, ms3, hcm, hzm, hw⟩ := hw
    refine cA_qV (As := [.int (x1), .int ((S.1 3))]) (rest := []) hx hb hml hown hts hK hC hN hP hD hS hA hcm hzm hl.1 (strv_C hK hC hP hS hsr1) (qA_27 hts ⟨Nat.le_of_ble_eq_true rfl, Nat.le_of_ble_eq_true rfl⟩) (c_St_substring l g H.size _ ((S.2.2.1 1)) (x1) ((S.1 3)) _ _ _ hw) rfl rfl (Nat.le_of_ble_eq_true rfl) d_Rd_cutToken_57 (fun r5 S4 H locs hw hP hD hS => ?_)
    exact kr (r5) S4 _ _ _ _ _ _ hcm hzm hw hP hD hS d_Rd_cutToken_60
  have J5 : ∀ (n5 : Nat), ∀ (S : StC) (x1 : Int32) (c0 : Nat) (z0 : Nat) (H : Heap) (locs : List Loc) (ls : Array Slot), c0 ≤ mc → z0 ≤ ms → wq_Rd_cutToken_5 g post mc ms  n5 S x1 c0 z0 → lv_has ls 2 [(0, .ref (g.2.2 2)), (1, .int (x1))] → va_P g.1 classes (wC g S) H → va_D A (wC g S) → va_S A s.heap H locs → W p l e (rmA 5 132 mc ms) s m args below meth c H locs c0 z0 Q (F0 m 5 ls []) := by
    intro n5
    induction n5 with
    | zero => intro S x1 c0 z0 H locs ls hcm hzm hw; exact hw.elim
    | succ n5 ih5 =>
      intro S x1 c0 z0 H locs ls hcm hzm hw hl hP hD hS
      unfold wq_Rd_cutToken_5 at hw
      refine lv_aload_n hx hb d_Rd_cutToken_5 rfl (lv_at hl 0 rfl) ?_
      refine va_get (D := g.1) (ci := 4) (v := .int ((S.1 3))) (C := R_Rd) (T := F_Rd) (N := 6) hx hb hts hin_Rd hown hK hP 2 rfl rfl 3 (by decide) (hts _ k_C_130) (fun _ h9 => h9) rfl d_Rd_cutToken_6 ?_
      refine lv_aload_n hx hb d_Rd_cutToken_9 rfl (lv_at hl 0 rfl) ?_
      refine va_get (D := g.1) (ci := 4) (v := .ref ((S.2.2.1 1))) (C := R_Rd) (T := F_Rd) (N := 6) hx hb hts hin_Rd hown hK hP 2 rfl rfl 2 (by decide) (hts _ k_C_129) (fun _ h9 => h9) rfl d_Rd_cutToken_10 ?_
      obtain ⟨hsr6, hw⟩ := hw
      obtain ⟨mc7, ms8, hcm, hzm, hw⟩ := hw
      refine cA_iV (As := []) (rest := [.int ((S.1 3))]) hx hb hml hown hts hK hC hN hP hD hS hA hcm hzm hl.1 (strv_C hK hC hP hS hsr6) (qA_19 hts ⟨Nat.le_of_ble_eq_true rfl, Nat.le_of_ble_eq_true rfl⟩) (c_St_length l g H.size _ ((S.2.2.1 1)) _ _ _ hw) rfl rfl (Nat.le_of_ble_eq_true rfl) d_Rd_cutToken_13 (fun r10 S9 H locs hw hP hD hS => ?_)
      refine lv_icmp_ge hx hb d_Rd_cutToken_16 (tgt := 48) (by decide) (fun hc => ?_) (fun hc => ?_)
      · have hw := hw.1 hc
        exact J48 S9 (x1) ((c0 + mc7)) ((z0 + ms8)) _ _ _ hcm hzm hw (lv_sub hl [0, 1] rfl) hP hD hS
      · have hw := hw.2 hc
        refine lv_aload_n hx hb d_Rd_cutToken_19 rfl (lv_at hl 0 rfl) ?_
        refine va_get (D := g.1) (ci := 4) (v := .ref ((S9.2.2.1 1))) (C := R_Rd) (T := F_Rd) (N := 6) hx hb hts hin_Rd hown hK hP 2 rfl rfl 2 (by decide) (hts _ k_C_129) (fun _ h9 => h9) rfl d_Rd_cutToken_20 ?_
        refine lv_aload_n hx hb d_Rd_cutToken_23 rfl (lv_at hl 0 rfl) ?_
        refine va_get (D := g.1) (ci := 4) (v := .int ((S9.1 3))) (C := R_Rd) (T := F_Rd) (N := 6) hx hb hts hin_Rd hown hK hP 2 rfl rfl 3 (by decide) (hts _ k_C_130) (fun _ h9 => h9) rfl d_Rd_cutToken_24 ?_
        obtain ⟨hsr11, hw⟩ := hw
        obtain ⟨mc12, ms13, hcm, hzm, hw⟩ := hw
        refine cA_iV (As := [.int ((S9.1 3))]) (rest := []) hx hb hml hown hts hK hC hN hP hD hS hA hcm hzm hl.1 (strv_C hK hC hP hS hsr11) (qA_20 hts ⟨Nat.le_of_ble_eq_true rfl, Nat.le_of_ble_eq_true rfl⟩) (c_St_charAt l g H.size _ ((S9.2.2.1 1)) ((S9.1 3)) _ _ _ hw) rfl rfl (Nat.le_of_ble_eq_true rfl) d_Rd_cutToken_27 (fun r15 S14 H locs hw hP hD hS => ?_)
        refine lv_bipush (v := 32) hx hb d_Rd_cutToken_30 (by decide) ?_
        refine lv_icmp_eq hx hb d_Rd_cutToken_32 (tgt := 48) (by decide) (fun hc => ?_) (fun hc => ?_)
        · have hw := hw.1 hc
          exact J48 S14 (x1) (((c0 + mc7) + mc12)) (((z0 + ms8) + ms13)) _ _ _ hcm hzm hw (lv_sub hl [0, 1] rfl) hP hD hS
        · have hw := hw.2 hc
          refine lv_aload_n hx hb d_Rd_cutToken_35 rfl (lv_at hl 0 rfl) ?_
          refine lv_dup hx hb d_Rd_cutToken_36 rfl ?_
          refine va_get (D := g.1) (ci := 4) (v := .int ((S14.1 3))) (C := R_Rd) (T := F_Rd) (N := 6) hx hb hts hin_Rd hown hK hP 2 rfl rfl 3 (by decide) (hts _ k_C_130) (fun _ h9 => h9) rfl d_Rd_cutToken_37 ?_
          refine lv_iconst (v := 1) hx hb d_Rd_cutToken_40 (by decide) ?_
          refine lv_iadd hx hb d_Rd_cutToken_41 ?_
          refine pt_C (S2 := ((upd S14.1 3 (((S14.1 3) + 1))), S14.2)) (v := .int (((S14.1 3) + 1))) (C := R_Rd) (F := F_Rd) (N := 6) (ci := 4) hx hb hts hin_Rd t_Rd t_Rd_ok n_Rd hown hK hP hD hS 2 rfl rfl 3 (by decide) rfl rfl rfl (Nat.le_of_ble_eq_true rfl) (sI_C_3 g _ _) k_C_130 d_Rd_cutToken_42 (fun H locs hP hD hS => ?_)
          refine lv_goto hx hb d_Rd_cutToken_45 (tgt := 5) (by decide) ?_
          exact ih5 ((upd S14.1 3 (((S14.1 3) + 1))), S14.2) (x1) (((c0 + mc7) + mc12)) (((z0 + ms8) + ms13)) _ _ _ hcm hzm hw (lv_sub hl [0, 1] rfl) hP hD hS
  refine lv_aload_n hx hb d_Rd_cutToken_0 rfl (lv_at hl 0 rfl) ?_
  refine va_get (D := g.1) (ci := 4) (v := .int ((S.1 3))) (C := R_Rd) (T := F_Rd) (N := 6) hx hb hts hin_Rd hown hK hP 2 rfl rfl 3 (by decide) (hts _ k_C_130) (fun _ h9 => h9) rfl d_Rd_cutToken_1 ?_
  refine lv_istore_n (lv' := [(1, .int ((S.1 3))), (0, .ref (g.2.2 2))]) hx hb d_Rd_cutToken_4 rfl hl (by decide) rfl (fun ls hl => ?_)
  obtain ⟨nn, hw⟩ := hw
  exact J5 nn S ((S.1 3)) (0) (0) _ _ _ hcm hzm hw (lv_sub hl [1, 0] rfl) hP hD hS
theorem d_St_isEmpty_0 : decode b_St_isEmpty 0 = .ok (.aload_n 0, 1) := by decide +kernel
theorem d_St_isEmpty_1 : decode b_St_isEmpty 1 = .ok (.getfield 9, 3) := by decide +kernel
theorem d_St_isEmpty_4 : decode b_St_isEmpty 4 = .ok (.arraylength, 1) := by decide +kernel
theorem d_St_isEmpty_5 : decode b_St_isEmpty 5 = .ok (.ifCond .ne 7, 3) := by decide +kernel
theorem d_St_isEmpty_8 : decode b_St_isEmpty 8 = .ok (.iconst 1, 1) := by decide +kernel
theorem d_St_isEmpty_9 : decode b_St_isEmpty 9 = .ok (.goto 4, 3) := by decide +kernel
theorem d_St_isEmpty_12 : decode b_St_isEmpty 12 = .ok (.iconst 0, 1) := by decide +kernel
theorem d_St_isEmpty_13 : decode b_St_isEmpty 13 = .ok (.ireturn, 1) := by decide +kernel
def wq_St_isEmpty_13 (g : Gm) (post : Int32 → StC → Prop) (mc ms : Nat)  (S : StC) (t0 : Int32) (c0 : Nat) (z0 : Nat) : Prop :=
  (narrow .boolean (.int (t0)) = .int (t0)) ∧ (post (t0) S)
def wp_St_isEmpty (g : Gm) (post : Int32 → StC → Prop) (mc ms : Nat) (S : StC) (h0 : Nat) : Prop :=
  ∃ (vs1 : List Value) (z5 : Nat), (h0 ∈ S.2.2.2.2.2.1) ∧ (S.2.2.2.2.2.2 h0 = .inr (3, vs1)) ∧ (vs1[0]? = some (.ref (z5))) ∧ (∃ (n6 : Nat) (f7 : Nat → Int32), (z5 ∈ S.2.2.2.2.2.1) ∧ (S.2.2.2.2.2.2 z5 = .inl (g.2.1 3, n6, .inl f7)) ∧ ((((Int32.ofNat n6) = 0) → wq_St_isEmpty_13 g post mc ms  S (1) (0) (0)) ∧ (¬ ((Int32.ofNat n6) = 0) → wq_St_isEmpty_13 g post mc ms  S (0) (0) (0))))
set_option maxRecDepth 100000 in
set_option maxHeartbeats 4000000 in
theorem c_St_isEmpty (l : Launch) (g : Gm) (sz : Nat) (S : StC) (h0 : Nat) (post : Int32 → StC → Prop) (mc ms : Nat) (hw : wp_St_isEmpty g post mc ms S h0) : Met l y_St_isEmpty (.code y_St_isEmpty b_St_isEmpty 1 (some .boolean) :: w_C) (rmA 0 0 mc ms) (va_Pc [.ref (h0)] (PC g sz S)) (va_Qi post (BC g (AC g sz S)) (AC g sz S)) mc ms (AC g sz S) := by
  refine ofA_z (by decide) (Nat.le_of_ble_eq_true rfl) (fun p e s m args below meth c Q A H locs ls hx hb hml hts hown hK hA hC hN hmn kr hl hP hD hS => ?_)
  have hl : lv_has ls 1 [(0, .ref (h0))] := hl
  unfold wp_St_isEmpty at hw
  have hcm : 0 ≤ mc := Nat.zero_le _
  have hzm : 0 ≤ ms := Nat.zero_le _
  have J13 : ∀ (S : StC) (t0 : Int32) (c0 : Nat) (z0 : Nat) (H : Heap) (locs : List Loc) (ls : Array Slot), c0 ≤ mc → z0 ≤ ms → wq_St_isEmpty_13 g post mc ms  S t0 c0 z0 → lv_has ls 1 [] → va_P g.1 classes (wC g S) H → va_D A (wC g S) → va_S A s.heap H locs → W p l e (rmA 0 0 mc ms) s m args below meth c H locs c0 z0 Q (F0 m 13 ls [.int (t0)]) := by
    intro S t0 c0 z0 H locs ls hcm hzm hw hl hP hD hS
    unfold wq_St_isEmpty_13 at hw
    obtain ⟨hnz, hw⟩ := hw
    exact kr (t0) S _ _ _ _ _ _ hcm hzm hnz hw hP hD hS d_St_isEmpty_13
  refine lv_aload_n hx hb d_St_isEmpty_0 rfl (lv_at hl 0 rfl) ?_
  obtain ⟨vs1, z5, ha2, hf3, hv4, hw⟩ := hw
  refine pg_C (S := S) (vs := vs1) (v := .ref (z5)) (C := R_St) (F := F_St) (N := 4) hx hb hts hin_St hown hK hP ha2 hf3 rfl 0 (by decide) hv4 k_C_283 d_St_isEmpty_1 ?_
  obtain ⟨n6, f7, ha8, hf9, hw⟩ := hw
  refine pal_C (S := S) hx hb hK hP ha8 hf9 d_St_isEmpty_4 ?_
  refine lv_if_ne hx hb d_St_isEmpty_5 (tgt := 12) (by decide) (fun hc => ?_) (fun hc => ?_)
  · have hw := hw.2 hc
    refine lv_iconst (v := 0) hx hb d_St_isEmpty_12 (by decide) ?_
    exact J13 S (0) (0) (0) _ _ _ hcm hzm hw (lv_sub hl [] rfl) hP hD hS
  · have hw := hw.1 hc
    refine lv_iconst (v := 1) hx hb d_St_isEmpty_8 (by decide) ?_
    refine lv_goto hx hb d_St_isEmpty_9 (tgt := 13) (by decide) ?_
    exact J13 S (1) (0) (0) _ _ _ hcm hzm hw (lv_sub hl [] rfl) hP hD hS
theorem qA_28 {R : Room} {s : State} {args : Array Value} {mc1 ms1 : Nat} (hts : ∀ w ∈ w_C, w.before args s = true) (hR : (rmA 4 85 mc1 ms1).frames + 1 ≤ R.frames ∧ 8 + (1 + 11) + (rmA 4 85 mc1 ms1).locals ≤ R.locals) : CallW R s args "WordSmith$Reader" R_Rd 41 y_Rd_skipSpaces b_Rd_skipSpaces 1 none (.code y_Rd_skipSpaces b_Rd_skipSpaces 1 none :: w_C) (rmA 4 85 mc1 ms1) mc1 ms1 0 := ⟨callB_of 0 hts (good_C k_C_320) rfl rfl rfl (hts _ k_C_5) (hts _ k_C_318) ⟨by decide +kernel, by decide +kernel, by decide +kernel⟩ hR, hts _ k_C_319, hts _ k_C_781⟩
theorem qA_29 {R : Room} {s : State} {args : Array Value} {mc1 ms1 : Nat} (hts : ∀ w ∈ w_C, w.before args s = true) (hR : (rmA 5 132 mc1 ms1).frames + 1 ≤ R.frames ∧ 8 + (2 + 11) + (rmA 5 132 mc1 ms1).locals ≤ R.locals) : CallW R s args "WordSmith$Reader" R_Rd 47 y_Rd_cutToken b_Rd_cutToken 2 (some (.object "java/lang/String")) (.code y_Rd_cutToken b_Rd_cutToken 2 (some (.object "java/lang/String")) :: w_C) (rmA 5 132 mc1 ms1) mc1 ms1 0 := ⟨callB_of 0 hts (good_C k_C_346) rfl rfl rfl (hts _ k_C_5) (hts _ k_C_344) ⟨by decide +kernel, by decide +kernel, by decide +kernel⟩ hR, hts _ k_C_345, hts _ k_C_782⟩
theorem qA_30 {R : Room} {s : State} {args : Array Value} {mc1 ms1 : Nat} (hts : ∀ w ∈ w_C, w.before args s = true) (hR : (rmA 0 0 mc1 ms1).frames + 1 ≤ R.frames ∧ 8 + (1 + 11) + (rmA 0 0 mc1 ms1).locals ≤ R.locals) : CallW R s args "WordSmith$Reader" R_St 51 y_St_isEmpty b_St_isEmpty 1 (some .boolean) (.code y_St_isEmpty b_St_isEmpty 1 (some .boolean) :: w_C) (rmA 0 0 mc1 ms1) mc1 ms1 0 := ⟨callB_of 0 hts (good_C k_C_377) rfl rfl rfl (hts _ k_C_3) (hts _ k_C_374) ⟨by decide +kernel, by decide +kernel, by decide +kernel⟩ hR, hts _ k_C_375, hts _ k_C_376⟩
theorem d_Rd_advance_0 : decode b_Rd_advance 0 = .ok (.aload_n 0, 1) := by decide +kernel
theorem d_Rd_advance_1 : decode b_Rd_advance 1 = .ok (.invokevirtual 41, 3) := by decide +kernel
theorem d_Rd_advance_4 : decode b_Rd_advance 4 = .ok (.aload_n 0, 1) := by decide +kernel
theorem d_Rd_advance_5 : decode b_Rd_advance 5 = .ok (.aload_n 0, 1) := by decide +kernel
theorem d_Rd_advance_6 : decode b_Rd_advance 6 = .ok (.getfield 34, 3) := by decide +kernel
theorem d_Rd_advance_9 : decode b_Rd_advance 9 = .ok (.putfield 44, 3) := by decide +kernel
theorem d_Rd_advance_12 : decode b_Rd_advance 12 = .ok (.aload_n 0, 1) := by decide +kernel
theorem d_Rd_advance_13 : decode b_Rd_advance 13 = .ok (.aload_n 0, 1) := by decide +kernel
theorem d_Rd_advance_14 : decode b_Rd_advance 14 = .ok (.invokevirtual 47, 3) := by decide +kernel
theorem d_Rd_advance_17 : decode b_Rd_advance 17 = .ok (.putfield 31, 3) := by decide +kernel
theorem d_Rd_advance_20 : decode b_Rd_advance 20 = .ok (.aload_n 0, 1) := by decide +kernel
theorem d_Rd_advance_21 : decode b_Rd_advance 21 = .ok (.getfield 31, 3) := by decide +kernel
theorem d_Rd_advance_24 : decode b_Rd_advance 24 = .ok (.invokevirtual 51, 3) := by decide +kernel
theorem d_Rd_advance_27 : decode b_Rd_advance 27 = .ok (.ifCond .ne 7, 3) := by decide +kernel
theorem d_Rd_advance_30 : decode b_Rd_advance 30 = .ok (.iconst 1, 1) := by decide +kernel
theorem d_Rd_advance_31 : decode b_Rd_advance 31 = .ok (.goto 4, 3) := by decide +kernel
theorem d_Rd_advance_34 : decode b_Rd_advance 34 = .ok (.iconst 0, 1) := by decide +kernel
theorem d_Rd_advance_35 : decode b_Rd_advance 35 = .ok (.ireturn, 1) := by decide +kernel
def wq_Rd_advance_35 (g : Gm) (post : Int32 → StC → Prop) (mc ms : Nat)  (S : StC) (t0 : Int32) (c0 : Nat) (z0 : Nat) : Prop :=
  (narrow .boolean (.int (t0)) = .int (t0)) ∧ (post (t0) S)
def wp_Rd_advance (g : Gm) (post : Int32 → StC → Prop) (mc ms : Nat) (S : StC)  : Prop :=
  ∃ (mc1 : Nat) (ms2 : Nat), (0 + mc1 ≤ mc) ∧ (0 + ms2 ≤ ms) ∧ (wp_Rd_skipSpaces g (fun S3 : StC => (∃ (mc4 : Nat) (ms5 : Nat), ((0 + mc1) + mc4 ≤ mc) ∧ ((0 + ms2) + ms5 ≤ ms) ∧ (wp_Rd_cutToken g (fun (r7 : Option Nat) (S6 : StC) => (∃ (y8 : Nat), (r7 = some y8) ∧ ((isStr g (S6.1, S6.2.1, (va_up S6.2.2.1 2 (y8)), S6.2.2.2) (y8)) ∧ (∃ (mc11 : Nat) (ms12 : Nat), (((0 + mc1) + mc4) + mc11 ≤ mc) ∧ (((0 + ms2) + ms5) + ms12 ≤ ms) ∧ (wp_St_isEmpty g (fun (r14 : Int32) (S13 : StC) => (((r14 = 0) → wq_Rd_advance_35 g post mc ms  S13 (1) ((((0 + mc1) + mc4) + mc11)) ((((0 + ms2) + ms5) + ms12))) ∧ (¬ (r14 = 0) → wq_Rd_advance_35 g post mc ms  S13 (0) ((((0 + mc1) + mc4) + mc11)) ((((0 + ms2) + ms5) + ms12))))) mc11 ms12 (S6.1, S6.2.1, (va_up S6.2.2.1 2 (y8)), S6.2.2.2) (y8)))))) mc4 ms5 ((upd S3.1 4 ((S3.1 3))), S3.2) ))) mc1 ms2 S )
set_option maxRecDepth 100000 in
set_option maxHeartbeats 4000000 in
theorem c_Rd_advance (l : Launch) (g : Gm) (sz : Nat) (S : StC)  (post : Int32 → StC → Prop) (mc ms : Nat) (hw : wp_Rd_advance g post mc ms S ) : Met l y_Rd_advance (.code y_Rd_advance b_Rd_advance 1 (some .boolean) :: w_C) (rmA 6 153 mc ms) (va_Pc [.ref (g.2.2 2)] (PC g sz S)) (va_Qi post (BC g (AC g sz S)) (AC g sz S)) mc ms (AC g sz S) := by
  refine ofA_z (by decide) (Nat.le_of_ble_eq_true rfl) (fun p e s m args below meth c Q A H locs ls hx hb hml hts hown hK hA hC hN hmn kr hl hP hD hS => ?_)
  have hl : lv_has ls 1 [(0, .ref (g.2.2 2))] := hl
  unfold wp_Rd_advance at hw
  have hcm : 0 ≤ mc := Nat.zero_le _
  have hzm : 0 ≤ ms := Nat.zero_le _
  have J35 : ∀ (S : StC) (t0 : Int32) (c0 : Nat) (z0 : Nat) (H : Heap) (locs : List Loc) (ls : Array Slot), c0 ≤ mc → z0 ≤ ms → wq_Rd_advance_35 g post mc ms  S t0 c0 z0 → lv_has ls 1 [] → va_P g.1 classes (wC g S) H → va_D A (wC g S) → va_S A s.heap H locs → W p l e (rmA 6 153 mc ms) s m args below meth c H locs c0 z0 Q (F0 m 35 ls [.int (t0)]) := by
    intro S t0 c0 z0 H locs ls hcm hzm hw hl hP hD hS
    unfold wq_Rd_advance_35 at hw
    obtain ⟨hnz, hw⟩ := hw
    exact kr (t0) S _ _ _ _ _ _ hcm hzm hnz hw hP hD hS d_Rd_advance_35
  refine lv_aload_n hx hb d_Rd_advance_0 rfl (lv_at hl 0 rfl) ?_
  obtain ⟨mc1, ms2, hcm, hzm, hw⟩ := hw
  refine cA_vV (As := []) (rest := []) hx hb hml hown hts hK hC hN hP hD hS hA hcm hzm hl.1 (va_recv (q0 := 2) (ci := 4) (q := (R_Rd, F_Rd, 6)) hK hP rfl rfl) (qA_28 hts ⟨Nat.le_of_ble_eq_true rfl, Nat.le_of_ble_eq_true rfl⟩) (c_Rd_skipSpaces l g H.size _  _ _ _ hw) rfl rfl (Nat.le_of_ble_eq_true rfl) d_Rd_advance_1 (fun S3 H locs hw hP hD hS => ?_)
  refine lv_aload_n hx hb d_Rd_advance_4 rfl (lv_at hl 0 rfl) ?_
  refine lv_aload_n hx hb d_Rd_advance_5 rfl (lv_at hl 0 rfl) ?_
  refine va_get (D := g.1) (ci := 4) (v := .int ((S3.1 3))) (C := R_Rd) (T := F_Rd) (N := 6) hx hb hts hin_Rd hown hK hP 2 rfl rfl 3 (by decide) (hts _ k_C_130) (fun _ h9 => h9) rfl d_Rd_advance_6 ?_
  refine pt_C (S2 := ((upd S3.1 4 ((S3.1 3))), S3.2)) (v := .int ((S3.1 3))) (C := R_Rd) (F := F_Rd) (N := 6) (ci := 4) hx hb hts hin_Rd t_Rd t_Rd_ok n_Rd hown hK hP hD hS 2 rfl rfl 4 (by decide) rfl rfl rfl (Nat.le_of_ble_eq_true rfl) (sI_C_4 g _ _) k_C_131 d_Rd_advance_9 (fun H locs hP hD hS => ?_)
  refine lv_aload_n hx hb d_Rd_advance_12 rfl (lv_at hl 0 rfl) ?_
  refine lv_aload_n hx hb d_Rd_advance_13 rfl (lv_at hl 0 rfl) ?_
  obtain ⟨mc4, ms5, hcm, hzm, hw⟩ := hw
  refine cA_qV (As := []) (rest := [.ref (g.2.2 2)]) hx hb hml hown hts hK hC hN hP hD hS hA hcm hzm hl.1 (va_recv (q0 := 2) (ci := 4) (q := (R_Rd, F_Rd, 6)) hK hP rfl rfl) (qA_29 hts ⟨Nat.le_of_ble_eq_true rfl, Nat.le_of_ble_eq_true rfl⟩) (c_Rd_cutToken l g H.size _  _ _ _ hw) rfl rfl (Nat.le_of_ble_eq_true rfl) d_Rd_advance_14 (fun r7 S6 H locs hw hP hD hS => ?_)
  obtain ⟨y8, hy9, hw⟩ := hw
  refine W_rf hy9 ?_
  refine pt_C (S2 := (S6.1, S6.2.1, (va_up S6.2.2.1 2 (y8)), S6.2.2.2)) (v := .ref (y8)) (C := R_Rd) (F := F_Rd) (N := 6) (ci := 4) hx hb hts hin_Rd t_Rd t_Rd_ok n_Rd hown hK hP hD hS 2 rfl rfl 5 (by decide) rfl rfl rfl (Nat.le_of_ble_eq_true rfl) (sP_C_2 g _ _) k_C_132 d_Rd_advance_17 (fun H locs hP hD hS => ?_)
  refine lv_aload_n hx hb d_Rd_advance_20 rfl (lv_at hl 0 rfl) ?_
  refine va_get (D := g.1) (ci := 4) (v := .ref (y8)) (C := R_Rd) (T := F_Rd) (N := 6) hx hb hts hin_Rd hown hK hP 2 rfl rfl 5 (by decide) (hts _ k_C_132) (fun _ h9 => h9) rfl d_Rd_advance_21 ?_
  obtain ⟨hsr10, hw⟩ := hw
  obtain ⟨mc11, ms12, hcm, hzm, hw⟩ := hw
  refine cA_iV (As := []) (rest := []) hx hb hml hown hts hK hC hN hP hD hS hA hcm hzm hl.1 (strv_C hK hC hP hS hsr10) (qA_30 hts ⟨Nat.le_of_ble_eq_true rfl, Nat.le_of_ble_eq_true rfl⟩) (c_St_isEmpty l g H.size _ (y8) _ _ _ hw) rfl rfl (Nat.le_of_ble_eq_true rfl) d_Rd_advance_24 (fun r14 S13 H locs hw hP hD hS => ?_)
  refine lv_if_ne hx hb d_Rd_advance_27 (tgt := 34) (by decide) (fun hc => ?_) (fun hc => ?_)
  · have hw := hw.2 hc
    refine lv_iconst (v := 0) hx hb d_Rd_advance_34 (by decide) ?_
    exact J35 S13 (0) ((((0 + mc1) + mc4) + mc11)) ((((0 + ms2) + ms5) + ms12)) _ _ _ hcm hzm hw (lv_sub hl [] rfl) hP hD hS
  · have hw := hw.1 hc
    refine lv_iconst (v := 1) hx hb d_Rd_advance_30 (by decide) ?_
    refine lv_goto hx hb d_Rd_advance_31 (tgt := 35) (by decide) ?_
    exact J35 S13 (1) ((((0 + mc1) + mc4) + mc11)) ((((0 + ms2) + ms5) + ms12)) _ _ _ hcm hzm hw (lv_sub hl [] rfl) hP hD hS
theorem d_Rd_isNumber_0 : decode b_Rd_isNumber 0 = .ok (.aload_n 0, 1) := by decide +kernel
theorem d_Rd_isNumber_1 : decode b_Rd_isNumber 1 = .ok (.invokevirtual 51, 3) := by decide +kernel
theorem d_Rd_isNumber_4 : decode b_Rd_isNumber 4 = .ok (.ifCond .ne 17, 3) := by decide +kernel
theorem d_Rd_isNumber_7 : decode b_Rd_isNumber 7 = .ok (.aload_n 0, 1) := by decide +kernel
theorem d_Rd_isNumber_8 : decode b_Rd_isNumber 8 = .ok (.iconst 0, 1) := by decide +kernel
theorem d_Rd_isNumber_9 : decode b_Rd_isNumber 9 = .ok (.invokevirtual 61, 3) := by decide +kernel
theorem d_Rd_isNumber_12 : decode b_Rd_isNumber 12 = .ok (.bipush 45, 2) := by decide +kernel
theorem d_Rd_isNumber_14 : decode b_Rd_isNumber 14 = .ok (.if_icmp .ne 7, 3) := by decide +kernel
theorem d_Rd_isNumber_17 : decode b_Rd_isNumber 17 = .ok (.iconst 1, 1) := by decide +kernel
theorem d_Rd_isNumber_18 : decode b_Rd_isNumber 18 = .ok (.goto 4, 3) := by decide +kernel
theorem d_Rd_isNumber_21 : decode b_Rd_isNumber 21 = .ok (.iconst 0, 1) := by decide +kernel
theorem d_Rd_isNumber_22 : decode b_Rd_isNumber 22 = .ok (.istore_n 1, 1) := by decide +kernel
theorem d_Rd_isNumber_23 : decode b_Rd_isNumber 23 = .ok (.aload_n 0, 1) := by decide +kernel
theorem d_Rd_isNumber_24 : decode b_Rd_isNumber 24 = .ok (.invokevirtual 57, 3) := by decide +kernel
theorem d_Rd_isNumber_27 : decode b_Rd_isNumber 27 = .ok (.iload_n 1, 1) := by decide +kernel
theorem d_Rd_isNumber_28 : decode b_Rd_isNumber 28 = .ok (.isub, 1) := by decide +kernel
theorem d_Rd_isNumber_29 : decode b_Rd_isNumber 29 = .ok (.istore_n 2, 1) := by decide +kernel
theorem d_Rd_isNumber_30 : decode b_Rd_isNumber 30 = .ok (.iload_n 2, 1) := by decide +kernel
theorem d_Rd_isNumber_31 : decode b_Rd_isNumber 31 = .ok (.iconst 1, 1) := by decide +kernel
theorem d_Rd_isNumber_32 : decode b_Rd_isNumber 32 = .ok (.if_icmp .lt 9, 3) := by decide +kernel
theorem d_Rd_isNumber_35 : decode b_Rd_isNumber 35 = .ok (.iload_n 2, 1) := by decide +kernel
theorem d_Rd_isNumber_36 : decode b_Rd_isNumber 36 = .ok (.bipush 6, 2) := by decide +kernel
theorem d_Rd_isNumber_38 : decode b_Rd_isNumber 38 = .ok (.if_icmp .le 5, 3) := by decide +kernel
theorem d_Rd_isNumber_41 : decode b_Rd_isNumber 41 = .ok (.iconst 0, 1) := by decide +kernel
theorem d_Rd_isNumber_42 : decode b_Rd_isNumber 42 = .ok (.ireturn, 1) := by decide +kernel
theorem d_Rd_isNumber_43 : decode b_Rd_isNumber 43 = .ok (.iload_n 1, 1) := by decide +kernel
theorem d_Rd_isNumber_44 : decode b_Rd_isNumber 44 = .ok (.istore_n 3, 1) := by decide +kernel
theorem d_Rd_isNumber_45 : decode b_Rd_isNumber 45 = .ok (.iload_n 3, 1) := by decide +kernel
theorem d_Rd_isNumber_46 : decode b_Rd_isNumber 46 = .ok (.aload_n 0, 1) := by decide +kernel
theorem d_Rd_isNumber_47 : decode b_Rd_isNumber 47 = .ok (.invokevirtual 57, 3) := by decide +kernel
theorem d_Rd_isNumber_50 : decode b_Rd_isNumber 50 = .ok (.if_icmp .ge 31, 3) := by decide +kernel
theorem d_Rd_isNumber_53 : decode b_Rd_isNumber 53 = .ok (.aload_n 0, 1) := by decide +kernel
theorem d_Rd_isNumber_54 : decode b_Rd_isNumber 54 = .ok (.iload_n 3, 1) := by decide +kernel
theorem d_Rd_isNumber_55 : decode b_Rd_isNumber 55 = .ok (.invokevirtual 61, 3) := by decide +kernel
theorem d_Rd_isNumber_58 : decode b_Rd_isNumber 58 = .ok (.bipush 48, 2) := by decide +kernel
theorem d_Rd_isNumber_60 : decode b_Rd_isNumber 60 = .ok (.if_icmp .lt 13, 3) := by decide +kernel
theorem d_Rd_isNumber_63 : decode b_Rd_isNumber 63 = .ok (.aload_n 0, 1) := by decide +kernel
theorem d_Rd_isNumber_64 : decode b_Rd_isNumber 64 = .ok (.iload_n 3, 1) := by decide +kernel
theorem d_Rd_isNumber_65 : decode b_Rd_isNumber 65 = .ok (.invokevirtual 61, 3) := by decide +kernel
theorem d_Rd_isNumber_68 : decode b_Rd_isNumber 68 = .ok (.bipush 57, 2) := by decide +kernel
theorem d_Rd_isNumber_70 : decode b_Rd_isNumber 70 = .ok (.if_icmp .le 5, 3) := by decide +kernel
theorem d_Rd_isNumber_73 : decode b_Rd_isNumber 73 = .ok (.iconst 0, 1) := by decide +kernel
theorem d_Rd_isNumber_74 : decode b_Rd_isNumber 74 = .ok (.ireturn, 1) := by decide +kernel
theorem d_Rd_isNumber_75 : decode b_Rd_isNumber 75 = .ok (.iinc 3 1, 3) := by decide +kernel
theorem d_Rd_isNumber_78 : decode b_Rd_isNumber 78 = .ok (.goto (-33), 3) := by decide +kernel
theorem d_Rd_isNumber_81 : decode b_Rd_isNumber 81 = .ok (.iconst 1, 1) := by decide +kernel
theorem d_Rd_isNumber_82 : decode b_Rd_isNumber 82 = .ok (.ireturn, 1) := by decide +kernel
def wq_Rd_isNumber_73 (g : Gm) (post : Int32 → StC → Prop) (mc ms : Nat) (k45 : StC → Nat → Int32 → Nat → Nat → Prop) (S : StC) (c0 : Nat) (z0 : Nat) : Prop :=
  post (0) S
def wq_Rd_isNumber_45 (g : Gm) (post : Int32 → StC → Prop) (mc ms : Nat)  : Nat → StC → Nat → Int32 → Nat → Nat → Prop
  | 0, _, _, _, _, _ => False
  | n45 + 1, S, x0, x3, c0, z0 =>
    (isStr g S (x0)) ∧ (∃ (mc2 : Nat) (ms3 : Nat), (c0 + mc2 ≤ mc) ∧ (z0 + ms3 ≤ ms) ∧ (wp_St_length g (fun (r5 : Int32) (S4 : StC) => (((r5 ≤ x3) → post (1) S4) ∧ (¬ (r5 ≤ x3) → (isStr g S4 (x0)) ∧ (∃ (mc7 : Nat) (ms8 : Nat), ((c0 + mc2) + mc7 ≤ mc) ∧ ((z0 + ms3) + ms8 ≤ ms) ∧ (wp_St_charAt g (fun (r10 : Int32) (S9 : StC) => (((r10 < 48) → wq_Rd_isNumber_73 g post mc ms (wq_Rd_isNumber_45 g post mc ms  n45) S9 (((c0 + mc2) + mc7)) (((z0 + ms3) + ms8))) ∧ (¬ (r10 < 48) → (isStr g S9 (x0)) ∧ (∃ (mc12 : Nat) (ms13 : Nat), (((c0 + mc2) + mc7) + mc12 ≤ mc) ∧ (((z0 + ms3) + ms8) + ms13 ≤ ms) ∧ (wp_St_charAt g (fun (r15 : Int32) (S14 : StC) => (((r15 ≤ 57) → (wq_Rd_isNumber_45 g post mc ms  n45) S14 (x0) ((x3 + 1)) ((((c0 + mc2) + mc7) + mc12)) ((((z0 + ms3) + ms8) + ms13))) ∧ (¬ (r15 ≤ 57) → wq_Rd_isNumber_73 g post mc ms (wq_Rd_isNumber_45 g post mc ms  n45) S14 ((((c0 + mc2) + mc7) + mc12)) ((((z0 + ms3) + ms8) + ms13))))) mc12 ms13 S9 (x0) (x3)))))) mc7 ms8 S4 (x0) (x3)))))) mc2 ms3 S (x0)))
def wq_Rd_isNumber_41 (g : Gm) (post : Int32 → StC → Prop) (mc ms : Nat)  (S : StC) (c0 : Nat) (z0 : Nat) : Prop :=
  post (0) S
def wq_Rd_isNumber_22 (g : Gm) (post : Int32 → StC → Prop) (mc ms : Nat)  (S : StC) (x0 : Nat) (t0 : Int32) (c0 : Nat) (z0 : Nat) : Prop :=
  (isStr g S (x0)) ∧ (∃ (mc17 : Nat) (ms18 : Nat), (c0 + mc17 ≤ mc) ∧ (z0 + ms18 ≤ ms) ∧ (wp_St_length g (fun (r20 : Int32) (S19 : StC) => ((((r20 - t0) < 1) → wq_Rd_isNumber_41 g post mc ms  S19 ((c0 + mc17)) ((z0 + ms18))) ∧ (¬ ((r20 - t0) < 1) → (((r20 - t0) ≤ 6) → ∃ nn : Nat, wq_Rd_isNumber_45 g post mc ms  nn S19 (x0) (t0) ((c0 + mc17)) ((z0 + ms18))) ∧ (¬ ((r20 - t0) ≤ 6) → wq_Rd_isNumber_41 g post mc ms  S19 ((c0 + mc17)) ((z0 + ms18)))))) mc17 ms18 S (x0)))
def wq_Rd_isNumber_21 (g : Gm) (post : Int32 → StC → Prop) (mc ms : Nat)  (S : StC) (x0 : Nat) (c0 : Nat) (z0 : Nat) : Prop :=
  wq_Rd_isNumber_22 g post mc ms  S (x0) (0) (c0) (z0)
def wp_Rd_isNumber (g : Gm) (post : Int32 → StC → Prop) (mc ms : Nat) (S : StC) (a0 : Nat) : Prop :=
  (isStr g S (a0)) ∧ (∃ (mc22 : Nat) (ms23 : Nat), (0 + mc22 ≤ mc) ∧ (0 + ms23 ≤ ms) ∧ (wp_St_isEmpty g (fun (r25 : Int32) (S24 : StC) => (((r25 = 0) → (isStr g S24 (a0)) ∧ (∃ (mc27 : Nat) (ms28 : Nat), ((0 + mc22) + mc27 ≤ mc) ∧ ((0 + ms23) + ms28 ≤ ms) ∧ (wp_St_charAt g (fun (r30 : Int32) (S29 : StC) => (((r30 = 45) → wq_Rd_isNumber_22 g post mc ms  S29 (a0) (1) (((0 + mc22) + mc27)) (((0 + ms23) + ms28))) ∧ (¬ (r30 = 45) → wq_Rd_isNumber_21 g post mc ms  S29 (a0) (((0 + mc22) + mc27)) (((0 + ms23) + ms28))))) mc27 ms28 S24 (a0) (0)))) ∧ (¬ (r25 = 0) → wq_Rd_isNumber_21 g post mc ms  S24 (a0) ((0 + mc22)) ((0 + ms23))))) mc22 ms23 S (a0)))
set_option maxRecDepth 100000 in
set_option maxHeartbeats 4000000 in
theorem c_Rd_isNumber (l : Launch) (g : Gm) (sz : Nat) (S : StC) (a0 : Nat) (post : Int32 → StC → Prop) (mc ms : Nat) (hw : wp_Rd_isNumber g post mc ms S a0) : Met l y_Rd_isNumber (.code y_Rd_isNumber b_Rd_isNumber 4 (some .boolean) :: w_C) (rmA 4 85 mc ms) (va_Pc [.ref (a0)] (PC g sz S)) (va_Qi post (BC g (AC g sz S)) (AC g sz S)) mc ms (AC g sz S) := by
  refine ofA_z (by decide) (Nat.le_of_ble_eq_true rfl) (fun p e s m args below meth c Q A H locs ls hx hb hml hts hown hK hA hC hN hmn kr hl hP hD hS => ?_)
  have hl : lv_has ls 4 [(0, .ref (a0))] := hl
  unfold wp_Rd_isNumber at hw
  have hcm : 0 ≤ mc := Nat.zero_le _
  have hzm : 0 ≤ ms := Nat.zero_le _
  have J45 : ∀ (n45 : Nat), ∀ (S : StC) (x0 : Nat) (x3 : Int32) (c0 : Nat) (z0 : Nat) (H : Heap) (locs : List Loc) (ls : Array Slot), c0 ≤ mc → z0 ≤ ms → wq_Rd_isNumber_45 g post mc ms  n45 S x0 x3 c0 z0 → lv_has ls 4 [(0, .ref (x0)), (3, .int (x3))] → va_P g.1 classes (wC g S) H → va_D A (wC g S) → va_S A s.heap H locs → W p l e (rmA 4 85 mc ms) s m args below meth c H locs c0 z0 Q (F0 m 45 ls []) := by
    intro n45
    induction n45 with
    | zero => intro S x0 x3 c0 z0 H locs ls hcm hzm hw; exact hw.elim
    | succ n45 ih45 =>
      have J73 : ∀ (S : StC) (c0 : Nat) (z0 : Nat) (H : Heap) (locs : List Loc) (ls : Array Slot), c0 ≤ mc → z0 ≤ ms → wq_Rd_isNumber_73 g post mc ms (wq_Rd_isNumber_45 g post mc ms  n45) S c0 z0 → lv_has ls 4 [] → va_P g.1 classes (wC g S) H → va_D A (wC g S) → va_S A s.heap H locs → W p l e (rmA 4 85 mc ms) s m args below meth c H locs c0 z0 Q (F0 m 73 ls []) := by
        intro S c0 z0 H locs ls hcm hzm hw hl hP hD hS
        unfold wq_Rd_isNumber_73 at hw
        refine lv_iconst (v := 0) hx hb d_Rd_isNumber_73 (by decide) ?_
        exact kr (0) S _ _ _ _ _ _ hcm hzm rfl hw hP hD hS d_Rd_isNumber_74
      intro S x0 x3 c0 z0 H locs ls hcm hzm hw hl hP hD hS
      unfold wq_Rd_isNumber_45 at hw
      refine lv_iload_n hx hb d_Rd_isNumber_45 rfl (lv_at hl 1 rfl) ?_
      refine lv_aload_n hx hb d_Rd_isNumber_46 rfl (lv_at hl 0 rfl) ?_
      obtain ⟨hsr1, hw⟩ := hw
      obtain ⟨mc2, ms3, hcm, hzm, hw⟩ := hw
      refine cA_iV (As := []) (rest := [.int (x3)]) hx hb hml hown hts hK hC hN hP hD hS hA hcm hzm hl.1 (strv_C hK hC hP hS hsr1) (qA_19 hts ⟨Nat.le_of_ble_eq_true rfl, Nat.le_of_ble_eq_true rfl⟩) (c_St_length l g H.size _ (x0) _ _ _ hw) rfl rfl (Nat.le_of_ble_eq_true rfl) d_Rd_isNumber_47 (fun r5 S4 H locs hw hP hD hS => ?_)
      refine lv_icmp_ge hx hb d_Rd_isNumber_50 (tgt := 81) (by decide) (fun hc => ?_) (fun hc => ?_)
      · have hw := hw.1 hc
        refine lv_iconst (v := 1) hx hb d_Rd_isNumber_81 (by decide) ?_
        exact kr (1) S4 _ _ _ _ _ _ hcm hzm rfl hw hP hD hS d_Rd_isNumber_82
      · have hw := hw.2 hc
        refine lv_aload_n hx hb d_Rd_isNumber_53 rfl (lv_at hl 0 rfl) ?_
        refine lv_iload_n hx hb d_Rd_isNumber_54 rfl (lv_at hl 1 rfl) ?_
        obtain ⟨hsr6, hw⟩ := hw
        obtain ⟨mc7, ms8, hcm, hzm, hw⟩ := hw
        refine cA_iV (As := [.int (x3)]) (rest := []) hx hb hml hown hts hK hC hN hP hD hS hA hcm hzm hl.1 (strv_C hK hC hP hS hsr6) (qA_20 hts ⟨Nat.le_of_ble_eq_true rfl, Nat.le_of_ble_eq_true rfl⟩) (c_St_charAt l g H.size _ (x0) (x3) _ _ _ hw) rfl rfl (Nat.le_of_ble_eq_true rfl) d_Rd_isNumber_55 (fun r10 S9 H locs hw hP hD hS => ?_)
        refine lv_bipush (v := 48) hx hb d_Rd_isNumber_58 (by decide) ?_
        refine lv_icmp_lt hx hb d_Rd_isNumber_60 (tgt := 73) (by decide) (fun hc => ?_) (fun hc => ?_)
        · have hw := hw.1 hc
          exact J73 S9 (((c0 + mc2) + mc7)) (((z0 + ms3) + ms8)) _ _ _ hcm hzm hw (lv_sub hl [] rfl) hP hD hS
        · have hw := hw.2 hc
          refine lv_aload_n hx hb d_Rd_isNumber_63 rfl (lv_at hl 0 rfl) ?_
          refine lv_iload_n hx hb d_Rd_isNumber_64 rfl (lv_at hl 1 rfl) ?_
          obtain ⟨hsr11, hw⟩ := hw
          obtain ⟨mc12, ms13, hcm, hzm, hw⟩ := hw
          refine cA_iV (As := [.int (x3)]) (rest := []) hx hb hml hown hts hK hC hN hP hD hS hA hcm hzm hl.1 (strv_C hK hC hP hS hsr11) (qA_20 hts ⟨Nat.le_of_ble_eq_true rfl, Nat.le_of_ble_eq_true rfl⟩) (c_St_charAt l g H.size _ (x0) (x3) _ _ _ hw) rfl rfl (Nat.le_of_ble_eq_true rfl) d_Rd_isNumber_65 (fun r15 S14 H locs hw hP hD hS => ?_)
          refine lv_bipush (v := 57) hx hb d_Rd_isNumber_68 (by decide) ?_
          refine lv_icmp_le hx hb d_Rd_isNumber_70 (tgt := 75) (by decide) (fun hc => ?_) (fun hc => ?_)
          · have hw := hw.1 hc
            refine lv_iinc (k := 1) (v := (x3 + 1)) (lv' := [(3, .int ((x3 + 1))), (0, .ref (x0))]) hx hb d_Rd_isNumber_75 hl rfl rfl (by decide) rfl (fun ls hl => ?_)
            refine lv_goto hx hb d_Rd_isNumber_78 (tgt := 45) (by decide) ?_
            exact ih45 S14 (x0) ((x3 + 1)) ((((c0 + mc2) + mc7) + mc12)) ((((z0 + ms3) + ms8) + ms13)) _ _ _ hcm hzm hw (lv_sub hl [1, 0] rfl) hP hD hS
          · have hw := hw.2 hc
            exact J73 S14 ((((c0 + mc2) + mc7) + mc12)) ((((z0 + ms3) + ms8) + ms13)) _ _ _ hcm hzm hw (lv_sub hl [] rfl) hP hD hS
  have J41 : ∀ (S : StC) (c0 : Nat) (z0 : Nat) (H : Heap) (locs : List Loc) (ls : Array Slot), c0 ≤ mc → z0 ≤ ms → wq_Rd_isNumber_41 g post mc ms  S c0 z0 → lv_has ls 4 [] → va_P g.1 classes (wC g S) H → va_D A (wC g S) → va_S A s.heap H locs → W p l e (rmA 4 85 mc ms) s m args below meth c H locs c0 z0 Q (F0 m 41 ls []) := by
    intro S c0 z0 H locs ls hcm hzm hw hl hP hD hS
    unfold wq_Rd_isNumber_41 at hw
    refine lv_iconst (v := 0) hx hb d_Rd_isNumber_41 (by decide) ?_
    exact kr (0) S _ _ _ _ _ _ hcm hzm rfl hw hP hD hS d_Rd_isNumber_42
  have J22 : ∀ (S : StC) (x0 : Nat) (t0 : Int32) (c0 : Nat) (z0 : Nat) (H : Heap) (locs : List Loc) (ls : Array Slot), c0 ≤ mc → z0 ≤ ms → wq_Rd_isNumber_22 g post mc ms  S x0 t0 c0 z0 → lv_has ls 4 [(0, .ref (x0))] → va_P g.1 classes (wC g S) H → va_D A (wC g S) → va_S A s.heap H locs → W p l e (rmA 4 85 mc ms) s m args below meth c H locs c0 z0 Q (F0 m 22 ls [.int (t0)]) := by
    intro S x0 t0 c0 z0 H locs ls hcm hzm hw hl hP hD hS
    unfold wq_Rd_isNumber_22 at hw
    refine lv_istore_n (lv' := [(1, .int (t0)), (0, .ref (x0))]) hx hb d_Rd_isNumber_22 rfl hl (by decide) rfl (fun ls hl => ?_)
    refine lv_aload_n hx hb d_Rd_isNumber_23 rfl (lv_at hl 1 rfl) ?_
    obtain ⟨hsr16, hw⟩ := hw
    obtain ⟨mc17, ms18, hcm, hzm, hw⟩ := hw
    refine cA_iV (As := []) (rest := []) hx hb hml hown hts hK hC hN hP hD hS hA hcm hzm hl.1 (strv_C hK hC hP hS hsr16) (qA_19 hts ⟨Nat.le_of_ble_eq_true rfl, Nat.le_of_ble_eq_true rfl⟩) (c_St_length l g H.size _ (x0) _ _ _ hw) rfl rfl (Nat.le_of_ble_eq_true rfl) d_Rd_isNumber_24 (fun r20 S19 H locs hw hP hD hS => ?_)
    refine lv_iload_n hx hb d_Rd_isNumber_27 rfl (lv_at hl 0 rfl) ?_
    refine lv_isub hx hb d_Rd_isNumber_28 ?_
    refine lv_istore_n (lv' := [(2, .int ((r20 - t0))), (1, .int (t0)), (0, .ref (x0))]) hx hb d_Rd_isNumber_29 rfl hl (by decide) rfl (fun ls hl => ?_)
    refine lv_iload_n hx hb d_Rd_isNumber_30 rfl (lv_at hl 0 rfl) ?_
    refine lv_iconst (v := 1) hx hb d_Rd_isNumber_31 (by decide) ?_
    refine lv_icmp_lt hx hb d_Rd_isNumber_32 (tgt := 41) (by decide) (fun hc => ?_) (fun hc => ?_)
    · have hw := hw.1 hc
      exact J41 S19 ((c0 + mc17)) ((z0 + ms18)) _ _ _ hcm hzm hw (lv_sub hl [] rfl) hP hD hS
    · have hw := hw.2 hc
      refine lv_iload_n hx hb d_Rd_isNumber_35 rfl (lv_at hl 0 rfl) ?_
      refine lv_bipush (v := 6) hx hb d_Rd_isNumber_36 (by decide) ?_
      refine lv_icmp_le hx hb d_Rd_isNumber_38 (tgt := 43) (by decide) (fun hc => ?_) (fun hc => ?_)
      · have hw := hw.1 hc
        refine lv_iload_n hx hb d_Rd_isNumber_43 rfl (lv_at hl 1 rfl) ?_
        refine lv_istore_n (lv' := [(3, .int (t0)), (2, .int ((r20 - t0))), (1, .int (t0)), (0, .ref (x0))]) hx hb d_Rd_isNumber_44 rfl hl (by decide) rfl (fun ls hl => ?_)
        obtain ⟨nn, hw⟩ := hw
        exact J45 nn S19 (x0) (t0) ((c0 + mc17)) ((z0 + ms18)) _ _ _ hcm hzm hw (lv_sub hl [3, 0] rfl) hP hD hS
      · have hw := hw.2 hc
        exact J41 S19 ((c0 + mc17)) ((z0 + ms18)) _ _ _ hcm hzm hw (lv_sub hl [] rfl) hP hD hS
  have J21 : ∀ (S : StC) (x0 : Nat) (c0 : Nat) (z0 : Nat) (H : Heap) (locs : List Loc) (ls : Array Slot), c0 ≤ mc → z0 ≤ ms → wq_Rd_isNumber_21 g post mc ms  S x0 c0 z0 → lv_has ls 4 [(0, .ref (x0))] → va_P g.1 classes (wC g S) H → va_D A (wC g S) → va_S A s.heap H locs → W p l e (rmA 4 85 mc ms) s m args below meth c H locs c0 z0 Q (F0 m 21 ls []) := by
    intro S x0 c0 z0 H locs ls hcm hzm hw hl hP hD hS
    unfold wq_Rd_isNumber_21 at hw
    refine lv_iconst (v := 0) hx hb d_Rd_isNumber_21 (by decide) ?_
    exact J22 S (x0) (0) (c0) (z0) _ _ _ hcm hzm hw (lv_sub hl [0] rfl) hP hD hS
  refine lv_aload_n hx hb d_Rd_isNumber_0 rfl (lv_at hl 0 rfl) ?_
  obtain ⟨hsr21, hw⟩ := hw
  obtain ⟨mc22, ms23, hcm, hzm, hw⟩ := hw
  refine cA_iV (As := []) (rest := []) hx hb hml hown hts hK hC hN hP hD hS hA hcm hzm hl.1 (strv_C hK hC hP hS hsr21) (qA_30 hts ⟨Nat.le_of_ble_eq_true rfl, Nat.le_of_ble_eq_true rfl⟩) (c_St_isEmpty l g H.size _ (a0) _ _ _ hw) rfl rfl (Nat.le_of_ble_eq_true rfl) d_Rd_isNumber_1 (fun r25 S24 H locs hw hP hD hS => ?_)
  refine lv_if_ne hx hb d_Rd_isNumber_4 (tgt := 21) (by decide) (fun hc => ?_) (fun hc => ?_)
  · have hw := hw.2 hc
    exact J21 S24 (a0) ((0 + mc22)) ((0 + ms23)) _ _ _ hcm hzm hw (lv_sub hl [0] rfl) hP hD hS
  · have hw := hw.1 hc
    refine lv_aload_n hx hb d_Rd_isNumber_7 rfl (lv_at hl 0 rfl) ?_
    refine lv_iconst (v := 0) hx hb d_Rd_isNumber_8 (by decide) ?_
    obtain ⟨hsr26, hw⟩ := hw
    obtain ⟨mc27, ms28, hcm, hzm, hw⟩ := hw
    refine cA_iV (As := [.int (0)]) (rest := []) hx hb hml hown hts hK hC hN hP hD hS hA hcm hzm hl.1 (strv_C hK hC hP hS hsr26) (qA_20 hts ⟨Nat.le_of_ble_eq_true rfl, Nat.le_of_ble_eq_true rfl⟩) (c_St_charAt l g H.size _ (a0) (0) _ _ _ hw) rfl rfl (Nat.le_of_ble_eq_true rfl) d_Rd_isNumber_9 (fun r30 S29 H locs hw hP hD hS => ?_)
    refine lv_bipush (v := 45) hx hb d_Rd_isNumber_12 (by decide) ?_
    refine lv_icmp_ne hx hb d_Rd_isNumber_14 (tgt := 21) (by decide) (fun hc => ?_) (fun hc => ?_)
    · have hw := hw.2 hc
      exact J21 S29 (a0) (((0 + mc22) + mc27)) (((0 + ms23) + ms28)) _ _ _ hcm hzm hw (lv_sub hl [0] rfl) hP hD hS
    · have hw := hw.1 hc
      refine lv_iconst (v := 1) hx hb d_Rd_isNumber_17 (by decide) ?_
      refine lv_goto hx hb d_Rd_isNumber_18 (tgt := 22) (by decide) ?_
      exact J22 S29 (a0) (1) (((0 + mc22) + mc27)) (((0 + ms23) + ms28)) _ _ _ hcm hzm hw (lv_sub hl [0] rfl) hP hD hS
theorem d_Rd_numberOf_0 : decode b_Rd_numberOf 0 = .ok (.aload_n 0, 1) := by decide +kernel
theorem d_Rd_numberOf_1 : decode b_Rd_numberOf 1 = .ok (.iconst 0, 1) := by decide +kernel
theorem d_Rd_numberOf_2 : decode b_Rd_numberOf 2 = .ok (.invokevirtual 61, 3) := by decide +kernel
theorem d_Rd_numberOf_5 : decode b_Rd_numberOf 5 = .ok (.bipush 45, 2) := by decide +kernel
theorem d_Rd_numberOf_7 : decode b_Rd_numberOf 7 = .ok (.if_icmp .ne 7, 3) := by decide +kernel
theorem d_Rd_numberOf_10 : decode b_Rd_numberOf 10 = .ok (.iconst 1, 1) := by decide +kernel
theorem d_Rd_numberOf_11 : decode b_Rd_numberOf 11 = .ok (.goto 4, 3) := by decide +kernel
theorem d_Rd_numberOf_14 : decode b_Rd_numberOf 14 = .ok (.iconst 0, 1) := by decide +kernel
theorem d_Rd_numberOf_15 : decode b_Rd_numberOf 15 = .ok (.istore_n 1, 1) := by decide +kernel
theorem d_Rd_numberOf_16 : decode b_Rd_numberOf 16 = .ok (.iconst 0, 1) := by decide +kernel
theorem d_Rd_numberOf_17 : decode b_Rd_numberOf 17 = .ok (.istore_n 2, 1) := by decide +kernel
theorem d_Rd_numberOf_18 : decode b_Rd_numberOf 18 = .ok (.iload_n 1, 1) := by decide +kernel
theorem d_Rd_numberOf_19 : decode b_Rd_numberOf 19 = .ok (.ifCond .eq 7, 3) := by decide +kernel
theorem d_Rd_numberOf_22 : decode b_Rd_numberOf 22 = .ok (.iconst 1, 1) := by decide +kernel
theorem d_Rd_numberOf_23 : decode b_Rd_numberOf 23 = .ok (.goto 4, 3) := by decide +kernel
theorem d_Rd_numberOf_26 : decode b_Rd_numberOf 26 = .ok (.iconst 0, 1) := by decide +kernel
theorem d_Rd_numberOf_27 : decode b_Rd_numberOf 27 = .ok (.istore_n 3, 1) := by decide +kernel
theorem d_Rd_numberOf_28 : decode b_Rd_numberOf 28 = .ok (.iload_n 3, 1) := by decide +kernel
theorem d_Rd_numberOf_29 : decode b_Rd_numberOf 29 = .ok (.aload_n 0, 1) := by decide +kernel
theorem d_Rd_numberOf_30 : decode b_Rd_numberOf 30 = .ok (.invokevirtual 57, 3) := by decide +kernel
theorem d_Rd_numberOf_33 : decode b_Rd_numberOf 33 = .ok (.if_icmp .ge 23, 3) := by decide +kernel
theorem d_Rd_numberOf_36 : decode b_Rd_numberOf 36 = .ok (.bipush 10, 2) := by decide +kernel
theorem d_Rd_numberOf_38 : decode b_Rd_numberOf 38 = .ok (.iload_n 2, 1) := by decide +kernel
theorem d_Rd_numberOf_39 : decode b_Rd_numberOf 39 = .ok (.imul, 1) := by decide +kernel
theorem d_Rd_numberOf_40 : decode b_Rd_numberOf 40 = .ok (.aload_n 0, 1) := by decide +kernel
theorem d_Rd_numberOf_41 : decode b_Rd_numberOf 41 = .ok (.iload_n 3, 1) := by decide +kernel
theorem d_Rd_numberOf_42 : decode b_Rd_numberOf 42 = .ok (.invokevirtual 61, 3) := by decide +kernel
theorem d_Rd_numberOf_45 : decode b_Rd_numberOf 45 = .ok (.iadd, 1) := by decide +kernel
theorem d_Rd_numberOf_46 : decode b_Rd_numberOf 46 = .ok (.bipush 48, 2) := by decide +kernel
theorem d_Rd_numberOf_48 : decode b_Rd_numberOf 48 = .ok (.isub, 1) := by decide +kernel
theorem d_Rd_numberOf_49 : decode b_Rd_numberOf 49 = .ok (.istore_n 2, 1) := by decide +kernel
theorem d_Rd_numberOf_50 : decode b_Rd_numberOf 50 = .ok (.iinc 3 1, 3) := by decide +kernel
theorem d_Rd_numberOf_53 : decode b_Rd_numberOf 53 = .ok (.goto (-25), 3) := by decide +kernel
theorem d_Rd_numberOf_56 : decode b_Rd_numberOf 56 = .ok (.iload_n 1, 1) := by decide +kernel
theorem d_Rd_numberOf_57 : decode b_Rd_numberOf 57 = .ok (.ifCond .eq 8, 3) := by decide +kernel
theorem d_Rd_numberOf_60 : decode b_Rd_numberOf 60 = .ok (.iload_n 2, 1) := by decide +kernel
theorem d_Rd_numberOf_61 : decode b_Rd_numberOf 61 = .ok (.ineg, 1) := by decide +kernel
theorem d_Rd_numberOf_62 : decode b_Rd_numberOf 62 = .ok (.goto 4, 3) := by decide +kernel
theorem d_Rd_numberOf_65 : decode b_Rd_numberOf 65 = .ok (.iload_n 2, 1) := by decide +kernel
theorem d_Rd_numberOf_66 : decode b_Rd_numberOf 66 = .ok (.ireturn, 1) := by decide +kernel
def wq_Rd_numberOf_66 (g : Gm) (post : Int32 → StC → Prop) (mc ms : Nat)  (S : StC) (t0 : Int32) (c0 : Nat) (z0 : Nat) : Prop :=
  post (t0) S
def wq_Rd_numberOf_28 (g : Gm) (post : Int32 → StC → Prop) (mc ms : Nat)  : Nat → StC → Nat → Int32 → Int32 → Int32 → Nat → Nat → Prop
  | 0, _, _, _, _, _, _, _ => False
  | n28 + 1, S, x0, x1, x2, x3, c0, z0 =>
    (isStr g S (x0)) ∧ (∃ (mc2 : Nat) (ms3 : Nat), (c0 + mc2 ≤ mc) ∧ (z0 + ms3 ≤ ms) ∧ (wp_St_length g (fun (r5 : Int32) (S4 : StC) => (((r5 ≤ x3) → ((x1 = 0) → wq_Rd_numberOf_66 g post mc ms  S4 (x2) ((c0 + mc2)) ((z0 + ms3))) ∧ (¬ (x1 = 0) → wq_Rd_numberOf_66 g post mc ms  S4 ((-x2)) ((c0 + mc2)) ((z0 + ms3)))) ∧ (¬ (r5 ≤ x3) → (isStr g S4 (x0)) ∧ (∃ (mc7 : Nat) (ms8 : Nat), ((c0 + mc2) + mc7 ≤ mc) ∧ ((z0 + ms3) + ms8 ≤ ms) ∧ (wp_St_charAt g (fun (r10 : Int32) (S9 : StC) => ((wq_Rd_numberOf_28 g post mc ms  n28) S9 (x0) (x1) ((((10 * x2) + r10) - 48)) ((x3 + 1)) (((c0 + mc2) + mc7)) (((z0 + ms3) + ms8)))) mc7 ms8 S4 (x0) (x3)))))) mc2 ms3 S (x0)))
def wq_Rd_numberOf_27 (g : Gm) (post : Int32 → StC → Prop) (mc ms : Nat)  (S : StC) (x0 : Nat) (x1 : Int32) (x2 : Int32) (t0 : Int32) (c0 : Nat) (z0 : Nat) : Prop :=
  ∃ nn : Nat, wq_Rd_numberOf_28 g post mc ms  nn S (x0) (x1) (x2) (t0) (c0) (z0)
def wq_Rd_numberOf_15 (g : Gm) (post : Int32 → StC → Prop) (mc ms : Nat)  (S : StC) (x0 : Nat) (t0 : Int32) (c0 : Nat) (z0 : Nat) : Prop :=
  ((t0 = 0) → wq_Rd_numberOf_27 g post mc ms  S (x0) (t0) (0) (0) (c0) (z0)) ∧ (¬ (t0 = 0) → wq_Rd_numberOf_27 g post mc ms  S (x0) (t0) (0) (1) (c0) (z0))
def wp_Rd_numberOf (g : Gm) (post : Int32 → StC → Prop) (mc ms : Nat) (S : StC) (a0 : Nat) : Prop :=
  (isStr g S (a0)) ∧ (∃ (mc12 : Nat) (ms13 : Nat), (0 + mc12 ≤ mc) ∧ (0 + ms13 ≤ ms) ∧ (wp_St_charAt g (fun (r15 : Int32) (S14 : StC) => (((r15 = 45) → wq_Rd_numberOf_15 g post mc ms  S14 (a0) (1) ((0 + mc12)) ((0 + ms13))) ∧ (¬ (r15 = 45) → wq_Rd_numberOf_15 g post mc ms  S14 (a0) (0) ((0 + mc12)) ((0 + ms13))))) mc12 ms13 S (a0) (0)))
set_option maxRecDepth 100000 in
set_option maxHeartbeats 4000000 in
theorem c_Rd_numberOf (l : Launch) (g : Gm) (sz : Nat) (S : StC) (a0 : Nat) (post : Int32 → StC → Prop) (mc ms : Nat) (hw : wp_Rd_numberOf g post mc ms S a0) : Met l y_Rd_numberOf (.code y_Rd_numberOf b_Rd_numberOf 4 (some .int) :: w_C) (rmA 4 85 mc ms) (va_Pc [.ref (a0)] (PC g sz S)) (va_Qi post (BC g (AC g sz S)) (AC g sz S)) mc ms (AC g sz S) := by
  refine ofA_i (by decide) (Nat.le_of_ble_eq_true rfl) (fun p e s m args below meth c Q A H locs ls hx hb hml hts hown hK hA hC hN hmn kr hl hP hD hS => ?_)
  have hl : lv_has ls 4 [(0, .ref (a0))] := hl
  unfold wp_Rd_numberOf at hw
  have hcm : 0 ≤ mc := Nat.zero_le _
  have hzm : 0 ≤ ms := Nat.zero_le _
  have J66 : ∀ (S : StC) (t0 : Int32) (c0 : Nat) (z0 : Nat) (H : Heap) (locs : List Loc) (ls : Array Slot), c0 ≤ mc → z0 ≤ ms → wq_Rd_numberOf_66 g post mc ms  S t0 c0 z0 → lv_has ls 4 [] → va_P g.1 classes (wC g S) H → va_D A (wC g S) → va_S A s.heap H locs → W p l e (rmA 4 85 mc ms) s m args below meth c H locs c0 z0 Q (F0 m 66 ls [.int (t0)]) := by
    intro S t0 c0 z0 H locs ls hcm hzm hw hl hP hD hS
    unfold wq_Rd_numberOf_66 at hw
    exact kr (t0) S _ _ _ _ _ _ hcm hzm hw hP hD hS d_Rd_numberOf_66
  have J28 : ∀ (n28 : Nat), ∀ (S : StC) (x0 : Nat) (x1 : Int32) (x2 : Int32) (x3 : Int32) (c0 : Nat) (z0 : Nat) (H : Heap) (locs : List Loc) (ls : Array Slot), c0 ≤ mc → z0 ≤ ms → wq_Rd_numberOf_28 g post mc ms  n28 S x0 x1 x2 x3 c0 z0 → lv_has ls 4 [(0, .ref (x0)), (1, .int (x1)), (2, .int (x2)), (3, .int (x3))] → va_P g.1 classes (wC g S) H → va_D A (wC g S) → va_S A s.heap H locs → W p l e (rmA 4 85 mc ms) s m args below meth c H locs c0 z0 Q (F0 m 28 ls []) := by
    intro n28
    induction n28 with
    | zero => intro S x0 x1 x2 x3 c0 z0 H locs ls hcm hzm hw; exact hw.elim
    | succ n28 ih28 =>
      intro S x0 x1 x2 x3 c0 z0 H locs ls hcm hzm hw hl hP hD hS
      unfold wq_Rd_numberOf_28 at hw
      refine lv_iload_n hx hb d_Rd_numberOf_28 rfl (lv_at hl 3 rfl) ?_
      refine lv_aload_n hx hb d_Rd_numberOf_29 rfl (lv_at hl 0 rfl) ?_
      obtain ⟨hsr1, hw⟩ := hw
      obtain ⟨mc2, ms3, hcm, hzm, hw⟩ := hw
      refine cA_iV (As := []) (rest := [.int (x3)]) hx hb hml hown hts hK hC hN hP hD hS hA hcm hzm hl.1 (strv_C hK hC hP hS hsr1) (qA_19 hts ⟨Nat.le_of_ble_eq_true rfl, Nat.le_of_ble_eq_true rfl⟩) (c_St_length l g H.size _ (x0) _ _ _ hw) rfl rfl (Nat.le_of_ble_eq_true rfl) d_Rd_numberOf_30 (fun r5 S4 H locs hw hP hD hS => ?_)
      refine lv_icmp_ge hx hb d_Rd_numberOf_33 (tgt := 56) (by decide) (fun hc => ?_) (fun hc => ?_)
      · have hw := hw.1 hc
        refine lv_iload_n hx hb d_Rd_numberOf_56 rfl (lv_at hl 1 rfl) ?_
        refine lv_if_eq hx hb d_Rd_numberOf_57 (tgt := 65) (by decide) (fun hc => ?_) (fun hc => ?_)
        · have hw := hw.1 hc
          refine lv_iload_n hx hb d_Rd_numberOf_65 rfl (lv_at hl 2 rfl) ?_
          exact J66 S4 (x2) ((c0 + mc2)) ((z0 + ms3)) _ _ _ hcm hzm hw (lv_sub hl [] rfl) hP hD hS
        · have hw := hw.2 hc
          refine lv_iload_n hx hb d_Rd_numberOf_60 rfl (lv_at hl 2 rfl) ?_
          refine lv_ineg hx hb d_Rd_numberOf_61 ?_
          refine lv_goto hx hb d_Rd_numberOf_62 (tgt := 66) (by decide) ?_
          exact J66 S4 ((-x2)) ((c0 + mc2)) ((z0 + ms3)) _ _ _ hcm hzm hw (lv_sub hl [] rfl) hP hD hS
      · have hw := hw.2 hc
        refine lv_bipush (v := 10) hx hb d_Rd_numberOf_36 (by decide) ?_
        refine lv_iload_n hx hb d_Rd_numberOf_38 rfl (lv_at hl 2 rfl) ?_
        refine lv_imul hx hb d_Rd_numberOf_39 ?_
        refine lv_aload_n hx hb d_Rd_numberOf_40 rfl (lv_at hl 0 rfl) ?_
        refine lv_iload_n hx hb d_Rd_numberOf_41 rfl (lv_at hl 3 rfl) ?_
        obtain ⟨hsr6, hw⟩ := hw
        obtain ⟨mc7, ms8, hcm, hzm, hw⟩ := hw
        refine cA_iV (As := [.int (x3)]) (rest := [.int ((10 * x2))]) hx hb hml hown hts hK hC hN hP hD hS hA hcm hzm hl.1 (strv_C hK hC hP hS hsr6) (qA_20 hts ⟨Nat.le_of_ble_eq_true rfl, Nat.le_of_ble_eq_true rfl⟩) (c_St_charAt l g H.size _ (x0) (x3) _ _ _ hw) rfl rfl (Nat.le_of_ble_eq_true rfl) d_Rd_numberOf_42 (fun r10 S9 H locs hw hP hD hS => ?_)
        refine lv_iadd hx hb d_Rd_numberOf_45 ?_
        refine lv_bipush (v := 48) hx hb d_Rd_numberOf_46 (by decide) ?_
        refine lv_isub hx hb d_Rd_numberOf_48 ?_
        refine lv_istore_n (lv' := [(2, .int ((((10 * x2) + r10) - 48))), (0, .ref (x0)), (1, .int (x1)), (3, .int (x3))]) hx hb d_Rd_numberOf_49 rfl hl (by decide) rfl (fun ls hl => ?_)
        refine lv_iinc (k := 3) (v := (x3 + 1)) (lv' := [(3, .int ((x3 + 1))), (2, .int ((((10 * x2) + r10) - 48))), (0, .ref (x0)), (1, .int (x1))]) hx hb d_Rd_numberOf_50 hl rfl rfl (by decide) rfl (fun ls hl => ?_)
        refine lv_goto hx hb d_Rd_numberOf_53 (tgt := 28) (by decide) ?_
        exact ih28 S9 (x0) (x1) ((((10 * x2) + r10) - 48)) ((x3 + 1)) (((c0 + mc2) + mc7)) (((z0 + ms3) + ms8)) _ _ _ hcm hzm hw (lv_sub hl [2, 3, 1, 0] rfl) hP hD hS
  have J27 : ∀ (S : StC) (x0 : Nat) (x1 : Int32) (x2 : Int32) (t0 : Int32) (c0 : Nat) (z0 : Nat) (H : Heap) (locs : List Loc) (ls : Array Slot), c0 ≤ mc → z0 ≤ ms → wq_Rd_numberOf_27 g post mc ms  S x0 x1 x2 t0 c0 z0 → lv_has ls 4 [(0, .ref (x0)), (1, .int (x1)), (2, .int (x2))] → va_P g.1 classes (wC g S) H → va_D A (wC g S) → va_S A s.heap H locs → W p l e (rmA 4 85 mc ms) s m args below meth c H locs c0 z0 Q (F0 m 27 ls [.int (t0)]) := by
    intro S x0 x1 x2 t0 c0 z0 H locs ls hcm hzm hw hl hP hD hS
    unfold wq_Rd_numberOf_27 at hw
    refine lv_istore_n (lv' := [(3, .int (t0)), (0, .ref (x0)), (1, .int (x1)), (2, .int (x2))]) hx hb d_Rd_numberOf_27 rfl hl (by decide) rfl (fun ls hl => ?_)
    obtain ⟨nn, hw⟩ := hw
    exact J28 nn S (x0) (x1) (x2) (t0) (c0) (z0) _ _ _ hcm hzm hw (lv_sub hl [1, 2, 3, 0] rfl) hP hD hS
  have J15 : ∀ (S : StC) (x0 : Nat) (t0 : Int32) (c0 : Nat) (z0 : Nat) (H : Heap) (locs : List Loc) (ls : Array Slot), c0 ≤ mc → z0 ≤ ms → wq_Rd_numberOf_15 g post mc ms  S x0 t0 c0 z0 → lv_has ls 4 [(0, .ref (x0))] → va_P g.1 classes (wC g S) H → va_D A (wC g S) → va_S A s.heap H locs → W p l e (rmA 4 85 mc ms) s m args below meth c H locs c0 z0 Q (F0 m 15 ls [.int (t0)]) := by
    intro S x0 t0 c0 z0 H locs ls hcm hzm hw hl hP hD hS
    unfold wq_Rd_numberOf_15 at hw
    refine lv_istore_n (lv' := [(1, .int (t0)), (0, .ref (x0))]) hx hb d_Rd_numberOf_15 rfl hl (by decide) rfl (fun ls hl => ?_)
    refine lv_iconst (v := 0) hx hb d_Rd_numberOf_16 (by decide) ?_
    refine lv_istore_n (lv' := [(2, .int (0)), (1, .int (t0)), (0, .ref (x0))]) hx hb d_Rd_numberOf_17 rfl hl (by decide) rfl (fun ls hl => ?_)
    refine lv_iload_n hx hb d_Rd_numberOf_18 rfl (lv_at hl 1 rfl) ?_
    refine lv_if_eq hx hb d_Rd_numberOf_19 (tgt := 26) (by decide) (fun hc => ?_) (fun hc => ?_)
    · have hw := hw.1 hc
      refine lv_iconst (v := 0) hx hb d_Rd_numberOf_26 (by decide) ?_
      exact J27 S (x0) (t0) (0) (0) (c0) (z0) _ _ _ hcm hzm hw (lv_sub hl [2, 1, 0] rfl) hP hD hS
    · have hw := hw.2 hc
      refine lv_iconst (v := 1) hx hb d_Rd_numberOf_22 (by decide) ?_
      refine lv_goto hx hb d_Rd_numberOf_23 (tgt := 27) (by decide) ?_
      exact J27 S (x0) (t0) (0) (1) (c0) (z0) _ _ _ hcm hzm hw (lv_sub hl [2, 1, 0] rfl) hP hD hS
  refine lv_aload_n hx hb d_Rd_numberOf_0 rfl (lv_at hl 0 rfl) ?_
  refine lv_iconst (v := 0) hx hb d_Rd_numberOf_1 (by decide) ?_
  obtain ⟨hsr11, hw⟩ := hw
  obtain ⟨mc12, ms13, hcm, hzm, hw⟩ := hw
  refine cA_iV (As := [.int (0)]) (rest := []) hx hb hml hown hts hK hC hN hP hD hS hA hcm hzm hl.1 (strv_C hK hC hP hS hsr11) (qA_20 hts ⟨Nat.le_of_ble_eq_true rfl, Nat.le_of_ble_eq_true rfl⟩) (c_St_charAt l g H.size _ (a0) (0) _ _ _ hw) rfl rfl (Nat.le_of_ble_eq_true rfl) d_Rd_numberOf_2 (fun r15 S14 H locs hw hP hD hS => ?_)
  refine lv_bipush (v := 45) hx hb d_Rd_numberOf_5 (by decide) ?_
  refine lv_icmp_ne hx hb d_Rd_numberOf_7 (tgt := 14) (by decide) (fun hc => ?_) (fun hc => ?_)
  · have hw := hw.2 hc
    refine lv_iconst (v := 0) hx hb d_Rd_numberOf_14 (by decide) ?_
    exact J15 S14 (a0) (0) ((0 + mc12)) ((0 + ms13)) _ _ _ hcm hzm hw (lv_sub hl [0] rfl) hP hD hS
  · have hw := hw.1 hc
    refine lv_iconst (v := 1) hx hb d_Rd_numberOf_10 (by decide) ?_
    refine lv_goto hx hb d_Rd_numberOf_11 (tgt := 15) (by decide) ?_
    exact J15 S14 (a0) (1) ((0 + mc12)) ((0 + ms13)) _ _ _ hcm hzm hw (lv_sub hl [0] rfl) hP hD hS
theorem qA_31 {R : Room} {s : State} {args : Array Value} {mc1 ms1 : Nat} (hts : ∀ w ∈ w_C, w.before args s = true) (hR : (rmA 4 85 mc1 ms1).frames + 1 ≤ R.frames ∧ 8 + (4 + 11) + (rmA 4 85 mc1 ms1).locals ≤ R.locals) : CallB R s args "WordSmith$Reader" 79 y_Rd_isNumber b_Rd_isNumber 4 (some .boolean) (.code y_Rd_isNumber b_Rd_isNumber 4 (some .boolean) :: w_C) (rmA 4 85 mc1 ms1) mc1 ms1 1 ∧ (Cond.static y_Rd_isNumber).before args s = true := ⟨callB_of 1 hts (good_C k_C_388) rfl rfl rfl (hts _ k_C_5) (hts _ k_C_386) ⟨by decide +kernel, by decide +kernel, by decide +kernel⟩ hR, hts _ k_C_387⟩
theorem d_Rd_isName_0 : decode b_Rd_isName 0 = .ok (.aload_n 0, 1) := by decide +kernel
theorem d_Rd_isName_1 : decode b_Rd_isName 1 = .ok (.invokevirtual 51, 3) := by decide +kernel
theorem d_Rd_isName_4 : decode b_Rd_isName 4 = .ok (.ifCond .ne 23, 3) := by decide +kernel
theorem d_Rd_isName_7 : decode b_Rd_isName 7 = .ok (.aload_n 0, 1) := by decide +kernel
theorem d_Rd_isName_8 : decode b_Rd_isName 8 = .ok (.invokevirtual 57, 3) := by decide +kernel
theorem d_Rd_isName_11 : decode b_Rd_isName 11 = .ok (.bipush 9, 2) := by decide +kernel
theorem d_Rd_isName_13 : decode b_Rd_isName 13 = .ok (.if_icmp .gt 14, 3) := by decide +kernel
theorem d_Rd_isName_16 : decode b_Rd_isName 16 = .ok (.aload_n 0, 1) := by decide +kernel
theorem d_Rd_isName_17 : decode b_Rd_isName 17 = .ok (.invokestatic 79, 3) := by decide +kernel
theorem d_Rd_isName_20 : decode b_Rd_isName 20 = .ok (.ifCond .ne 7, 3) := by decide +kernel
theorem d_Rd_isName_23 : decode b_Rd_isName 23 = .ok (.iconst 1, 1) := by decide +kernel
theorem d_Rd_isName_24 : decode b_Rd_isName 24 = .ok (.goto 4, 3) := by decide +kernel
theorem d_Rd_isName_27 : decode b_Rd_isName 27 = .ok (.iconst 0, 1) := by decide +kernel
theorem d_Rd_isName_28 : decode b_Rd_isName 28 = .ok (.ireturn, 1) := by decide +kernel
def wq_Rd_isName_28 (g : Gm) (post : Int32 → StC → Prop) (mc ms : Nat)  (S : StC) (t0 : Int32) (c0 : Nat) (z0 : Nat) : Prop :=
  (narrow .boolean (.int (t0)) = .int (t0)) ∧ (post (t0) S)
def wq_Rd_isName_27 (g : Gm) (post : Int32 → StC → Prop) (mc ms : Nat)  (S : StC) (c0 : Nat) (z0 : Nat) : Prop :=
  wq_Rd_isName_28 g post mc ms  S (0) (c0) (z0)
def wp_Rd_isName (g : Gm) (post : Int32 → StC → Prop) (mc ms : Nat) (S : StC) (a0 : Nat) : Prop :=
  (isStr g S (a0)) ∧ (∃ (mc2 : Nat) (ms3 : Nat), (0 + mc2 ≤ mc) ∧ (0 + ms3 ≤ ms) ∧ (wp_St_isEmpty g (fun (r5 : Int32) (S4 : StC) => (((r5 = 0) → (isStr g S4 (a0)) ∧ (∃ (mc7 : Nat) (ms8 : Nat), ((0 + mc2) + mc7 ≤ mc) ∧ ((0 + ms3) + ms8 ≤ ms) ∧ (wp_St_length g (fun (r10 : Int32) (S9 : StC) => (((9 < r10) → wq_Rd_isName_27 g post mc ms  S9 (((0 + mc2) + mc7)) (((0 + ms3) + ms8))) ∧ (¬ (9 < r10) → ∃ (mc11 : Nat) (ms12 : Nat), (((0 + mc2) + mc7) + mc11 ≤ mc) ∧ (((0 + ms3) + ms8) + ms12 ≤ ms) ∧ (wp_Rd_isNumber g (fun (r14 : Int32) (S13 : StC) => (((r14 = 0) → wq_Rd_isName_28 g post mc ms  S13 (1) ((((0 + mc2) + mc7) + mc11)) ((((0 + ms3) + ms8) + ms12))) ∧ (¬ (r14 = 0) → wq_Rd_isName_27 g post mc ms  S13 ((((0 + mc2) + mc7) + mc11)) ((((0 + ms3) + ms8) + ms12))))) mc11 ms12 S9 (a0))))) mc7 ms8 S4 (a0)))) ∧ (¬ (r5 = 0) → wq_Rd_isName_27 g post mc ms  S4 ((0 + mc2)) ((0 + ms3))))) mc2 ms3 S (a0)))
set_option maxRecDepth 100000 in
set_option maxHeartbeats 4000000 in
theorem c_Rd_isName (l : Launch) (g : Gm) (sz : Nat) (S : StC) (a0 : Nat) (post : Int32 → StC → Prop) (mc ms : Nat) (hw : wp_Rd_isName g post mc ms S a0) : Met l y_Rd_isName (.code y_Rd_isName b_Rd_isName 1 (some .boolean) :: w_C) (rmA 5 108 mc ms) (va_Pc [.ref (a0)] (PC g sz S)) (va_Qi post (BC g (AC g sz S)) (AC g sz S)) mc ms (AC g sz S) := by
  refine ofA_z (by decide) (Nat.le_of_ble_eq_true rfl) (fun p e s m args below meth c Q A H locs ls hx hb hml hts hown hK hA hC hN hmn kr hl hP hD hS => ?_)
  have hl : lv_has ls 1 [(0, .ref (a0))] := hl
  unfold wp_Rd_isName at hw
  have hcm : 0 ≤ mc := Nat.zero_le _
  have hzm : 0 ≤ ms := Nat.zero_le _
  have J28 : ∀ (S : StC) (t0 : Int32) (c0 : Nat) (z0 : Nat) (H : Heap) (locs : List Loc) (ls : Array Slot), c0 ≤ mc → z0 ≤ ms → wq_Rd_isName_28 g post mc ms  S t0 c0 z0 → lv_has ls 1 [] → va_P g.1 classes (wC g S) H → va_D A (wC g S) → va_S A s.heap H locs → W p l e (rmA 5 108 mc ms) s m args below meth c H locs c0 z0 Q (F0 m 28 ls [.int (t0)]) := by
    intro S t0 c0 z0 H locs ls hcm hzm hw hl hP hD hS
    unfold wq_Rd_isName_28 at hw
    obtain ⟨hnz, hw⟩ := hw
    exact kr (t0) S _ _ _ _ _ _ hcm hzm hnz hw hP hD hS d_Rd_isName_28
  have J27 : ∀ (S : StC) (c0 : Nat) (z0 : Nat) (H : Heap) (locs : List Loc) (ls : Array Slot), c0 ≤ mc → z0 ≤ ms → wq_Rd_isName_27 g post mc ms  S c0 z0 → lv_has ls 1 [] → va_P g.1 classes (wC g S) H → va_D A (wC g S) → va_S A s.heap H locs → W p l e (rmA 5 108 mc ms) s m args below meth c H locs c0 z0 Q (F0 m 27 ls []) := by
    intro S c0 z0 H locs ls hcm hzm hw hl hP hD hS
    unfold wq_Rd_isName_27 at hw
    refine lv_iconst (v := 0) hx hb d_Rd_isName_27 (by decide) ?_
    exact J28 S (0) (c0) (z0) _ _ _ hcm hzm hw (lv_sub hl [] rfl) hP hD hS
  refine lv_aload_n hx hb d_Rd_isName_0 rfl (lv_at hl 0 rfl) ?_
  obtain ⟨hsr1, hw⟩ := hw
  obtain ⟨mc2, ms3, hcm, hzm, hw⟩ := hw
  refine cA_iV (As := []) (rest := []) hx hb hml hown hts hK hC hN hP hD hS hA hcm hzm hl.1 (strv_C hK hC hP hS hsr1) (qA_30 hts ⟨Nat.le_of_ble_eq_true rfl, Nat.le_of_ble_eq_true rfl⟩) (c_St_isEmpty l g H.size _ (a0) _ _ _ hw) rfl rfl (Nat.le_of_ble_eq_true rfl) d_Rd_isName_1 (fun r5 S4 H locs hw hP hD hS => ?_)
  refine lv_if_ne hx hb d_Rd_isName_4 (tgt := 27) (by decide) (fun hc => ?_) (fun hc => ?_)
  · have hw := hw.2 hc
    exact J27 S4 ((0 + mc2)) ((0 + ms3)) _ _ _ hcm hzm hw (lv_sub hl [] rfl) hP hD hS
  · have hw := hw.1 hc
    refine lv_aload_n hx hb d_Rd_isName_7 rfl (lv_at hl 0 rfl) ?_
    obtain ⟨hsr6, hw⟩ := hw
    obtain ⟨mc7, ms8, hcm, hzm, hw⟩ := hw
    refine cA_iV (As := []) (rest := []) hx hb hml hown hts hK hC hN hP hD hS hA hcm hzm hl.1 (strv_C hK hC hP hS hsr6) (qA_19 hts ⟨Nat.le_of_ble_eq_true rfl, Nat.le_of_ble_eq_true rfl⟩) (c_St_length l g H.size _ (a0) _ _ _ hw) rfl rfl (Nat.le_of_ble_eq_true rfl) d_Rd_isName_8 (fun r10 S9 H locs hw hP hD hS => ?_)
    refine lv_bipush (v := 9) hx hb d_Rd_isName_11 (by decide) ?_
    refine lv_icmp_gt hx hb d_Rd_isName_13 (tgt := 27) (by decide) (fun hc => ?_) (fun hc => ?_)
    · have hw := hw.1 hc
      exact J27 S9 (((0 + mc2) + mc7)) (((0 + ms3) + ms8)) _ _ _ hcm hzm hw (lv_sub hl [] rfl) hP hD hS
    · have hw := hw.2 hc
      refine lv_aload_n hx hb d_Rd_isName_16 rfl (lv_at hl 0 rfl) ?_
      obtain ⟨mc11, ms12, hcm, hzm, hw⟩ := hw
      refine cA_iS (As := [.ref (a0)]) (rest := []) hx hb hml hown hts hK hC hN hP hD hS hA hcm hzm hl.1  (qA_31 hts ⟨Nat.le_of_ble_eq_true rfl, Nat.le_of_ble_eq_true rfl⟩) (c_Rd_isNumber l g H.size _ (a0) _ _ _ hw) rfl rfl (Nat.le_of_ble_eq_true rfl) d_Rd_isName_17 (fun r14 S13 H locs hw hP hD hS => ?_)
      refine lv_if_ne hx hb d_Rd_isName_20 (tgt := 27) (by decide) (fun hc => ?_) (fun hc => ?_)
      · have hw := hw.2 hc
        exact J27 S13 ((((0 + mc2) + mc7) + mc11)) ((((0 + ms3) + ms8) + ms12)) _ _ _ hcm hzm hw (lv_sub hl [] rfl) hP hD hS
      · have hw := hw.1 hc
        refine lv_iconst (v := 1) hx hb d_Rd_isName_23 (by decide) ?_
        refine lv_goto hx hb d_Rd_isName_24 (tgt := 28) (by decide) ?_
        exact J28 S13 (1) ((((0 + mc2) + mc7) + mc11)) ((((0 + ms3) + ms8) + ms12)) _ _ _ hcm hzm hw (lv_sub hl [] rfl) hP hD hS
theorem d_La_equals_0 : decode b_La_equals 0 = .ok (.aload_n 0, 1) := by decide +kernel
theorem d_La_equals_1 : decode b_La_equals 1 = .ok (.arraylength, 1) := by decide +kernel
theorem d_La_equals_2 : decode b_La_equals 2 = .ok (.aload_n 1, 1) := by decide +kernel
theorem d_La_equals_3 : decode b_La_equals 3 = .ok (.arraylength, 1) := by decide +kernel
theorem d_La_equals_4 : decode b_La_equals 4 = .ok (.if_icmp .ne 30, 3) := by decide +kernel
theorem d_La_equals_7 : decode b_La_equals 7 = .ok (.iconst 0, 1) := by decide +kernel
theorem d_La_equals_8 : decode b_La_equals 8 = .ok (.istore_n 2, 1) := by decide +kernel
theorem d_La_equals_9 : decode b_La_equals 9 = .ok (.iload_n 2, 1) := by decide +kernel
theorem d_La_equals_10 : decode b_La_equals 10 = .ok (.aload_n 0, 1) := by decide +kernel
theorem d_La_equals_11 : decode b_La_equals 11 = .ok (.arraylength, 1) := by decide +kernel
theorem d_La_equals_12 : decode b_La_equals 12 = .ok (.if_icmp .ge 20, 3) := by decide +kernel
theorem d_La_equals_15 : decode b_La_equals 15 = .ok (.aload_n 0, 1) := by decide +kernel
theorem d_La_equals_16 : decode b_La_equals 16 = .ok (.iload_n 2, 1) := by decide +kernel
theorem d_La_equals_17 : decode b_La_equals 17 = .ok (.baload, 1) := by decide +kernel
theorem d_La_equals_18 : decode b_La_equals 18 = .ok (.aload_n 1, 1) := by decide +kernel
theorem d_La_equals_19 : decode b_La_equals 19 = .ok (.iload_n 2, 1) := by decide +kernel
theorem d_La_equals_20 : decode b_La_equals 20 = .ok (.baload, 1) := by decide +kernel
theorem d_La_equals_21 : decode b_La_equals 21 = .ok (.if_icmp .eq 5, 3) := by decide +kernel
theorem d_La_equals_24 : decode b_La_equals 24 = .ok (.iconst 0, 1) := by decide +kernel
theorem d_La_equals_25 : decode b_La_equals 25 = .ok (.ireturn, 1) := by decide +kernel
theorem d_La_equals_26 : decode b_La_equals 26 = .ok (.iinc 2 1, 3) := by decide +kernel
theorem d_La_equals_29 : decode b_La_equals 29 = .ok (.goto (-20), 3) := by decide +kernel
theorem d_La_equals_32 : decode b_La_equals 32 = .ok (.iconst 1, 1) := by decide +kernel
theorem d_La_equals_33 : decode b_La_equals 33 = .ok (.ireturn, 1) := by decide +kernel
theorem d_La_equals_34 : decode b_La_equals 34 = .ok (.iconst 0, 1) := by decide +kernel
theorem d_La_equals_35 : decode b_La_equals 35 = .ok (.ireturn, 1) := by decide +kernel
def wq_La_equals_9 (g : Gm) (post : Int32 → StC → Prop) (mc ms : Nat)  : Nat → StC → Nat → Nat → Int32 → Nat → Nat → Prop
  | 0, _, _, _, _, _, _ => False
  | n9 + 1, S, x0, x1, x2, c0, z0 =>
    ∃ (n1 : Nat) (f2 : Nat → Int32), (x0 ∈ S.2.2.2.2.2.1) ∧ (S.2.2.2.2.2.2 x0 = .inl (g.2.1 3, n1, .inl f2)) ∧ ((((Int32.ofNat n1) ≤ x2) → post (1) S) ∧ (¬ ((Int32.ofNat n1) ≤ x2) → ∃ (n5 : Nat) (f6 : Nat → Int32), (x0 ∈ S.2.2.2.2.2.1) ∧ (S.2.2.2.2.2.2 x0 = .inl (g.2.1 3, n5, .inl f6)) ∧ (vp_in x2 n5) ∧ (∃ (n10 : Nat) (f11 : Nat → Int32), (x1 ∈ S.2.2.2.2.2.1) ∧ (S.2.2.2.2.2.2 x1 = .inl (g.2.1 3, n10, .inl f11)) ∧ (vp_in x2 n10) ∧ ((((f6 (Int32.toNatClampNeg (x2))) = (f11 (Int32.toNatClampNeg (x2)))) → (wq_La_equals_9 g post mc ms  n9) S (x0) (x1) ((x2 + 1)) (c0) (z0)) ∧ (¬ ((f6 (Int32.toNatClampNeg (x2))) = (f11 (Int32.toNatClampNeg (x2)))) → post (0) S)))))
def wp_La_equals (g : Gm) (post : Int32 → StC → Prop) (mc ms : Nat) (S : StC) (a0 : Nat) (a1 : Nat) : Prop :=
  ∃ (n15 : Nat) (f16 : Nat → Int32), (a0 ∈ S.2.2.2.2.2.1) ∧ (S.2.2.2.2.2.2 a0 = .inl (g.2.1 3, n15, .inl f16)) ∧ (∃ (n19 : Nat) (f20 : Nat → Int32), (a1 ∈ S.2.2.2.2.2.1) ∧ (S.2.2.2.2.2.2 a1 = .inl (g.2.1 3, n19, .inl f20)) ∧ ((((Int32.ofNat n15) = (Int32.ofNat n19)) → ∃ nn : Nat, wq_La_equals_9 g post mc ms  nn S (a0) (a1) (0) (0) (0)) ∧ (¬ ((Int32.ofNat n15) = (Int32.ofNat n19)) → post (0) S)))
set_option maxRecDepth 100000 in
set_option maxHeartbeats 4000000 in
theorem c_La_equals (l : Launch) (g : Gm) (sz : Nat) (S : StC) (a0 : Nat) (a1 : Nat) (post : Int32 → StC → Prop) (mc ms : Nat) (hw : wp_La_equals g post mc ms S a0 a1) : Met l y_La_equals (.code y_La_equals b_La_equals 3 (some .boolean) :: w_C) (rmA 0 0 mc ms) (va_Pc [.ref (a0), .ref (a1)] (PC g sz S)) (va_Qi post (BC g (AC g sz S)) (AC g sz S)) mc ms (AC g sz S) := by
  refine ofA_z (by decide) (Nat.le_of_ble_eq_true rfl) (fun p e s m args below meth c Q A H locs ls hx hb hml hts hown hK hA hC hN hmn kr hl hP hD hS => ?_)
  have hl : lv_has ls 3 [(0, .ref (a0)), (1, .ref (a1))] := hl
  unfold wp_La_equals at hw
  have hcm : 0 ≤ mc := Nat.zero_le _
  have hzm : 0 ≤ ms := Nat.zero_le _
  have J9 : ∀ (n9 : Nat), ∀ (S : StC) (x0 : Nat) (x1 : Nat) (x2 : Int32) (c0 : Nat) (z0 : Nat) (H : Heap) (locs : List Loc) (ls : Array Slot), c0 ≤ mc → z0 ≤ ms → wq_La_equals_9 g post mc ms  n9 S x0 x1 x2 c0 z0 → lv_has ls 3 [(0, .ref (x0)), (1, .ref (x1)), (2, .int (x2))] → va_P g.1 classes (wC g S) H → va_D A (wC g S) → va_S A s.heap H locs → W p l e (rmA 0 0 mc ms) s m args below meth c H locs c0 z0 Q (F0 m 9 ls []) := by
    intro n9
    induction n9 with
    | zero => intro S x0 x1 x2 c0 z0 H locs ls hcm hzm hw; exact hw.elim
    | succ n9 ih9 =>
      intro S x0 x1 x2 c0 z0 H locs ls hcm hzm hw hl hP hD hS
      unfold wq_La_equals_9 at hw
      refine lv_iload_n hx hb d_La_equals_9 rfl (lv_at hl 2 rfl) ?_
      refine lv_aload_n hx hb d_La_equals_10 rfl (lv_at hl 0 rfl) ?_
      obtain ⟨n1, f2, ha3, hf4, hw⟩ := hw
      refine pal_C (S := S) hx hb hK hP ha3 hf4 d_La_equals_11 ?_
      refine lv_icmp_ge hx hb d_La_equals_12 (tgt := 32) (by decide) (fun hc => ?_) (fun hc => ?_)
      · have hw := hw.1 hc
        refine lv_iconst (v := 1) hx hb d_La_equals_32 (by decide) ?_
        exact kr (1) S _ _ _ _ _ _ hcm hzm rfl hw hP hD hS d_La_equals_33
      · have hw := hw.2 hc
        refine lv_aload_n hx hb d_La_equals_15 rfl (lv_at hl 0 rfl) ?_
        refine lv_iload_n hx hb d_La_equals_16 rfl (lv_at hl 2 rfl) ?_
        obtain ⟨n5, f6, ha7, hf8, hi9, hw⟩ := hw
        refine pbl_C (S := S) hx hb hK hP ha7 hf8 hi9 d_La_equals_17 ?_
        refine lv_aload_n hx hb d_La_equals_18 rfl (lv_at hl 1 rfl) ?_
        refine lv_iload_n hx hb d_La_equals_19 rfl (lv_at hl 2 rfl) ?_
        obtain ⟨n10, f11, ha12, hf13, hi14, hw⟩ := hw
        refine pbl_C (S := S) hx hb hK hP ha12 hf13 hi14 d_La_equals_20 ?_
        refine lv_icmp_eq hx hb d_La_equals_21 (tgt := 26) (by decide) (fun hc => ?_) (fun hc => ?_)
        · have hw := hw.1 hc
          refine lv_iinc (k := 2) (v := (x2 + 1)) (lv' := [(2, .int ((x2 + 1))), (0, .ref (x0)), (1, .ref (x1))]) hx hb d_La_equals_26 hl rfl rfl (by decide) rfl (fun ls hl => ?_)
          refine lv_goto hx hb d_La_equals_29 (tgt := 9) (by decide) ?_
          exact ih9 S (x0) (x1) ((x2 + 1)) (c0) (z0) _ _ _ hcm hzm hw (lv_sub hl [1, 2, 0] rfl) hP hD hS
        · have hw := hw.2 hc
          refine lv_iconst (v := 0) hx hb d_La_equals_24 (by decide) ?_
          exact kr (0) S _ _ _ _ _ _ hcm hzm rfl hw hP hD hS d_La_equals_25
  refine lv_aload_n hx hb d_La_equals_0 rfl (lv_at hl 0 rfl) ?_
  obtain ⟨n15, f16, ha17, hf18, hw⟩ := hw
  refine pal_C (S := S) hx hb hK hP ha17 hf18 d_La_equals_1 ?_
  refine lv_aload_n hx hb d_La_equals_2 rfl (lv_at hl 1 rfl) ?_
  obtain ⟨n19, f20, ha21, hf22, hw⟩ := hw
  refine pal_C (S := S) hx hb hK hP ha21 hf22 d_La_equals_3 ?_
  refine lv_icmp_ne hx hb d_La_equals_4 (tgt := 34) (by decide) (fun hc => ?_) (fun hc => ?_)
  · have hw := hw.2 hc
    refine lv_iconst (v := 0) hx hb d_La_equals_34 (by decide) ?_
    exact kr (0) S _ _ _ _ _ _ hcm hzm rfl hw hP hD hS d_La_equals_35
  · have hw := hw.1 hc
    refine lv_iconst (v := 0) hx hb d_La_equals_7 (by decide) ?_
    refine lv_istore_n (lv' := [(2, .int (0)), (0, .ref (a0)), (1, .ref (a1))]) hx hb d_La_equals_8 rfl hl (by decide) rfl (fun ls hl => ?_)
    obtain ⟨nn, hw⟩ := hw
    exact J9 nn S (a0) (a1) (0) (0) (0) _ _ _ hcm hzm hw (lv_sub hl [1, 2, 0] rfl) hP hD hS
theorem qA_32 {R : Room} {s : State} {args : Array Value} {mc1 ms1 : Nat} (hts : ∀ w ∈ w_C, w.before args s = true) (hR : (rmA 0 0 mc1 ms1).frames + 1 ≤ R.frames ∧ 8 + (3 + 11) + (rmA 0 0 mc1 ms1).locals ≤ R.locals) : CallB R s args "java/lang/String" 541 y_La_equals b_La_equals 3 (some .boolean) (.code y_La_equals b_La_equals 3 (some .boolean) :: w_C) (rmA 0 0 mc1 ms1) mc1 ms1 2 ∧ (Cond.static y_La_equals).before args s = true := ⟨callB_of 2 hts (good_C k_C_437) rfl rfl rfl (hts _ k_C_16) (hts _ k_C_435) ⟨by decide +kernel, by decide +kernel, by decide +kernel⟩ hR, hts _ k_C_436⟩
theorem d_St_equals_0 : decode b_St_equals 0 = .ok (.aload_n 0, 1) := by decide +kernel
theorem d_St_equals_1 : decode b_St_equals 1 = .ok (.aload_n 1, 1) := by decide +kernel
theorem d_St_equals_2 : decode b_St_equals 2 = .ok (.if_acmp .ne 5, 3) := by decide +kernel
theorem d_St_equals_5 : decode b_St_equals 5 = .ok (.iconst 1, 1) := by decide +kernel
theorem d_St_equals_6 : decode b_St_equals 6 = .ok (.ireturn, 1) := by decide +kernel
theorem d_St_equals_7 : decode b_St_equals 7 = .ok (.aload_n 1, 1) := by decide +kernel
theorem d_St_equals_8 : decode b_St_equals 8 = .ok (.instanceof 10, 3) := by decide +kernel
theorem d_St_equals_11 : decode b_St_equals 11 = .ok (.ifCond .eq 43, 3) := by decide +kernel
theorem d_St_equals_14 : decode b_St_equals 14 = .ok (.aload_n 1, 1) := by decide +kernel
theorem d_St_equals_15 : decode b_St_equals 15 = .ok (.checkcast 10, 3) := by decide +kernel
theorem d_St_equals_18 : decode b_St_equals 18 = .ok (.astore_n 2, 1) := by decide +kernel
theorem d_St_equals_19 : decode b_St_equals 19 = .ok (.getstatic 38, 3) := by decide +kernel
theorem d_St_equals_22 : decode b_St_equals 22 = .ok (.ifCond .eq 14, 3) := by decide +kernel
theorem d_St_equals_25 : decode b_St_equals 25 = .ok (.aload_n 0, 1) := by decide +kernel
theorem d_St_equals_26 : decode b_St_equals 26 = .ok (.getfield 15, 3) := by decide +kernel
theorem d_St_equals_29 : decode b_St_equals 29 = .ok (.aload_n 2, 1) := by decide +kernel
theorem d_St_equals_30 : decode b_St_equals 30 = .ok (.getfield 15, 3) := by decide +kernel
theorem d_St_equals_33 : decode b_St_equals 33 = .ok (.if_icmp .ne 21, 3) := by decide +kernel
theorem d_St_equals_36 : decode b_St_equals 36 = .ok (.aload_n 0, 1) := by decide +kernel
theorem d_St_equals_37 : decode b_St_equals 37 = .ok (.getfield 9, 3) := by decide +kernel
theorem d_St_equals_40 : decode b_St_equals 40 = .ok (.aload_n 2, 1) := by decide +kernel
theorem d_St_equals_41 : decode b_St_equals 41 = .ok (.getfield 9, 3) := by decide +kernel
theorem d_St_equals_44 : decode b_St_equals 44 = .ok (.invokestatic 541, 3) := by decide +kernel
theorem d_St_equals_47 : decode b_St_equals 47 = .ok (.ifCond .eq 7, 3) := by decide +kernel
theorem d_St_equals_50 : decode b_St_equals 50 = .ok (.iconst 1, 1) := by decide +kernel
theorem d_St_equals_51 : decode b_St_equals 51 = .ok (.goto 4, 3) := by decide +kernel
theorem d_St_equals_54 : decode b_St_equals 54 = .ok (.iconst 0, 1) := by decide +kernel
theorem d_St_equals_55 : decode b_St_equals 55 = .ok (.ireturn, 1) := by decide +kernel
def wq_St_equals_55 (g : Gm) (post : Int32 → StC → Prop) (mc ms : Nat)  (S : StC) (t0 : Int32) (c0 : Nat) (z0 : Nat) : Prop :=
  (narrow .boolean (.int (t0)) = .int (t0)) ∧ (post (t0) S)
def wq_St_equals_54 (g : Gm) (post : Int32 → StC → Prop) (mc ms : Nat)  (S : StC) (c0 : Nat) (z0 : Nat) : Prop :=
  wq_St_equals_55 g post mc ms  S (0) (c0) (z0)
def wq_St_equals_36 (g : Gm) (post : Int32 → StC → Prop) (mc ms : Nat)  (S : StC) (x0 : Nat) (x2 : Nat) (c0 : Nat) (z0 : Nat) : Prop :=
  ∃ (vs1 : List Value) (z5 : Nat), (x0 ∈ S.2.2.2.2.2.1) ∧ (S.2.2.2.2.2.2 x0 = .inr (3, vs1)) ∧ (vs1[0]? = some (.ref (z5))) ∧ (∃ (vs6 : List Value) (z10 : Nat), (x2 ∈ S.2.2.2.2.2.1) ∧ (S.2.2.2.2.2.2 x2 = .inr (3, vs6)) ∧ (vs6[0]? = some (.ref (z10))) ∧ (∃ (mc11 : Nat) (ms12 : Nat), (c0 + mc11 ≤ mc) ∧ (z0 + ms12 ≤ ms) ∧ (wp_La_equals g (fun (r14 : Int32) (S13 : StC) => (((r14 = 0) → wq_St_equals_54 g post mc ms  S13 ((c0 + mc11)) ((z0 + ms12))) ∧ (¬ (r14 = 0) → wq_St_equals_55 g post mc ms  S13 (1) ((c0 + mc11)) ((z0 + ms12))))) mc11 ms12 S (z5) (z10))))
def wp_St_equals (g : Gm) (post : Int32 → StC → Prop) (mc ms : Nat) (S : StC) (h0 : Nat) (a0 : Nat) : Prop :=
  (((some (h0)) = (some (a0))) → post (1) S) ∧ (¬ ((some (h0)) = (some (a0))) → ∃ (vs15 : List Value), (a0 ∈ S.2.2.2.2.2.1) ∧ (S.2.2.2.2.2.2 a0 = .inr (3, vs15)) ∧ ((¬ ((1 : Int32) = 0)) ∧ (∃ (vs18 : List Value), (a0 ∈ S.2.2.2.2.2.1) ∧ (S.2.2.2.2.2.2 a0 = .inr (3, vs18)) ∧ ((¬ ((1 : Int32) = 0)) ∧ (∃ (vs21 : List Value) (z25 : Int32), (h0 ∈ S.2.2.2.2.2.1) ∧ (S.2.2.2.2.2.2 h0 = .inr (3, vs21)) ∧ (vs21[1]? = some (.int (z25))) ∧ (∃ (vs26 : List Value) (z30 : Int32), (a0 ∈ S.2.2.2.2.2.1) ∧ (S.2.2.2.2.2.2 a0 = .inr (3, vs26)) ∧ (vs26[1]? = some (.int (z30))) ∧ ((z25 = z30) ∧ (wq_St_equals_36 g post mc ms  S (h0) (a0) (0) (0)))))))))
set_option maxRecDepth 100000 in
set_option maxHeartbeats 4000000 in
theorem c_St_equals (l : Launch) (g : Gm) (sz : Nat) (S : StC) (h0 : Nat) (a0 : Nat) (post : Int32 → StC → Prop) (mc ms : Nat) (hw : wp_St_equals g post mc ms S h0 a0) : Met l y_St_equals (.code y_St_equals b_St_equals 3 (some .boolean) :: w_C) (rmA 1 22 mc ms) (va_Pc [.ref (h0), .ref (a0)] (PC g sz S)) (va_Qi post (BC g (AC g sz S)) (AC g sz S)) mc ms (AC g sz S) := by
  refine ofA_z (by decide) (Nat.le_of_ble_eq_true rfl) (fun p e s m args below meth c Q A H locs ls hx hb hml hts hown hK hA hC hN hmn kr hl hP hD hS => ?_)
  have hl : lv_has ls 3 [(0, .ref (h0)), (1, .ref (a0))] := hl
  unfold wp_St_equals at hw
  have hcm : 0 ≤ mc := Nat.zero_le _
  have hzm : 0 ≤ ms := Nat.zero_le _
  have J55 : ∀ (S : StC) (t0 : Int32) (c0 : Nat) (z0 : Nat) (H : Heap) (locs : List Loc) (ls : Array Slot), c0 ≤ mc → z0 ≤ ms → wq_St_equals_55 g post mc ms  S t0 c0 z0 → lv_has ls 3 [] → va_P g.1 classes (wC g S) H → va_D A (wC g S) → va_S A s.heap H locs → W p l e (rmA 1 22 mc ms) s m args below meth c H locs c0 z0 Q (F0 m 55 ls [.int (t0)]) := by
    intro S t0 c0 z0 H locs ls hcm hzm hw hl hP hD hS
    unfold wq_St_equals_55 at hw
    obtain ⟨hnz, hw⟩ := hw
    exact kr (t0) S _ _ _ _ _ _ hcm hzm hnz hw hP hD hS d_St_equals_55
  have J54 : ∀ (S : StC) (c0 : Nat) (z0 : Nat) (H : Heap) (locs : List Loc) (ls : Array Slot), c0 ≤ mc → z0 ≤ ms → wq_St_equals_54 g post mc ms  S c0 z0 → lv_has ls 3 [] → va_P g.1 classes (wC g S) H → va_D A (wC g S) → va_S A s.heap H locs → W p l e (rmA 1 22 mc ms) s m args below meth c H locs c0 z0 Q (F0 m 54 ls []) := by
    intro S c0 z0 H locs ls hcm hzm hw hl hP hD hS
    unfold wq_St_equals_54 at hw
    refine lv_iconst (v := 0) hx hb d_St_equals_54 (by decide) ?_
    exact J55 S (0) (c0) (z0) _ _ _ hcm hzm hw (lv_sub hl [] rfl) hP hD hS
  have J36 : ∀ (S : StC) (x0 : Nat) (x2 : Nat) (c0 : Nat) (z0 : Nat) (H : Heap) (locs : List Loc) (ls : Array Slot), c0 ≤ mc → z0 ≤ ms → wq_St_equals_36 g post mc ms  S x0 x2 c0 z0 → lv_has ls 3 [(0, .ref (x0)), (2, .ref (x2))] → va_P g.1 classes (wC g S) H → va_D A (wC g S) → va_S A s.heap H locs → W p l e (rmA 1 22 mc ms) s m args below meth c H locs c0 z0 Q (F0 m 36 ls []) := by
    intro S x0 x2 c0 z0 H locs ls hcm hzm hw hl hP hD hS
    unfold wq_St_equals_36 at hw
    refine lv_aload_n hx hb d_St_equals_36 rfl (lv_at hl 0 rfl) ?_
    obtain ⟨vs1, z5, ha2, hf3, hv4, hw⟩ := hw
    refine pg_C (S := S) (vs := vs1) (v := .ref (z5)) (C := R_St) (F := F_St) (N := 4) hx hb hts hin_St hown hK hP ha2 hf3 rfl 0 (by decide) hv4 k_C_283 d_St_equals_37 ?_
    refine lv_aload_n hx hb d_St_equals_40 rfl (lv_at hl 1 rfl) ?_
    obtain ⟨vs6, z10, ha7, hf8, hv9, hw⟩ := hw
    refine pg_C (S := S) (vs := vs6) (v := .ref (z10)) (C := R_St) (F := F_St) (N := 4) hx hb hts hin_St hown hK hP ha7 hf8 rfl 0 (by decide) hv9 k_C_283 d_St_equals_41 ?_
    obtain ⟨mc11, ms12, hcm, hzm, hw⟩ := hw
    refine cA_iS (As := [.ref (z5), .ref (z10)]) (rest := []) hx hb hml hown hts hK hC hN hP hD hS hA hcm hzm hl.1  (qA_32 hts ⟨Nat.le_of_ble_eq_true rfl, Nat.le_of_ble_eq_true rfl⟩) (c_La_equals l g H.size _ (z5) (z10) _ _ _ hw) rfl rfl (Nat.le_of_ble_eq_true rfl) d_St_equals_44 (fun r14 S13 H locs hw hP hD hS => ?_)
    refine lv_if_eq hx hb d_St_equals_47 (tgt := 54) (by decide) (fun hc => ?_) (fun hc => ?_)
    · have hw := hw.1 hc
      exact J54 S13 ((c0 + mc11)) ((z0 + ms12)) _ _ _ hcm hzm hw (lv_sub hl [] rfl) hP hD hS
    · have hw := hw.2 hc
      refine lv_iconst (v := 1) hx hb d_St_equals_50 (by decide) ?_
      refine lv_goto hx hb d_St_equals_51 (tgt := 55) (by decide) ?_
      exact J55 S13 (1) ((c0 + mc11)) ((z0 + ms12)) _ _ _ hcm hzm hw (lv_sub hl [] rfl) hP hD hS
  refine lv_aload_n hx hb d_St_equals_0 rfl (lv_at hl 0 rfl) ?_
  refine lv_aload_n hx hb d_St_equals_1 rfl (lv_at hl 1 rfl) ?_
  refine lv_acmp_ne (rx := (some (h0))) (ry := (some (a0))) hx hb d_St_equals_2 (tgt := 7) (by decide) (fun hc => ?_) (fun hc => ?_)
  · have hw := hw.2 hc
    refine lv_aload_n hx hb d_St_equals_7 rfl (lv_at hl 1 rfl) ?_
    obtain ⟨vs15, ha16, hf17, hw⟩ := hw
    refine va_instE (nm := R_St) hx hb hown (hts _ k_C_434) (precv_C (C := R_St) (F := F_St) (N := 4) hK hP ha16 hf17 rfl) d_St_equals_8 ?_
    obtain ⟨hc9, hw⟩ := hw
    refine lv_if_eq hx hb d_St_equals_11 (tgt := 54) (by decide) (fun hc => absurd hc hc9) (fun hc => ?_)
    refine lv_aload_n hx hb d_St_equals_14 rfl (lv_at hl 1 rfl) ?_
    obtain ⟨vs18, ha19, hf20, hw⟩ := hw
    refine va_castE (nm := R_St) hx hb hown (hts _ k_C_434) (precv_C (C := R_St) (F := F_St) (N := 4) hK hP ha19 hf20 rfl) d_St_equals_15 ?_
    refine lv_astore_n (lv' := [(2, .ref (a0)), (0, .ref (h0)), (1, .ref (a0))]) hx hb d_St_equals_18 rfl hl (by decide) rfl (fun ls hl => ?_)
    refine va_gets (C := "java/lang/String") (n := "COMPACT_STRINGS") (d := "Z") (v := .int (1)) hx hb hC.2.2.2.1 hS hown (hts _ k_C_269) (fun _ h9 => h9) d_St_equals_19 ?_
    obtain ⟨hc9, hw⟩ := hw
    refine lv_if_eq hx hb d_St_equals_22 (tgt := 36) (by decide) (fun hc => absurd hc hc9) (fun hc => ?_)
    refine lv_aload_n hx hb d_St_equals_25 rfl (lv_at hl 1 rfl) ?_
    obtain ⟨vs21, z25, ha22, hf23, hv24, hw⟩ := hw
    refine pg_C (S := S) (vs := vs21) (v := .int (z25)) (C := R_St) (F := F_St) (N := 4) hx hb hts hin_St hown hK hP ha22 hf23 rfl 1 (by decide) hv24 k_C_284 d_St_equals_26 ?_
    refine lv_aload_n hx hb d_St_equals_29 rfl (lv_at hl 0 rfl) ?_
    obtain ⟨vs26, z30, ha27, hf28, hv29, hw⟩ := hw
    refine pg_C (S := S) (vs := vs26) (v := .int (z30)) (C := R_St) (F := F_St) (N := 4) hx hb hts hin_St hown hK hP ha27 hf28 rfl 1 (by decide) hv29 k_C_284 d_St_equals_30 ?_
    obtain ⟨hc9, hw⟩ := hw
    refine lv_icmp_ne hx hb d_St_equals_33 (tgt := 54) (by decide) (fun hc => absurd hc9 hc) (fun hc => ?_)
    exact J36 S (h0) (a0) (0) (0) _ _ _ hcm hzm hw (lv_sub hl [1, 0] rfl) hP hD hS
  · have hw := hw.1 hc
    refine lv_iconst (v := 1) hx hb d_St_equals_5 (by decide) ?_
    exact kr (1) S _ _ _ _ _ _ hcm hzm rfl hw hP hD hS d_St_equals_6
theorem d_Mw_init_0 : decode b_Mw_init 0 = .ok (.aload_n 0, 1) := by decide +kernel
theorem d_Mw_init_1 : decode b_Mw_init 1 = .ok (.invokespecial 3, 3) := by decide +kernel
theorem d_Mw_init_4 : decode b_Mw_init 4 = .ok (.aload_n 0, 1) := by decide +kernel
theorem d_Mw_init_5 : decode b_Mw_init 5 = .ok (.bipush 60, 2) := by decide +kernel
theorem d_Mw_init_7 : decode b_Mw_init 7 = .ok (.newarray .int, 2) := by decide +kernel
theorem d_Mw_init_9 : decode b_Mw_init 9 = .ok (.putfield 9, 3) := by decide +kernel
theorem d_Mw_init_12 : decode b_Mw_init 12 = .ok (.aload_n 0, 1) := by decide +kernel
theorem d_Mw_init_13 : decode b_Mw_init 13 = .ok (.bipush 60, 2) := by decide +kernel
theorem d_Mw_init_15 : decode b_Mw_init 15 = .ok (.newarray .int, 2) := by decide +kernel
theorem d_Mw_init_17 : decode b_Mw_init 17 = .ok (.putfield 15, 3) := by decide +kernel
theorem d_Mw_init_20 : decode b_Mw_init 20 = .ok (.aload_n 0, 1) := by decide +kernel
theorem d_Mw_init_21 : decode b_Mw_init 21 = .ok (.aload_n 1, 1) := by decide +kernel
theorem d_Mw_init_22 : decode b_Mw_init 22 = .ok (.putfield 18, 3) := by decide +kernel
theorem d_Mw_init_25 : decode b_Mw_init 25 = .ok (.return_, 1) := by decide +kernel
def wp_Mw_init (g : Gm) (post : StC → Prop) (mc ms : Nat) (S : StC) (h0 : Nat) (a0 : Nat) : Prop :=
  (¬ (60 : Int32) < 0) ∧ ((Int32.toNatClampNeg (60)) * 4 ≤ 536870912) ∧ (0 + 1 ≤ mc) ∧ (0 + (Int32.toNatClampNeg (60)) ≤ ms) ∧ (∀ q1 : Nat, q1 ∉ S.2.2.2.2.2.1 → ∃ (vs3 : List Value), (h0 ∈ (S.2.2.2.2.2.1 ++ [q1])) ∧ ((va_up S.2.2.2.2.2.2 q1 (.inl (g.2.1 0, (Int32.toNatClampNeg (60)), .inl (fun _ => 0)))) h0 = .inr (11, vs3)) ∧ (1 < vs3.length) ∧ ((¬ (60 : Int32) < 0) ∧ ((Int32.toNatClampNeg (60)) * 4 ≤ 536870912) ∧ ((0 + 1) + 1 ≤ mc) ∧ ((0 + (Int32.toNatClampNeg (60))) + (Int32.toNatClampNeg (60)) ≤ ms) ∧ (∀ q7 : Nat, q7 ∉ (S.2.2.2.2.2.1 ++ [q1]) → ∃ (vs9 : List Value), (h0 ∈ ((S.2.2.2.2.2.1 ++ [q1]) ++ [q7])) ∧ ((va_up (va_up (va_up S.2.2.2.2.2.2 q1 (.inl (g.2.1 0, (Int32.toNatClampNeg (60)), .inl (fun _ => 0)))) h0 (.inr (11, vs3.set 1 (.ref (q1))))) q7 (.inl (g.2.1 0, (Int32.toNatClampNeg (60)), .inl (fun _ => 0)))) h0 = .inr (11, vs9)) ∧ (2 < vs9.length) ∧ (∃ (vs13 : List Value), (h0 ∈ ((S.2.2.2.2.2.1 ++ [q1]) ++ [q7])) ∧ ((va_up (va_up (va_up (va_up S.2.2.2.2.2.2 q1 (.inl (g.2.1 0, (Int32.toNatClampNeg (60)), .inl (fun _ => 0)))) h0 (.inr (11, vs3.set 1 (.ref (q1))))) q7 (.inl (g.2.1 0, (Int32.toNatClampNeg (60)), .inl (fun _ => 0)))) h0 (.inr (11, vs9.set 2 (.ref (q7))))) h0 = .inr (11, vs13)) ∧ (0 < vs13.length) ∧ (post (S.1, S.2.1, S.2.2.1, S.2.2.2.1, S.2.2.2.2.1, ((S.2.2.2.2.2.1 ++ [q1]) ++ [q7]), (va_up (va_up (va_up (va_up (va_up S.2.2.2.2.2.2 q1 (.inl (g.2.1 0, (Int32.toNatClampNeg (60)), .inl (fun _ => 0)))) h0 (.inr (11, vs3.set 1 (.ref (q1))))) q7 (.inl (g.2.1 0, (Int32.toNatClampNeg (60)), .inl (fun _ => 0)))) h0 (.inr (11, vs9.set 2 (.ref (q7))))) h0 (.inr (11, vs13.set 0 (.ref (a0)))))))))))
set_option maxRecDepth 100000 in
set_option maxHeartbeats 4000000 in
theorem c_Mw_init (l : Launch) (g : Gm) (sz : Nat) (S : StC) (h0 : Nat) (a0 : Nat) (post : StC → Prop) (mc ms : Nat) (hw : wp_Mw_init g post mc ms S h0 a0) : Met l y_Mw_init (.code y_Mw_init b_Mw_init 2 none :: w_C) (rmA 1 20 mc ms) (va_Pc [.ref (h0), .ref (a0)] (PC g sz S)) (va_Qv post (BC g (AC g sz S)) (AC g sz S)) mc ms (AC g sz S) := by
  refine ofA_v (by decide) (Nat.le_of_ble_eq_true rfl) (fun p e s m args below meth c Q A H locs ls hx hb hml hts hown hK hA hC hN hmn kr hl hP hD hS => ?_)
  have hl : lv_has ls 2 [(0, .ref (h0)), (1, .ref (a0))] := hl
  unfold wp_Mw_init at hw
  have hcm : 0 ≤ mc := Nat.zero_le _
  have hzm : 0 ≤ ms := Nat.zero_le _
  refine lv_aload_n hx hb d_Mw_init_0 rfl (lv_at hl 0 rfl) ?_
  refine W.objInit hx hb hown (hts _ k_C_497) (hts _ k_C_26) (hts _ k_C_27) rfl (by rw [hml]; exact hl.1) rfl d_Mw_init_1 (Nat.le_of_ble_eq_true rfl) (Nat.le_of_ble_eq_true rfl) ?_
  refine W.eq (g2 := F0 m 4 ls []) rfl ?_
  refine lv_aload_n hx hb d_Mw_init_4 rfl (lv_at hl 0 rfl) ?_
  refine lv_bipush (v := 60) hx hb d_Mw_init_5 (by decide) ?_
  obtain ⟨hn9, hb9, hcm, hzm, hw⟩ := hw
  refine pni_C (S := S) hx hb hts k_C_71 hK hP hD hS hA hn9 hb9 hcm hzm d_Mw_init_7 (fun q1 H hq2 hP hD hS => ?_)
  have hP : va_P g.1 classes (wC g (S.1, S.2.1, S.2.2.1, S.2.2.2.1, S.2.2.2.2.1, (S.2.2.2.2.2.1 ++ [q1]), (va_up S.2.2.2.2.2.2 q1 (.inl (g.2.1 0, (Int32.toNatClampNeg (60)), .inl (fun _ => 0)))))) H := hP
  have hD : va_D A (wC g (S.1, S.2.1, S.2.2.1, S.2.2.2.1, S.2.2.2.2.1, (S.2.2.2.2.2.1 ++ [q1]), (va_up S.2.2.2.2.2.2 q1 (.inl (g.2.1 0, (Int32.toNatClampNeg (60)), .inl (fun _ => 0)))))) := hD
  have hw := hw q1 hq2
  obtain ⟨vs3, ha4, hf5, hk6, hw⟩ := hw
  refine ppF_C (S := (S.1, S.2.1, S.2.2.1, S.2.2.2.1, S.2.2.2.2.1, (S.2.2.2.2.2.1 ++ [q1]), (va_up S.2.2.2.2.2.2 q1 (.inl (g.2.1 0, (Int32.toNatClampNeg (60)), .inl (fun _ => 0)))))) (vs := vs3) (v := .ref (q1)) (C := R_Mw) (F := F_Mw) (N := 5) hx hb hts hin_Mw t_Mw t_Mw_ok n_Mw hown hK hP hD hS ha4 hf5 rfl 1 (by decide) rfl hmn rfl rfl rfl hk6 k_C_499 d_Mw_init_9 (fun H locs hP hD hS => ?_)
  have hP : va_P g.1 classes (wC g (S.1, S.2.1, S.2.2.1, S.2.2.2.1, S.2.2.2.2.1, (S.2.2.2.2.2.1 ++ [q1]), (va_up (va_up S.2.2.2.2.2.2 q1 (.inl (g.2.1 0, (Int32.toNatClampNeg (60)), .inl (fun _ => 0)))) h0 (.inr (11, vs3.set 1 (.ref (q1))))))) H := hP
  have hD : va_D A (wC g (S.1, S.2.1, S.2.2.1, S.2.2.2.1, S.2.2.2.2.1, (S.2.2.2.2.2.1 ++ [q1]), (va_up (va_up S.2.2.2.2.2.2 q1 (.inl (g.2.1 0, (Int32.toNatClampNeg (60)), .inl (fun _ => 0)))) h0 (.inr (11, vs3.set 1 (.ref (q1))))))) := hD
  refine lv_aload_n hx hb d_Mw_init_12 rfl (lv_at hl 0 rfl) ?_
  refine lv_bipush (v := 60) hx hb d_Mw_init_13 (by decide) ?_
  obtain ⟨hn9, hb9, hcm, hzm, hw⟩ := hw
  refine pni_C (S := (S.1, S.2.1, S.2.2.1, S.2.2.2.1, S.2.2.2.2.1, (S.2.2.2.2.2.1 ++ [q1]), (va_up (va_up S.2.2.2.2.2.2 q1 (.inl (g.2.1 0, (Int32.toNatClampNeg (60)), .inl (fun _ => 0)))) h0 (.inr (11, vs3.set 1 (.ref (q1))))))) hx hb hts k_C_71 hK hP hD hS hA hn9 hb9 hcm hzm d_Mw_init_15 (fun q7 H hq8 hP hD hS => ?_)
  have hP : va_P g.1 classes (wC g (S.1, S.2.1, S.2.2.1, S.2.2.2.1, S.2.2.2.2.1, ((S.2.2.2.2.2.1 ++ [q1]) ++ [q7]), (va_up (va_up (va_up S.2.2.2.2.2.2 q1 (.inl (g.2.1 0, (Int32.toNatClampNeg (60)), .inl (fun _ => 0)))) h0 (.inr (11, vs3.set 1 (.ref (q1))))) q7 (.inl (g.2.1 0, (Int32.toNatClampNeg (60)), .inl (fun _ => 0)))))) H := hP
  have hD : va_D A (wC g (S.1, S.2.1, S.2.2.1, S.2.2.2.1, S.2.2.2.2.1, ((S.2.2.2.2.2.1 ++ [q1]) ++ [q7]), (va_up (va_up (va_up S.2.2.2.2.2.2 q1 (.inl (g.2.1 0, (Int32.toNatClampNeg (60)), .inl (fun _ => 0)))) h0 (.inr (11, vs3.set 1 (.ref (q1))))) q7 (.inl (g.2.1 0, (Int32.toNatClampNeg (60)), .inl (fun _ => 0)))))) := hD
  have hw := hw q7 hq8
  obtain ⟨vs9, ha10, hf11, hk12, hw⟩ := hw
  refine ppF_C (S := (S.1, S.2.1, S.2.2.1, S.2.2.2.1, S.2.2.2.2.1, ((S.2.2.2.2.2.1 ++ [q1]) ++ [q7]), (va_up (va_up (va_up S.2.2.2.2.2.2 q1 (.inl (g.2.1 0, (Int32.toNatClampNeg (60)), .inl (fun _ => 0)))) h0 (.inr (11, vs3.set 1 (.ref (q1))))) q7 (.inl (g.2.1 0, (Int32.toNatClampNeg (60)), .inl (fun _ => 0)))))) (vs := vs9) (v := .ref (q7)) (C := R_Mw) (F := F_Mw) (N := 5) hx hb hts hin_Mw t_Mw t_Mw_ok n_Mw hown hK hP hD hS ha10 hf11 rfl 2 (by decide) rfl hmn rfl rfl rfl hk12 k_C_500 d_Mw_init_17 (fun H locs hP hD hS => ?_)
  have hP : va_P g.1 classes (wC g (S.1, S.2.1, S.2.2.1, S.2.2.2.1, S.2.2.2.2.1, ((S.2.2.2.2.2.1 ++ [q1]) ++ [q7]), (va_up (va_up (va_up (va_up S.2.2.2.2.2.2 q1 (.inl (g.2.1 0, (Int32.toNatClampNeg (60)), .inl (fun _ => 0)))) h0 (.inr (11, vs3.set 1 (.ref (q1))))) q7 (.inl (g.2.1 0, (Int32.toNatClampNeg (60)), .inl (fun _ => 0)))) h0 (.inr (11, vs9.set 2 (.ref (q7))))))) H := hP
  have hD : va_D A (wC g (S.1, S.2.1, S.2.2.1, S.2.2.2.1, S.2.2.2.2.1, ((S.2.2.2.2.2.1 ++ [q1]) ++ [q7]), (va_up (va_up (va_up (va_up S.2.2.2.2.2.2 q1 (.inl (g.2.1 0, (Int32.toNatClampNeg (60)), .inl (fun _ => 0)))) h0 (.inr (11, vs3.set 1 (.ref (q1))))) q7 (.inl (g.2.1 0, (Int32.toNatClampNeg (60)), .inl (fun _ => 0)))) h0 (.inr (11, vs9.set 2 (.ref (q7))))))) := hD
  refine lv_aload_n hx hb d_Mw_init_20 rfl (lv_at hl 0 rfl) ?_
  refine lv_aload_n hx hb d_Mw_init_21 rfl (lv_at hl 1 rfl) ?_
  obtain ⟨vs13, ha14, hf15, hk16, hw⟩ := hw
  refine ppF_C (S := (S.1, S.2.1, S.2.2.1, S.2.2.2.1, S.2.2.2.2.1, ((S.2.2.2.2.2.1 ++ [q1]) ++ [q7]), (va_up (va_up (va_up (va_up S.2.2.2.2.2.2 q1 (.inl (g.2.1 0, (Int32.toNatClampNeg (60)), .inl (fun _ => 0)))) h0 (.inr (11, vs3.set 1 (.ref (q1))))) q7 (.inl (g.2.1 0, (Int32.toNatClampNeg (60)), .inl (fun _ => 0)))) h0 (.inr (11, vs9.set 2 (.ref (q7))))))) (vs := vs13) (v := .ref (a0)) (C := R_Mw) (F := F_Mw) (N := 5) hx hb hts hin_Mw t_Mw t_Mw_ok n_Mw hown hK hP hD hS ha14 hf15 rfl 0 (by decide) rfl hmn rfl rfl rfl hk16 k_C_498 d_Mw_init_22 (fun H locs hP hD hS => ?_)
  have hP : va_P g.1 classes (wC g (S.1, S.2.1, S.2.2.1, S.2.2.2.1, S.2.2.2.2.1, ((S.2.2.2.2.2.1 ++ [q1]) ++ [q7]), (va_up (va_up (va_up (va_up (va_up S.2.2.2.2.2.2 q1 (.inl (g.2.1 0, (Int32.toNatClampNeg (60)), .inl (fun _ => 0)))) h0 (.inr (11, vs3.set 1 (.ref (q1))))) q7 (.inl (g.2.1 0, (Int32.toNatClampNeg (60)), .inl (fun _ => 0)))) h0 (.inr (11, vs9.set 2 (.ref (q7))))) h0 (.inr (11, vs13.set 0 (.ref (a0))))))) H := hP
  have hD : va_D A (wC g (S.1, S.2.1, S.2.2.1, S.2.2.2.1, S.2.2.2.2.1, ((S.2.2.2.2.2.1 ++ [q1]) ++ [q7]), (va_up (va_up (va_up (va_up (va_up S.2.2.2.2.2.2 q1 (.inl (g.2.1 0, (Int32.toNatClampNeg (60)), .inl (fun _ => 0)))) h0 (.inr (11, vs3.set 1 (.ref (q1))))) q7 (.inl (g.2.1 0, (Int32.toNatClampNeg (60)), .inl (fun _ => 0)))) h0 (.inr (11, vs9.set 2 (.ref (q7))))) h0 (.inr (11, vs13.set 0 (.ref (a0))))))) := hD
  exact kr (S.1, S.2.1, S.2.2.1, S.2.2.2.1, S.2.2.2.2.1, ((S.2.2.2.2.2.1 ++ [q1]) ++ [q7]), (va_up (va_up (va_up (va_up (va_up S.2.2.2.2.2.2 q1 (.inl (g.2.1 0, (Int32.toNatClampNeg (60)), .inl (fun _ => 0)))) h0 (.inr (11, vs3.set 1 (.ref (q1))))) q7 (.inl (g.2.1 0, (Int32.toNatClampNeg (60)), .inl (fun _ => 0)))) h0 (.inr (11, vs9.set 2 (.ref (q7))))) h0 (.inr (11, vs13.set 0 (.ref (a0)))))) _ _ _ _ _ _ hcm hzm hw hP hD hS d_Mw_init_25
theorem qA_33 {R : Room} {s : State} {args : Array Value} {mc1 ms1 : Nat} (hts : ∀ w ∈ w_C, w.before args s = true) (hR : (rmA 1 20 mc1 ms1).frames + 1 ≤ R.frames ∧ 8 + (2 + 11) + (rmA 1 20 mc1 ms1).locals ≤ R.locals) : CallB R s args "WordSmith$Reader" 234 y_Mw_init b_Mw_init 2 none (.code y_Mw_init b_Mw_init 2 none :: w_C) (rmA 1 20 mc1 ms1) mc1 ms1 1 ∧ y_Mw_init.name = "<init>" ∧ (Cond.instanceMethod y_Mw_init).before args s = true := ⟨callB_of 1 hts (good_C k_C_496) rfl rfl rfl (hts _ k_C_21) (hts _ k_C_494) ⟨by decide +kernel, by decide +kernel, by decide +kernel⟩ hR, rfl, hts _ k_C_495⟩
theorem qC_82 {R : Room} {s : State} {args : Array Value} (hts : ∀ w ∈ w_C, w.before args s = true) (hR : (rmM 0 0).frames + 1 ≤ R.frames ∧ 8 + (3 + 11) + (rmM 0 0).locals ≤ R.locals) : CallW R s args "WordSmith$Reader" R_Mw 236 y_Mw_add b_Mw_add 3 none (.code y_Mw_add b_Mw_add 3 none :: w_C) (rmM 0 0) 0 0 2 := ⟨callB_of 2 hts (good_C k_C_410) rfl rfl rfl (hts _ k_C_21) (hts _ k_C_503) ⟨by decide +kernel, by decide +kernel, by decide +kernel⟩ hR, hts _ k_C_408, hts _ k_C_409⟩
theorem d_Rd_makeNumberWord_0 : decode b_Rd_makeNumberWord 0 = .ok (.new 178, 3) := by decide +kernel
theorem d_Rd_makeNumberWord_3 : decode b_Rd_makeNumberWord 3 = .ok (.dup, 1) := by decide +kernel
theorem d_Rd_makeNumberWord_4 : decode b_Rd_makeNumberWord 4 = .ok (.aload_n 1, 1) := by decide +kernel
theorem d_Rd_makeNumberWord_5 : decode b_Rd_makeNumberWord 5 = .ok (.invokespecial 234, 3) := by decide +kernel
theorem d_Rd_makeNumberWord_8 : decode b_Rd_makeNumberWord 8 = .ok (.astore_n 3, 1) := by decide +kernel
theorem d_Rd_makeNumberWord_9 : decode b_Rd_makeNumberWord 9 = .ok (.aload_n 3, 1) := by decide +kernel
theorem d_Rd_makeNumberWord_10 : decode b_Rd_makeNumberWord 10 = .ok (.iconst 0, 1) := by decide +kernel
theorem d_Rd_makeNumberWord_11 : decode b_Rd_makeNumberWord 11 = .ok (.iload_n 2, 1) := by decide +kernel
theorem d_Rd_makeNumberWord_12 : decode b_Rd_makeNumberWord 12 = .ok (.invokevirtual 236, 3) := by decide +kernel
theorem d_Rd_makeNumberWord_15 : decode b_Rd_makeNumberWord 15 = .ok (.aload_n 0, 1) := by decide +kernel
theorem d_Rd_makeNumberWord_16 : decode b_Rd_makeNumberWord 16 = .ok (.getfield 12, 3) := by decide +kernel
theorem d_Rd_makeNumberWord_19 : decode b_Rd_makeNumberWord 19 = .ok (.getfield 94, 3) := by decide +kernel
theorem d_Rd_makeNumberWord_22 : decode b_Rd_makeNumberWord 22 = .ok (.aload_n 3, 1) := by decide +kernel
theorem d_Rd_makeNumberWord_23 : decode b_Rd_makeNumberWord 23 = .ok (.invokevirtual 144, 3) := by decide +kernel
theorem d_Rd_makeNumberWord_26 : decode b_Rd_makeNumberWord 26 = .ok (.return_, 1) := by decide +kernel
def wp_Rd_makeNumberWord (g : Gm) (post : StC → Prop) (mc ms : Nat) (S : StC) (a0 : Nat) (a1 : Int32) : Prop :=
  (0 + 1 ≤ mc) ∧ (0 + 5 ≤ ms) ∧ (∀ q1 : Nat, q1 ∉ S.2.2.2.2.2.1 → ∃ (mc3 : Nat) (ms4 : Nat), ((0 + 1) + mc3 ≤ mc) ∧ ((0 + 5) + ms4 ≤ ms) ∧ (wp_Mw_init g (fun S5 : StC => (∃ (vs6 : List Value), (q1 ∈ S5.2.2.2.2.2.1) ∧ (S5.2.2.2.2.2.2 q1 = .inr (11, vs6)) ∧ (wp_Mw_add g (fun S9 : StC => (wp_Di_add g (fun S10 : StC => (post S10)) S9 (some (q1)))) S5 (q1) (0) (a1)))) mc3 ms4 (S.1, S.2.1, S.2.2.1, S.2.2.2.1, S.2.2.2.2.1, (S.2.2.2.2.2.1 ++ [q1]), (va_up S.2.2.2.2.2.2 q1 (.inr (11, [.null, .null, .null, .int 0, .int 0])))) (q1) (a0)))
set_option maxRecDepth 100000 in
set_option maxHeartbeats 4000000 in
theorem c_Rd_makeNumberWord (l : Launch) (g : Gm) (sz : Nat) (S : StC) (a0 : Nat) (a1 : Int32) (post : StC → Prop) (mc ms : Nat) (hw : wp_Rd_makeNumberWord g post mc ms S a0 a1) : Met l y_Rd_makeNumberWord (.code y_Rd_makeNumberWord b_Rd_makeNumberWord 4 none :: w_C) (rmA 2 41 mc ms) (va_Pc [.ref (g.2.2 2), .ref (a0), .int (a1)] (PC g sz S)) (va_Qv post (BC g (AC g sz S)) (AC g sz S)) mc ms (AC g sz S) := by
  refine ofA_v (by decide) (Nat.le_of_ble_eq_true rfl) (fun p e s m args below meth c Q A H locs ls hx hb hml hts hown hK hA hC hN hmn kr hl hP hD hS => ?_)
  have hl : lv_has ls 4 [(0, .ref (g.2.2 2)), (1, .ref (a0)), (2, .int (a1))] := hl
  unfold wp_Rd_makeNumberWord at hw
  have hcm : 0 ≤ mc := Nat.zero_le _
  have hzm : 0 ≤ ms := Nat.zero_le _
  obtain ⟨hcm, hzm, hw⟩ := hw
  refine pn_C (S := S) (fs := [.null, .null, .null, .int 0, .int 0]) (C := R_Mw) (F := F_Mw) (N := 5) (ci := 11) hx hb hts hin_Mw t_Mw t_Mw_ok hown k_C_492 k_C_493 k_C_21 hK hP hD hS hA rfl (fun j hj => by rcases (show j = 0 ∨ j = 1 ∨ j = 2 ∨ j = 3 ∨ j = 4 by omega) with rfl | rfl | rfl | rfl | rfl <;> rfl) hcm hzm d_Rd_makeNumberWord_0 (fun q1 H hq2 hP hD hS => ?_)
  have hP : va_P g.1 classes (wC g (S.1, S.2.1, S.2.2.1, S.2.2.2.1, S.2.2.2.2.1, (S.2.2.2.2.2.1 ++ [q1]), (va_up S.2.2.2.2.2.2 q1 (.inr (11, [.null, .null, .null, .int 0, .int 0]))))) H := hP
  have hD : va_D A (wC g (S.1, S.2.1, S.2.2.1, S.2.2.2.1, S.2.2.2.2.1, (S.2.2.2.2.2.1 ++ [q1]), (va_up S.2.2.2.2.2.2 q1 (.inr (11, [.null, .null, .null, .int 0, .int 0]))))) := hD
  have hw := hw q1 hq2
  refine lv_dup hx hb d_Rd_makeNumberWord_3 rfl ?_
  refine lv_aload_n hx hb d_Rd_makeNumberWord_4 rfl (lv_at hl 1 rfl) ?_
  obtain ⟨mc3, ms4, hcm, hzm, hw⟩ := hw
  refine cA_vI (As := [.ref (a0)]) (rest := [.ref (q1)]) hx hb hml hown hts hK hC hN hP hD hS hA hcm hzm hl.1  (qA_33 hts ⟨Nat.le_of_ble_eq_true rfl, Nat.le_of_ble_eq_true rfl⟩) (c_Mw_init l g H.size _ (q1) (a0) _ _ _ hw) rfl rfl (Nat.le_of_ble_eq_true rfl) d_Rd_makeNumberWord_5 (fun S5 H locs hw hP hD hS => ?_)
  refine lv_astore_n (lv' := [(3, .ref (q1)), (0, .ref (g.2.2 2)), (1, .ref (a0)), (2, .int (a1))]) hx hb d_Rd_makeNumberWord_8 rfl hl (by decide) rfl (fun ls hl => ?_)
  refine lv_aload_n hx hb d_Rd_makeNumberWord_9 rfl (lv_at hl 0 rfl) ?_
  refine lv_iconst (v := 0) hx hb d_Rd_makeNumberWord_10 (by decide) ?_
  refine lv_iload_n hx hb d_Rd_makeNumberWord_11 rfl (lv_at hl 3 rfl) ?_
  obtain ⟨vs6, ha7, hf8, hw⟩ := hw
  refine cC_vV (As := [.int (0), .int (a1)]) (rest := []) hx hb hml hown hts hK hC hN hP hD hS hA hcm hzm hl.1 (precv_C (C := R_Mw) (F := F_Mw) (N := 5) hK hP ha7 hf8 rfl) (qC_82 hts ⟨Nat.le_of_ble_eq_true rfl, Nat.le_of_ble_eq_true rfl⟩) (c_Mw_add l g H.size _ (q1) (0) (a1) _ hw) rfl rfl (Nat.le_of_ble_eq_true rfl) d_Rd_makeNumberWord_12 (fun S9 H locs hw hP hD hS => ?_)
  refine lv_aload_n hx hb d_Rd_makeNumberWord_15 rfl (lv_at hl 1 rfl) ?_
  refine va_get (D := g.1) (ci := 4) (v := .ref (g.2.2 3)) (C := R_Rd) (T := F_Rd) (N := 6) hx hb hts hin_Rd hown hK hP 2 rfl rfl 0 (by decide) (hts _ k_C_127) (fun _ h9 => h9) rfl d_Rd_makeNumberWord_16 ?_
  refine va_getN (D := g.1) (ci := 5) (v := .ref (g.2.2 13)) (C := R_Ma) (T := F_Ma) (N := 9) hx hb hts hin_Ma hown hK hP 3 rfl rfl 3 (by decide) (va_Nw.use rfl (hN.1 _ kn_C_21)) (fun _ h9 => h9) rfl d_Rd_makeNumberWord_19 ?_
  refine lv_aload_n hx hb d_Rd_makeNumberWord_22 rfl (lv_at hl 0 rfl) ?_
  refine cC_vV (As := [va_rf (some (q1))]) (rest := []) hx hb hml hown hts hK hC hN hP hD hS hA hcm hzm hl.1 (va_recv (q0 := 13) (ci := 8) (q := (R_Di, F_Di, 2)) hK hP rfl rfl) (qC_74 hts ⟨Nat.le_of_ble_eq_true rfl, Nat.le_of_ble_eq_true rfl⟩) (c_Di_add l g H.size _ (some (q1)) _ hw) rfl rfl (Nat.le_of_ble_eq_true rfl) d_Rd_makeNumberWord_23 (fun S10 H locs hw hP hD hS => ?_)
  exact kr S10 _ _ _ _ _ _ hcm hzm hw hP hD hS d_Rd_makeNumberWord_26
theorem qA_34 {R : Room} {s : State} {args : Array Value} {mc1 ms1 : Nat} (hts : ∀ w ∈ w_C, w.before args s = true) (hR : (rmA 1 20 mc1 ms1).frames + 1 ≤ R.frames ∧ 8 + (2 + 11) + (rmA 1 20 mc1 ms1).locals ≤ R.locals) : CallB R s args "WordSmith$Compiler" 27 y_Mw_init b_Mw_init 2 none (.code y_Mw_init b_Mw_init 2 none :: w_C) (rmA 1 20 mc1 ms1) mc1 ms1 1 ∧ y_Mw_init.name = "<init>" ∧ (Cond.instanceMethod y_Mw_init).before args s = true := ⟨callB_of 1 hts (good_C k_C_496) rfl rfl rfl (hts _ k_C_21) (hts _ k_C_522) ⟨by decide +kernel, by decide +kernel, by decide +kernel⟩ hR, rfl, hts _ k_C_495⟩
theorem d_Co_begin_0 : decode b_Co_begin 0 = .ok (.aload_n 0, 1) := by decide +kernel
theorem d_Co_begin_1 : decode b_Co_begin 1 = .ok (.new 25, 3) := by decide +kernel
theorem d_Co_begin_4 : decode b_Co_begin 4 = .ok (.dup, 1) := by decide +kernel
theorem d_Co_begin_5 : decode b_Co_begin 5 = .ok (.aload_n 1, 1) := by decide +kernel
theorem d_Co_begin_6 : decode b_Co_begin 6 = .ok (.invokespecial 27, 3) := by decide +kernel
theorem d_Co_begin_9 : decode b_Co_begin 9 = .ok (.putfield 21, 3) := by decide +kernel
theorem d_Co_begin_12 : decode b_Co_begin 12 = .ok (.aload_n 0, 1) := by decide +kernel
theorem d_Co_begin_13 : decode b_Co_begin 13 = .ok (.iconst 0, 1) := by decide +kernel
theorem d_Co_begin_14 : decode b_Co_begin 14 = .ok (.putfield 30, 3) := by decide +kernel
theorem d_Co_begin_17 : decode b_Co_begin 17 = .ok (.return_, 1) := by decide +kernel
def wp_Co_begin (g : Gm) (post : StC → Prop) (mc ms : Nat) (S : StC) (a0 : Nat) : Prop :=
  (0 + 1 ≤ mc) ∧ (0 + 5 ≤ ms) ∧ (∀ q1 : Nat, q1 ∉ S.2.2.2.2.2.1 → ∃ (mc3 : Nat) (ms4 : Nat), ((0 + 1) + mc3 ≤ mc) ∧ ((0 + 5) + ms4 ≤ ms) ∧ (wp_Mw_init g (fun S5 : StC => (post ((upd S5.1 13 (0)), S5.2.1, S5.2.2.1, (va_up S5.2.2.2.1 0 (some (q1))), S5.2.2.2.2))) mc3 ms4 (S.1, S.2.1, S.2.2.1, S.2.2.2.1, S.2.2.2.2.1, (S.2.2.2.2.2.1 ++ [q1]), (va_up S.2.2.2.2.2.2 q1 (.inr (11, [.null, .null, .null, .int 0, .int 0])))) (q1) (a0)))
set_option maxRecDepth 100000 in
set_option maxHeartbeats 4000000 in
theorem c_Co_begin (l : Launch) (g : Gm) (sz : Nat) (S : StC) (a0 : Nat) (post : StC → Prop) (mc ms : Nat) (hw : wp_Co_begin g post mc ms S a0) : Met l y_Co_begin (.code y_Co_begin b_Co_begin 2 none :: w_C) (rmA 2 41 mc ms) (va_Pc [.ref (g.2.2 17), .ref (a0)] (PC g sz S)) (va_Qv post (BC g (AC g sz S)) (AC g sz S)) mc ms (AC g sz S) := by
  refine ofA_v (by decide) (Nat.le_of_ble_eq_true rfl) (fun p e s m args below meth c Q A H locs ls hx hb hml hts hown hK hA hC hN hmn kr hl hP hD hS => ?_)
  have hl : lv_has ls 2 [(0, .ref (g.2.2 17)), (1, .ref (a0))] := hl
  unfold wp_Co_begin at hw
  have hcm : 0 ≤ mc := Nat.zero_le _
  have hzm : 0 ≤ ms := Nat.zero_le _
  refine lv_aload_n hx hb d_Co_begin_0 rfl (lv_at hl 0 rfl) ?_
  obtain ⟨hcm, hzm, hw⟩ := hw
  refine pn_C (S := S) (fs := [.null, .null, .null, .int 0, .int 0]) (C := R_Mw) (F := F_Mw) (N := 5) (ci := 11) hx hb hts hin_Mw t_Mw t_Mw_ok hown k_C_521 k_C_493 k_C_21 hK hP hD hS hA rfl (fun j hj => by rcases (show j = 0 ∨ j = 1 ∨ j = 2 ∨ j = 3 ∨ j = 4 by omega) with rfl | rfl | rfl | rfl | rfl <;> rfl) hcm hzm d_Co_begin_1 (fun q1 H hq2 hP hD hS => ?_)
  have hP : va_P g.1 classes (wC g (S.1, S.2.1, S.2.2.1, S.2.2.2.1, S.2.2.2.2.1, (S.2.2.2.2.2.1 ++ [q1]), (va_up S.2.2.2.2.2.2 q1 (.inr (11, [.null, .null, .null, .int 0, .int 0]))))) H := hP
  have hD : va_D A (wC g (S.1, S.2.1, S.2.2.1, S.2.2.2.1, S.2.2.2.2.1, (S.2.2.2.2.2.1 ++ [q1]), (va_up S.2.2.2.2.2.2 q1 (.inr (11, [.null, .null, .null, .int 0, .int 0]))))) := hD
  have hw := hw q1 hq2
  refine lv_dup hx hb d_Co_begin_4 rfl ?_
  refine lv_aload_n hx hb d_Co_begin_5 rfl (lv_at hl 1 rfl) ?_
  obtain ⟨mc3, ms4, hcm, hzm, hw⟩ := hw
  refine cA_vI (As := [.ref (a0)]) (rest := [.ref (q1), .ref (g.2.2 17)]) hx hb hml hown hts hK hC hN hP hD hS hA hcm hzm hl.1  (qA_34 hts ⟨Nat.le_of_ble_eq_true rfl, Nat.le_of_ble_eq_true rfl⟩) (c_Mw_init l g H.size _ (q1) (a0) _ _ _ hw) rfl rfl (Nat.le_of_ble_eq_true rfl) d_Co_begin_6 (fun S5 H locs hw hP hD hS => ?_)
  refine pt_C (S2 := (S5.1, S5.2.1, S5.2.2.1, (va_up S5.2.2.2.1 0 (some (q1))), S5.2.2.2.2)) (v := va_rf (some (q1))) (C := R_Co) (F := F_Co) (N := 4) (ci := 10) hx hb hts hin_Co t_Co t_Co_ok n_Co hown hK hP hD hS 17 rfl rfl 0 (by decide) rfl (rf_nar _ _) (rf_fit _ _) (Nat.le_of_ble_eq_true rfl) (sR_C_0 g _ _) k_C_122 d_Co_begin_9 (fun H locs hP hD hS => ?_)
  refine lv_aload_n hx hb d_Co_begin_12 rfl (lv_at hl 0 rfl) ?_
  refine lv_iconst (v := 0) hx hb d_Co_begin_13 (by decide) ?_
  refine pt_C (S2 := ((upd S5.1 13 (0)), S5.2.1, S5.2.2.1, (va_up S5.2.2.2.1 0 (some (q1))), S5.2.2.2.2)) (v := .int (0)) (C := R_Co) (F := F_Co) (N := 4) (ci := 10) hx hb hts hin_Co t_Co t_Co_ok n_Co hown hK hP hD hS 17 rfl rfl 3 (by decide) rfl rfl rfl (Nat.le_of_ble_eq_true rfl) (sI_C_13 g _ _) k_C_125 d_Co_begin_14 (fun H locs hP hD hS => ?_)
  exact kr ((upd S5.1 13 (0)), S5.2.1, S5.2.2.1, (va_up S5.2.2.2.1 0 (some (q1))), S5.2.2.2.2) _ _ _ _ _ _ hcm hzm hw hP hD hS d_Co_begin_17
theorem qC_83 {R : Room} {s : State} {args : Array Value} (hts : ∀ w ∈ w_C, w.before args s = true) (hR : (rmM 0 0).frames + 1 ≤ R.frames ∧ 8 + (1 + 11) + (rmM 0 0).locals ≤ R.locals) : CallW R s args "WordSmith$Reader" R_Di 199 y_Di_isFull b_Di_isFull 1 (some .boolean) (.code y_Di_isFull b_Di_isFull 1 (some .boolean) :: w_C) (rmM 0 0) 0 0 0 := ⟨callB_of 0 hts (good_C k_C_477) rfl rfl rfl (hts _ k_C_9) (hts _ k_C_474) ⟨by decide +kernel, by decide +kernel, by decide +kernel⟩ hR, hts _ k_C_475, hts _ k_C_476⟩
theorem qC_84 {R : Room} {s : State} {args : Array Value} (hts : ∀ w ∈ w_C, w.before args s = true) (hR : (rmM 0 0).frames + 1 ≤ R.frames ∧ 8 + (1 + 11) + (rmM 0 0).locals ≤ R.locals) : va_CU R s args "WordSmith$Reader" "WordSmith$BuiltIn" "java/lang/Enum" 208 ⟨"WordSmith$BuiltIn", "ordinal", "()I"⟩ y_En_ordinal b_En_ordinal 1 (some .int) (.code y_En_ordinal b_En_ordinal 1 (some .int) :: w_C) (rmM 0 0) 0 0 0 := va_cwU 0 hts (good_U k_C_479 k_C_480 k_C_481 k_C_482 k_C_18 k_C_483) rfl rfl rfl rfl ⟨by decide +kernel, by decide +kernel, by decide +kernel⟩ hR
theorem qC_85 {R : Room} {s : State} {args : Array Value} (hts : ∀ w ∈ w_C, w.before args s = true) (hR : (rmM 0 0).frames + 1 ≤ R.frames ∧ 8 + (4 + 11) + (rmM 0 0).locals ≤ R.locals) : CallW R s args "WordSmith$Reader" R_Me 211 y_Me_canGrow b_Me_canGrow 4 (some .boolean) (.code y_Me_canGrow b_Me_canGrow 4 (some .boolean) :: w_C) (rmM 0 0) 0 0 1 := ⟨callB_of 1 hts (good_C k_C_487) rfl rfl rfl (hts _ k_C_8) (hts _ k_C_484) ⟨by decide +kernel, by decide +kernel, by decide +kernel⟩ hR, hts _ k_C_485, hts _ k_C_486⟩
theorem qA_35 {R : Room} {s : State} {args : Array Value} {mc1 ms1 : Nat} (hts : ∀ w ∈ w_C, w.before args s = true) (hR : (rmA 2 41 mc1 ms1).frames + 1 ≤ R.frames ∧ 8 + (4 + 11) + (rmA 2 41 mc1 ms1).locals ≤ R.locals) : CallW R s args "WordSmith$Reader" R_Rd 219 y_Rd_makeNumberWord b_Rd_makeNumberWord 4 none (.code y_Rd_makeNumberWord b_Rd_makeNumberWord 4 none :: w_C) (rmA 2 41 mc1 ms1) mc1 ms1 2 := ⟨callB_of 2 hts (good_C k_C_491) rfl rfl rfl (hts _ k_C_5) (hts _ k_C_489) ⟨by decide +kernel, by decide +kernel, by decide +kernel⟩ hR, hts _ k_C_490, hts _ k_C_788⟩
theorem qC_86 {R : Room} {s : State} {args : Array Value} (hts : ∀ w ∈ w_C, w.before args s = true) (hR : (rmM 1 23).frames + 1 ≤ R.frames ∧ 8 + (2 + 11) + (rmM 1 23).locals ≤ R.locals) : CallW R s args "WordSmith$Reader" R_Me 223 y_Me_append b_Me_append 2 none (.code y_Me_append b_Me_append 2 none :: w_C) (rmM 1 23) 0 0 1 := ⟨callB_of 1 hts (good_C k_C_511) rfl rfl rfl (hts _ k_C_8) (hts _ k_C_508) ⟨by decide +kernel, by decide +kernel, by decide +kernel⟩ hR, hts _ k_C_509, hts _ k_C_510⟩
theorem qC_87 {R : Room} {s : State} {args : Array Value} (hts : ∀ w ∈ w_C, w.before args s = true) (hR : (rmM 0 0).frames + 1 ≤ R.frames ∧ 8 + (1 + 11) + (rmM 0 0).locals ≤ R.locals) : CallW R s args "WordSmith$Reader" R_N 227 y_N_pop b_N_pop 1 (some .int) (.code y_N_pop b_N_pop 1 (some .int) :: w_C) (rmM 0 0) 0 0 0 := ⟨callB_of 0 hts (good_C k_C_516) rfl rfl rfl (hts _ k_C_7) (hts _ k_C_513) ⟨by decide +kernel, by decide +kernel, by decide +kernel⟩ hR, hts _ k_C_514, hts _ k_C_515⟩
theorem qA_36 {R : Room} {s : State} {args : Array Value} {mc1 ms1 : Nat} (hts : ∀ w ∈ w_C, w.before args s = true) (hR : (rmA 2 41 mc1 ms1).frames + 1 ≤ R.frames ∧ 8 + (2 + 11) + (rmA 2 41 mc1 ms1).locals ≤ R.locals) : CallW R s args "WordSmith$Reader" R_Co 230 y_Co_begin b_Co_begin 2 none (.code y_Co_begin b_Co_begin 2 none :: w_C) (rmA 2 41 mc1 ms1) mc1 ms1 1 := ⟨callB_of 1 hts (good_C k_C_520) rfl rfl rfl (hts _ k_C_11) (hts _ k_C_517) ⟨by decide +kernel, by decide +kernel, by decide +kernel⟩ hR, hts _ k_C_518, hts _ k_C_519⟩
theorem d_Rd_makeWord_0 : decode b_Rd_makeWord 0 = .ok (.aload_n 0, 1) := by decide +kernel
theorem d_Rd_makeWord_1 : decode b_Rd_makeWord 1 = .ok (.getfield 12, 3) := by decide +kernel
theorem d_Rd_makeWord_4 : decode b_Rd_makeWord 4 = .ok (.getfield 183, 3) := by decide +kernel
theorem d_Rd_makeWord_7 : decode b_Rd_makeWord 7 = .ok (.astore_n 3, 1) := by decide +kernel
theorem d_Rd_makeWord_8 : decode b_Rd_makeWord 8 = .ok (.aload_n 0, 1) := by decide +kernel
theorem d_Rd_makeWord_9 : decode b_Rd_makeWord 9 = .ok (.getfield 12, 3) := by decide +kernel
theorem d_Rd_makeWord_12 : decode b_Rd_makeWord 12 = .ok (.getfield 187, 3) := by decide +kernel
theorem d_Rd_makeWord_15 : decode b_Rd_makeWord 15 = .ok (.getfield 191, 3) := by decide +kernel
theorem d_Rd_makeWord_18 : decode b_Rd_makeWord 18 = .ok (.aload_n 1, 1) := by decide +kernel
theorem d_Rd_makeWord_19 : decode b_Rd_makeWord 19 = .ok (.getfield 196, 3) := by decide +kernel
theorem d_Rd_makeWord_22 : decode b_Rd_makeWord 22 = .ok (.if_icmp .ge 5, 3) := by decide +kernel
theorem d_Rd_makeWord_25 : decode b_Rd_makeWord 25 = .ok (.iconst 2, 1) := by decide +kernel
theorem d_Rd_makeWord_26 : decode b_Rd_makeWord 26 = .ok (.ireturn, 1) := by decide +kernel
theorem d_Rd_makeWord_27 : decode b_Rd_makeWord 27 = .ok (.aload_n 0, 1) := by decide +kernel
theorem d_Rd_makeWord_28 : decode b_Rd_makeWord 28 = .ok (.getfield 12, 3) := by decide +kernel
theorem d_Rd_makeWord_31 : decode b_Rd_makeWord 31 = .ok (.getfield 94, 3) := by decide +kernel
theorem d_Rd_makeWord_34 : decode b_Rd_makeWord 34 = .ok (.invokevirtual 199, 3) := by decide +kernel
theorem d_Rd_makeWord_37 : decode b_Rd_makeWord 37 = .ok (.ifCond .eq 5, 3) := by decide +kernel
theorem d_Rd_makeWord_40 : decode b_Rd_makeWord 40 = .ok (.iconst 3, 1) := by decide +kernel
theorem d_Rd_makeWord_41 : decode b_Rd_makeWord 41 = .ok (.ireturn, 1) := by decide +kernel
theorem d_Rd_makeWord_42 : decode b_Rd_makeWord 42 = .ok (.getstatic 202, 3) := by decide +kernel
theorem d_Rd_makeWord_45 : decode b_Rd_makeWord 45 = .ok (.aload_n 1, 1) := by decide +kernel
theorem d_Rd_makeWord_46 : decode b_Rd_makeWord 46 = .ok (.invokevirtual 208, 3) := by decide +kernel
theorem d_Rd_makeWord_49 : decode b_Rd_makeWord 49 = .ok (.iaload, 1) := by decide +kernel
theorem d_Rd_makeWord_50 : decode b_Rd_makeWord 50 = .ok (.lookupswitch 69 #[(45, 26), (46, 52)], 26) := by decide +kernel
theorem d_Rd_makeWord_76 : decode b_Rd_makeWord 76 = .ok (.aload_n 3, 1) := by decide +kernel
theorem d_Rd_makeWord_77 : decode b_Rd_makeWord 77 = .ok (.iconst 1, 1) := by decide +kernel
theorem d_Rd_makeWord_78 : decode b_Rd_makeWord 78 = .ok (.invokevirtual 211, 3) := by decide +kernel
theorem d_Rd_makeWord_81 : decode b_Rd_makeWord 81 = .ok (.ifCond .ne 5, 3) := by decide +kernel
theorem d_Rd_makeWord_84 : decode b_Rd_makeWord 84 = .ok (.iconst 3, 1) := by decide +kernel
theorem d_Rd_makeWord_85 : decode b_Rd_makeWord 85 = .ok (.ireturn, 1) := by decide +kernel
theorem d_Rd_makeWord_86 : decode b_Rd_makeWord 86 = .ok (.aload_n 0, 1) := by decide +kernel
theorem d_Rd_makeWord_87 : decode b_Rd_makeWord 87 = .ok (.aload_n 2, 1) := by decide +kernel
theorem d_Rd_makeWord_88 : decode b_Rd_makeWord 88 = .ok (.aload_n 3, 1) := by decide +kernel
theorem d_Rd_makeWord_89 : decode b_Rd_makeWord 89 = .ok (.getfield 216, 3) := by decide +kernel
theorem d_Rd_makeWord_92 : decode b_Rd_makeWord 92 = .ok (.invokevirtual 219, 3) := by decide +kernel
theorem d_Rd_makeWord_95 : decode b_Rd_makeWord 95 = .ok (.aload_n 3, 1) := by decide +kernel
theorem d_Rd_makeWord_96 : decode b_Rd_makeWord 96 = .ok (.iconst 0, 1) := by decide +kernel
theorem d_Rd_makeWord_97 : decode b_Rd_makeWord 97 = .ok (.invokevirtual 223, 3) := by decide +kernel
theorem d_Rd_makeWord_100 : decode b_Rd_makeWord 100 = .ok (.iconst 0, 1) := by decide +kernel
theorem d_Rd_makeWord_101 : decode b_Rd_makeWord 101 = .ok (.ireturn, 1) := by decide +kernel
theorem d_Rd_makeWord_102 : decode b_Rd_makeWord 102 = .ok (.aload_n 0, 1) := by decide +kernel
theorem d_Rd_makeWord_103 : decode b_Rd_makeWord 103 = .ok (.aload_n 2, 1) := by decide +kernel
theorem d_Rd_makeWord_104 : decode b_Rd_makeWord 104 = .ok (.aload_n 0, 1) := by decide +kernel
theorem d_Rd_makeWord_105 : decode b_Rd_makeWord 105 = .ok (.getfield 12, 3) := by decide +kernel
theorem d_Rd_makeWord_108 : decode b_Rd_makeWord 108 = .ok (.getfield 187, 3) := by decide +kernel
theorem d_Rd_makeWord_111 : decode b_Rd_makeWord 111 = .ok (.invokevirtual 227, 3) := by decide +kernel
theorem d_Rd_makeWord_114 : decode b_Rd_makeWord 114 = .ok (.invokevirtual 219, 3) := by decide +kernel
theorem d_Rd_makeWord_117 : decode b_Rd_makeWord 117 = .ok (.iconst 0, 1) := by decide +kernel
theorem d_Rd_makeWord_118 : decode b_Rd_makeWord 118 = .ok (.ireturn, 1) := by decide +kernel
theorem d_Rd_makeWord_119 : decode b_Rd_makeWord 119 = .ok (.aload_n 0, 1) := by decide +kernel
theorem d_Rd_makeWord_120 : decode b_Rd_makeWord 120 = .ok (.getfield 21, 3) := by decide +kernel
theorem d_Rd_makeWord_123 : decode b_Rd_makeWord 123 = .ok (.aload_n 2, 1) := by decide +kernel
theorem d_Rd_makeWord_124 : decode b_Rd_makeWord 124 = .ok (.invokevirtual 230, 3) := by decide +kernel
theorem d_Rd_makeWord_127 : decode b_Rd_makeWord 127 = .ok (.iconst 0, 1) := by decide +kernel
theorem d_Rd_makeWord_128 : decode b_Rd_makeWord 128 = .ok (.ireturn, 1) := by decide +kernel
def wp_Rd_makeWord (g : Gm) (post : Int32 → StC → Prop) (mc ms : Nat) (S : StC) (a0 : Nat) (a1 : Nat) : Prop :=
  ∃ (i1 : Nat), (i1 < 52) ∧ (a0 = g.2.2 (100 + i1)) ∧ ((((takE.getD i1 0) ≤ (S.1 8)) → wp_Di_isFull g (fun (r5 : Int32) (S4 : StC) => (((r5 = 0) → ∃ (i6 : Nat), (i6 < 52) ∧ (a0 = g.2.2 (100 + i6)) ∧ (wp_En_ordinal g (fun (r10 : Int32) (S9 : StC) => ((vp_in r10 52) ∧ ((((swE.getD (Int32.toNatClampNeg (r10)) 0) = 45) → wp_Me_canGrow g (fun (r13 : Int32) (S12 : StC) => (((r13 = 0) → post (3) S12) ∧ (¬ (r13 = 0) → ∃ (mc14 : Nat) (ms15 : Nat), (0 + mc14 ≤ mc) ∧ (0 + ms15 ≤ ms) ∧ (wp_Rd_makeNumberWord g (fun S16 : StC => (wp_Me_append g (fun S17 : StC => (post (0) S17)) S16 (0))) mc14 ms15 S12 (a1) ((S12.1 10)))))) S9 (1)) ∧ (¬ ((swE.getD (Int32.toNatClampNeg (r10)) 0) = 45) → (((swE.getD (Int32.toNatClampNeg (r10)) 0) = 46) → wp_Nd_pop g (fun (r20 : Int32) (S19 : StC) => (∃ (mc21 : Nat) (ms22 : Nat), (0 + mc21 ≤ mc) ∧ (0 + ms22 ≤ ms) ∧ (wp_Rd_makeNumberWord g (fun S23 : StC => (post (0) S23)) mc21 ms22 S19 (a1) (r20)))) S9 ) ∧ (¬ ((swE.getD (Int32.toNatClampNeg (r10)) 0) = 46) → ∃ (mc24 : Nat) (ms25 : Nat), (0 + mc24 ≤ mc) ∧ (0 + ms25 ≤ ms) ∧ (wp_Co_begin g (fun S26 : StC => (post (0) S26)) mc24 ms25 S9 (a1))))))) S4 (a0))) ∧ (¬ (r5 = 0) → post (3) S4))) S ) ∧ (¬ ((takE.getD i1 0) ≤ (S.1 8)) → post (2) S))
set_option maxRecDepth 100000 in
set_option maxHeartbeats 4000000 in
theorem c_Rd_makeWord (l : Launch) (g : Gm) (sz : Nat) (S : StC) (a0 : Nat) (a1 : Nat) (post : Int32 → StC → Prop) (mc ms : Nat) (hw : wp_Rd_makeWord g post mc ms S a0 a1) : Met l y_Rd_makeWord (.code y_Rd_makeWord b_Rd_makeWord 4 (some .int) :: w_C) (rmA 3 64 mc ms) (va_Pc [.ref (g.2.2 2), .ref (a0), .ref (a1)] (PC g sz S)) (va_Qi post (BC g (AC g sz S)) (AC g sz S)) mc ms (AC g sz S) := by
  refine ofA_i (by decide) (Nat.le_of_ble_eq_true rfl) (fun p e s m args below meth c Q A H locs ls hx hb hml hts hown hK hA hC hN hmn kr hl hP hD hS => ?_)
  have hl : lv_has ls 4 [(0, .ref (g.2.2 2)), (1, .ref (a0)), (2, .ref (a1))] := hl
  unfold wp_Rd_makeWord at hw
  have hcm : 0 ≤ mc := Nat.zero_le _
  have hzm : 0 ≤ ms := Nat.zero_le _
  refine lv_aload_n hx hb d_Rd_makeWord_0 rfl (lv_at hl 0 rfl) ?_
  refine va_get (D := g.1) (ci := 4) (v := .ref (g.2.2 3)) (C := R_Rd) (T := F_Rd) (N := 6) hx hb hts hin_Rd hown hK hP 2 rfl rfl 0 (by decide) (hts _ k_C_127) (fun _ h9 => h9) rfl d_Rd_makeWord_1 ?_
  refine va_getN (D := g.1) (ci := 5) (v := .ref (g.2.2 8)) (C := R_Ma) (T := F_Ma) (N := 9) hx hb hts hin_Ma hown hK hP 3 rfl rfl 2 (by decide) (va_Nw.use rfl (hN.1 _ kn_C_19)) (fun _ h9 => h9) rfl d_Rd_makeWord_4 ?_
  refine lv_astore_n (lv' := [(3, .ref (g.2.2 8)), (0, .ref (g.2.2 2)), (1, .ref (a0)), (2, .ref (a1))]) hx hb d_Rd_makeWord_7 rfl hl (by decide) rfl (fun ls hl => ?_)
  refine lv_aload_n hx hb d_Rd_makeWord_8 rfl (lv_at hl 1 rfl) ?_
  refine va_get (D := g.1) (ci := 4) (v := .ref (g.2.2 3)) (C := R_Rd) (T := F_Rd) (N := 6) hx hb hts hin_Rd hown hK hP 2 rfl rfl 0 (by decide) (hts _ k_C_127) (fun _ h9 => h9) rfl d_Rd_makeWord_9 ?_
  refine va_getN (D := g.1) (ci := 5) (v := .ref (g.2.2 4)) (C := R_Ma) (T := F_Ma) (N := 9) hx hb hts hin_Ma hown hK hP 3 rfl rfl 0 (by decide) (va_Nw.use rfl (hN.1 _ kn_C_16)) (fun _ h9 => h9) rfl d_Rd_makeWord_12 ?_
  refine va_getN (D := g.1) (ci := 6) (v := .int ((S.1 8))) (C := R_N) (T := F_N) (N := 2) hx hb hts hin_N hown hK hP 4 rfl rfl 1 (by decide) (va_Nw.use rfl (hN.1 _ kn_C_4)) (fun _ h9 => h9) rfl d_Rd_makeWord_15 ?_
  refine lv_aload_n hx hb d_Rd_makeWord_18 rfl (lv_at hl 2 rfl) ?_
  obtain ⟨i1, hi2, he3, hw⟩ := hw
  refine ge_C (i := i1) (q := fe_takes) hx hb hts hC hS hown he3 hi2 fe_takes_in k_C_774 d_Rd_makeWord_19 ?_
  refine lv_icmp_ge hx hb d_Rd_makeWord_22 (tgt := 27) (by decide) (fun hc => ?_) (fun hc => ?_)
  · have hw := hw.1 hc
    refine lv_aload_n hx hb d_Rd_makeWord_27 rfl (lv_at hl 1 rfl) ?_
    refine va_get (D := g.1) (ci := 4) (v := .ref (g.2.2 3)) (C := R_Rd) (T := F_Rd) (N := 6) hx hb hts hin_Rd hown hK hP 2 rfl rfl 0 (by decide) (hts _ k_C_127) (fun _ h9 => h9) rfl d_Rd_makeWord_28 ?_
    refine va_getN (D := g.1) (ci := 5) (v := .ref (g.2.2 13)) (C := R_Ma) (T := F_Ma) (N := 9) hx hb hts hin_Ma hown hK hP 3 rfl rfl 3 (by decide) (va_Nw.use rfl (hN.1 _ kn_C_21)) (fun _ h9 => h9) rfl d_Rd_makeWord_31 ?_
    refine cC_iV (As := []) (rest := []) hx hb hml hown hts hK hC hN hP hD hS hA hcm hzm hl.1 (va_recv (q0 := 13) (ci := 8) (q := (R_Di, F_Di, 2)) hK hP rfl rfl) (qC_83 hts ⟨Nat.le_of_ble_eq_true rfl, Nat.le_of_ble_eq_true rfl⟩) (c_Di_isFull l g H.size _  _ hw) rfl rfl (Nat.le_of_ble_eq_true rfl) d_Rd_makeWord_34 (fun r5 S4 H locs hw hP hD hS => ?_)
    refine lv_if_eq hx hb d_Rd_makeWord_37 (tgt := 42) (by decide) (fun hc => ?_) (fun hc => ?_)
    · have hw := hw.1 hc
      refine va_gets (C := "WordSmith$1") (n := "$SwitchMap$WordSmith$BuiltIn") (d := "[I") (v := .ref (g.2.2 90)) hx hb hC.1.2.1 hS hown (hts _ k_C_478) (fun _ h9 => h9) d_Rd_makeWord_42 ?_
      refine lv_aload_n hx hb d_Rd_makeWord_45 rfl (lv_at hl 2 rfl) ?_
      obtain ⟨i6, hi7, he8, hw⟩ := hw
      refine cC_iU (As := []) (rest := [.ref (g.2.2 90)]) hx hb hml hown hts hK hC hN hP hD hS hA hcm hzm hl.1 (erecv_C hC hS he8 hi7) (qC_84 hts ⟨Nat.le_of_ble_eq_true rfl, Nat.le_of_ble_eq_true rfl⟩) (c_En_ordinal l g H.size _ (a0) _ hw) rfl rfl (Nat.le_of_ble_eq_true rfl) d_Rd_makeWord_46 (fun r10 S9 H locs hw hP hD hS => ?_)
      obtain ⟨hi, hw⟩ := hw
      refine va_ti (v := .int (swE.getD (Int32.toNatClampNeg (r10)) 0)) hx hb hC.1.2.2.1 hS hi rfl d_Rd_makeWord_49 ?_
      by_cases hk11 : (swE.getD (Int32.toNatClampNeg (r10)) 0) = 45
      · have hw := hw.1 hk11
        refine lk_in hx hb d_Rd_makeWord_50 hk11 (tgt := 76) (off := 26) (by decide) rfl (by decide) ?_
        refine lv_aload_n hx hb d_Rd_makeWord_76 rfl (lv_at hl 0 rfl) ?_
        refine lv_iconst (v := 1) hx hb d_Rd_makeWord_77 (by decide) ?_
        refine cC_iV (As := [.int (1)]) (rest := []) hx hb hml hown hts hK hC hN hP hD hS hA hcm hzm hl.1 (va_recv (q0 := 8) (ci := 7) (q := (R_Me, F_Me, 6)) hK hP rfl rfl) (qC_85 hts ⟨Nat.le_of_ble_eq_true rfl, Nat.le_of_ble_eq_true rfl⟩) (c_Me_canGrow l g H.size _ (1) _ hw) rfl rfl (Nat.le_of_ble_eq_true rfl) d_Rd_makeWord_78 (fun r13 S12 H locs hw hP hD hS => ?_)
        refine lv_if_ne hx hb d_Rd_makeWord_81 (tgt := 86) (by decide) (fun hc => ?_) (fun hc => ?_)
        · have hw := hw.2 hc
          refine lv_aload_n hx hb d_Rd_makeWord_86 rfl (lv_at hl 1 rfl) ?_
          refine lv_aload_n hx hb d_Rd_makeWord_87 rfl (lv_at hl 3 rfl) ?_
          refine lv_aload_n hx hb d_Rd_makeWord_88 rfl (lv_at hl 0 rfl) ?_
          refine va_getN (D := g.1) (ci := 7) (v := .int ((S12.1 10))) (C := R_Me) (T := F_Me) (N := 6) hx hb hts hin_Me hown hK hP 8 rfl rfl 1 (by decide) (va_Nw.use rfl (hN.1 _ kn_C_7)) (fun _ h9 => h9) rfl d_Rd_makeWord_89 ?_
          obtain ⟨mc14, ms15, hcm, hzm, hw⟩ := hw
          refine cA_vV (As := [.ref (a1), .int ((S12.1 10))]) (rest := []) hx hb hml hown hts hK hC hN hP hD hS hA hcm hzm hl.1 (va_recv (q0 := 2) (ci := 4) (q := (R_Rd, F_Rd, 6)) hK hP rfl rfl) (qA_35 hts ⟨Nat.le_of_ble_eq_true rfl, Nat.le_of_ble_eq_true rfl⟩) (c_Rd_makeNumberWord l g H.size _ (a1) ((S12.1 10)) _ _ _ hw) rfl rfl (Nat.le_of_ble_eq_true rfl) d_Rd_makeWord_92 (fun S16 H locs hw hP hD hS => ?_)
          refine lv_aload_n hx hb d_Rd_makeWord_95 rfl (lv_at hl 0 rfl) ?_
          refine lv_iconst (v := 0) hx hb d_Rd_makeWord_96 (by decide) ?_
          refine cC_vV (As := [.int (0)]) (rest := []) hx hb hml hown hts hK hC hN hP hD hS hA hcm hzm hl.1 (va_recv (q0 := 8) (ci := 7) (q := (R_Me, F_Me, 6)) hK hP rfl rfl) (qC_86 hts ⟨Nat.le_of_ble_eq_true rfl, Nat.le_of_ble_eq_true rfl⟩) (c_Me_append l g H.size _ (0) _ hw) rfl rfl (Nat.le_of_ble_eq_true rfl) d_Rd_makeWord_97 (fun S17 H locs hw hP hD hS => ?_)
          refine lv_iconst (v := 0) hx hb d_Rd_makeWord_100 (by decide) ?_
          exact kr (0) S17 _ _ _ _ _ _ hcm hzm hw hP hD hS d_Rd_makeWord_101
        · have hw := hw.1 hc
          refine lv_iconst (v := 3) hx hb d_Rd_makeWord_84 (by decide) ?_
          exact kr (3) S12 _ _ _ _ _ _ hcm hzm hw hP hD hS d_Rd_makeWord_85
      · have hw := hw.2 hk11
        by_cases hk18 : (swE.getD (Int32.toNatClampNeg (r10)) 0) = 46
        · have hw := hw.1 hk18
          refine lk_in hx hb d_Rd_makeWord_50 hk18 (tgt := 102) (off := 52) (by decide) rfl (by decide) ?_
          refine lv_aload_n hx hb d_Rd_makeWord_102 rfl (lv_at hl 1 rfl) ?_
          refine lv_aload_n hx hb d_Rd_makeWord_103 rfl (lv_at hl 3 rfl) ?_
          refine lv_aload_n hx hb d_Rd_makeWord_104 rfl (lv_at hl 1 rfl) ?_
          refine va_get (D := g.1) (ci := 4) (v := .ref (g.2.2 3)) (C := R_Rd) (T := F_Rd) (N := 6) hx hb hts hin_Rd hown hK hP 2 rfl rfl 0 (by decide) (hts _ k_C_127) (fun _ h9 => h9) rfl d_Rd_makeWord_105 ?_
          refine va_getN (D := g.1) (ci := 5) (v := .ref (g.2.2 4)) (C := R_Ma) (T := F_Ma) (N := 9) hx hb hts hin_Ma hown hK hP 3 rfl rfl 0 (by decide) (va_Nw.use rfl (hN.1 _ kn_C_16)) (fun _ h9 => h9) rfl d_Rd_makeWord_108 ?_
          refine cC_iV (As := []) (rest := [.ref (a1), .ref (g.2.2 2)]) hx hb hml hown hts hK hC hN hP hD hS hA hcm hzm hl.1 (va_recv (q0 := 4) (ci := 6) (q := (R_N, F_N, 2)) hK hP rfl rfl) (qC_87 hts ⟨Nat.le_of_ble_eq_true rfl, Nat.le_of_ble_eq_true rfl⟩) (c_Nd_pop l g H.size _  _ hw) rfl rfl (Nat.le_of_ble_eq_true rfl) d_Rd_makeWord_111 (fun r20 S19 H locs hw hP hD hS => ?_)
          obtain ⟨mc21, ms22, hcm, hzm, hw⟩ := hw
          refine cA_vV (As := [.ref (a1), .int (r20)]) (rest := []) hx hb hml hown hts hK hC hN hP hD hS hA hcm hzm hl.1 (va_recv (q0 := 2) (ci := 4) (q := (R_Rd, F_Rd, 6)) hK hP rfl rfl) (qA_35 hts ⟨Nat.le_of_ble_eq_true rfl, Nat.le_of_ble_eq_true rfl⟩) (c_Rd_makeNumberWord l g H.size _ (a1) (r20) _ _ _ hw) rfl rfl (Nat.le_of_ble_eq_true rfl) d_Rd_makeWord_114 (fun S23 H locs hw hP hD hS => ?_)
          refine lv_iconst (v := 0) hx hb d_Rd_makeWord_117 (by decide) ?_
          exact kr (0) S23 _ _ _ _ _ _ hcm hzm hw hP hD hS d_Rd_makeWord_118
        · have hw := hw.2 hk18
          refine lv_lookup hx hb d_Rd_makeWord_50 (off := 69) (tgt := 119) (by decide) (by rw [show (_ : List (Int × Int)) = (45, _) :: _ from rfl, lv_osw hk11 (by decide)]; rw [show (_ : List (Int × Int)) = (46, _) :: _ from rfl, lv_osw hk18 (by decide)]; rfl) (by decide) ?_
          refine lv_aload_n hx hb d_Rd_makeWord_119 rfl (lv_at hl 1 rfl) ?_
          refine va_get (D := g.1) (ci := 4) (v := .ref (g.2.2 17)) (C := R_Rd) (T := F_Rd) (N := 6) hx hb hts hin_Rd hown hK hP 2 rfl rfl 1 (by decide) (hts _ k_C_128) (fun _ h9 => h9) rfl d_Rd_makeWord_120 ?_
          refine lv_aload_n hx hb d_Rd_makeWord_123 rfl (lv_at hl 3 rfl) ?_
          obtain ⟨mc24, ms25, hcm, hzm, hw⟩ := hw
          refine cA_vV (As := [.ref (a1)]) (rest := []) hx hb hml hown hts hK hC hN hP hD hS hA hcm hzm hl.1 (va_recv (q0 := 17) (ci := 10) (q := (R_Co, F_Co, 4)) hK hP rfl rfl) (qA_36 hts ⟨Nat.le_of_ble_eq_true rfl, Nat.le_of_ble_eq_true rfl⟩) (c_Co_begin l g H.size _ (a1) _ _ _ hw) rfl rfl (Nat.le_of_ble_eq_true rfl) d_Rd_makeWord_124 (fun S26 H locs hw hP hD hS => ?_)
          refine lv_iconst (v := 0) hx hb d_Rd_makeWord_127 (by decide) ?_
          exact kr (0) S26 _ _ _ _ _ _ hcm hzm hw hP hD hS d_Rd_makeWord_128
    · have hw := hw.2 hc
      refine lv_iconst (v := 3) hx hb d_Rd_makeWord_40 (by decide) ?_
      exact kr (3) S4 _ _ _ _ _ _ hcm hzm hw hP hD hS d_Rd_makeWord_41
  · have hw := hw.2 hc
    refine lv_iconst (v := 2) hx hb d_Rd_makeWord_25 (by decide) ?_
    exact kr (2) S _ _ _ _ _ _ hcm hzm hw hP hD hS d_Rd_makeWord_26
theorem d_La_canEncode_0 : decode b_La_canEncode 0 = .ok (.iload_n 0, 1) := by decide +kernel
theorem d_La_canEncode_1 : decode b_La_canEncode 1 = .ok (.sipush 255, 3) := by decide +kernel
theorem d_La_canEncode_4 : decode b_La_canEncode 4 = .ok (.if_icmp .gt 7, 3) := by decide +kernel
theorem d_La_canEncode_7 : decode b_La_canEncode 7 = .ok (.iconst 1, 1) := by decide +kernel
theorem d_La_canEncode_8 : decode b_La_canEncode 8 = .ok (.goto 4, 3) := by decide +kernel
theorem d_La_canEncode_11 : decode b_La_canEncode 11 = .ok (.iconst 0, 1) := by decide +kernel
theorem d_La_canEncode_12 : decode b_La_canEncode 12 = .ok (.ireturn, 1) := by decide +kernel
def wq_La_canEncode_12 (g : Gm) (post : Int32 → StC → Prop) (mc ms : Nat)  (S : StC) (t0 : Int32) (c0 : Nat) (z0 : Nat) : Prop :=
  (narrow .boolean (.int (t0)) = .int (t0)) ∧ (post (t0) S)
def wp_La_canEncode (g : Gm) (post : Int32 → StC → Prop) (mc ms : Nat) (S : StC) (a0 : Int32) : Prop :=
  ((255 < a0) → wq_La_canEncode_12 g post mc ms  S (0) (0) (0)) ∧ (¬ (255 < a0) → wq_La_canEncode_12 g post mc ms  S (1) (0) (0))
set_option maxRecDepth 100000 in
set_option maxHeartbeats 4000000 in
theorem c_La_canEncode (l : Launch) (g : Gm) (sz : Nat) (S : StC) (a0 : Int32) (post : Int32 → StC → Prop) (mc ms : Nat) (hw : wp_La_canEncode g post mc ms S a0) : Met l y_La_canEncode (.code y_La_canEncode b_La_canEncode 1 (some .boolean) :: w_C) (rmA 0 0 mc ms) (va_Pc [.int (a0)] (PC g sz S)) (va_Qi post (BC g (AC g sz S)) (AC g sz S)) mc ms (AC g sz S) := by
  refine ofA_z (by decide) (Nat.le_of_ble_eq_true rfl) (fun p e s m args below meth c Q A H locs ls hx hb hml hts hown hK hA hC hN hmn kr hl hP hD hS => ?_)
  have hl : lv_has ls 1 [(0, .int (a0))] := hl
  unfold wp_La_canEncode at hw
  have hcm : 0 ≤ mc := Nat.zero_le _
  have hzm : 0 ≤ ms := Nat.zero_le _
  have J12 : ∀ (S : StC) (t0 : Int32) (c0 : Nat) (z0 : Nat) (H : Heap) (locs : List Loc) (ls : Array Slot), c0 ≤ mc → z0 ≤ ms → wq_La_canEncode_12 g post mc ms  S t0 c0 z0 → lv_has ls 1 [] → va_P g.1 classes (wC g S) H → va_D A (wC g S) → va_S A s.heap H locs → W p l e (rmA 0 0 mc ms) s m args below meth c H locs c0 z0 Q (F0 m 12 ls [.int (t0)]) := by
    intro S t0 c0 z0 H locs ls hcm hzm hw hl hP hD hS
    unfold wq_La_canEncode_12 at hw
    obtain ⟨hnz, hw⟩ := hw
    exact kr (t0) S _ _ _ _ _ _ hcm hzm hnz hw hP hD hS d_La_canEncode_12
  refine lv_iload_n hx hb d_La_canEncode_0 rfl (lv_at hl 0 rfl) ?_
  refine lv_sipush (v := 255) hx hb d_La_canEncode_1 (by decide) ?_
  refine lv_icmp_gt hx hb d_La_canEncode_4 (tgt := 11) (by decide) (fun hc => ?_) (fun hc => ?_)
  · have hw := hw.1 hc
    refine lv_iconst (v := 0) hx hb d_La_canEncode_11 (by decide) ?_
    exact J12 S (0) (0) (0) _ _ _ hcm hzm hw (lv_sub hl [] rfl) hP hD hS
  · have hw := hw.2 hc
    refine lv_iconst (v := 1) hx hb d_La_canEncode_7 (by decide) ?_
    refine lv_goto hx hb d_La_canEncode_8 (tgt := 12) (by decide) ?_
    exact J12 S (1) (0) (0) _ _ _ hcm hzm hw (lv_sub hl [] rfl) hP hD hS
theorem qA_37 {R : Room} {s : State} {args : Array Value} {mc1 ms1 : Nat} (hts : ∀ w ∈ w_C, w.before args s = true) (hR : (rmA 0 0 mc1 ms1).frames + 1 ≤ R.frames ∧ 8 + (1 + 11) + (rmA 0 0 mc1 ms1).locals ≤ R.locals) : va_CU R s args "java/lang/AbstractStringBuilder" "java/lang/StringBuilder" "java/lang/AbstractStringBuilder" 83 y_AB_isLatin1 y_AB_isLatin1 b_AB_isLatin1 1 (some .boolean) (.code y_AB_isLatin1 b_AB_isLatin1 1 (some .boolean) :: w_C) (rmA 0 0 mc1 ms1) mc1 ms1 0 := va_cwU 0 hts (good_U k_C_189 k_C_191 k_C_192 k_C_190 k_C_1 k_C_193) rfl rfl rfl rfl ⟨by decide +kernel, by decide +kernel, by decide +kernel⟩ hR
theorem qA_38 {R : Room} {s : State} {args : Array Value} {mc1 ms1 : Nat} (hts : ∀ w ∈ w_C, w.before args s = true) (hR : (rmA 0 0 mc1 ms1).frames + 1 ≤ R.frames ∧ 8 + (1 + 11) + (rmA 0 0 mc1 ms1).locals ≤ R.locals) : CallB R s args "java/lang/AbstractStringBuilder" 191 y_La_canEncode b_La_canEncode 1 (some .boolean) (.code y_La_canEncode b_La_canEncode 1 (some .boolean) :: w_C) (rmA 0 0 mc1 ms1) mc1 ms1 1 ∧ (Cond.static y_La_canEncode).before args s = true := ⟨callB_of 1 hts (good_C k_C_196) rfl rfl rfl (hts _ k_C_16) (hts _ k_C_194) ⟨by decide +kernel, by decide +kernel, by decide +kernel⟩ hR, hts _ k_C_195⟩
theorem d_AB_append_0 : decode b_AB_append 0 = .ok (.aload_n 0, 1) := by decide +kernel
theorem d_AB_append_1 : decode b_AB_append 1 = .ok (.aload_n 0, 1) := by decide +kernel
theorem d_AB_append_2 : decode b_AB_append 2 = .ok (.getfield 79, 3) := by decide +kernel
theorem d_AB_append_5 : decode b_AB_append 5 = .ok (.iconst 1, 1) := by decide +kernel
theorem d_AB_append_6 : decode b_AB_append 6 = .ok (.iadd, 1) := by decide +kernel
theorem d_AB_append_7 : decode b_AB_append 7 = .ok (.invokevirtual 100, 3) := by decide +kernel
theorem d_AB_append_10 : decode b_AB_append 10 = .ok (.aload_n 0, 1) := by decide +kernel
theorem d_AB_append_11 : decode b_AB_append 11 = .ok (.invokevirtual 83, 3) := by decide +kernel
theorem d_AB_append_14 : decode b_AB_append 14 = .ok (.ifCond .eq 31, 3) := by decide +kernel
theorem d_AB_append_17 : decode b_AB_append 17 = .ok (.iload_n 1, 1) := by decide +kernel
theorem d_AB_append_18 : decode b_AB_append 18 = .ok (.invokestatic 191, 3) := by decide +kernel
theorem d_AB_append_21 : decode b_AB_append 21 = .ok (.ifCond .eq 24, 3) := by decide +kernel
theorem d_AB_append_24 : decode b_AB_append 24 = .ok (.aload_n 0, 1) := by decide +kernel
theorem d_AB_append_25 : decode b_AB_append 25 = .ok (.getfield 15, 3) := by decide +kernel
theorem d_AB_append_28 : decode b_AB_append 28 = .ok (.aload_n 0, 1) := by decide +kernel
theorem d_AB_append_29 : decode b_AB_append 29 = .ok (.dup, 1) := by decide +kernel
theorem d_AB_append_30 : decode b_AB_append 30 = .ok (.getfield 79, 3) := by decide +kernel
theorem d_AB_append_33 : decode b_AB_append 33 = .ok (.dup_x1, 1) := by decide +kernel
theorem d_AB_append_34 : decode b_AB_append 34 = .ok (.iconst 1, 1) := by decide +kernel
theorem d_AB_append_35 : decode b_AB_append 35 = .ok (.iadd, 1) := by decide +kernel
theorem d_AB_append_36 : decode b_AB_append 36 = .ok (.putfield 79, 3) := by decide +kernel
theorem d_AB_append_39 : decode b_AB_append 39 = .ok (.iload_n 1, 1) := by decide +kernel
theorem d_AB_append_40 : decode b_AB_append 40 = .ok (.i2b, 1) := by decide +kernel
theorem d_AB_append_41 : decode b_AB_append 41 = .ok (.bastore, 1) := by decide +kernel
theorem d_AB_append_42 : decode b_AB_append 42 = .ok (.goto 33, 3) := by decide +kernel
theorem d_AB_append_45 : decode b_AB_append 45 = .ok (.aload_n 0, 1) := by decide +kernel
theorem d_AB_append_46 : decode b_AB_append 46 = .ok (.invokevirtual 83, 3) := by decide +kernel
theorem d_AB_append_49 : decode b_AB_append 49 = .ok (.ifCond .eq 7, 3) := by decide +kernel
theorem d_AB_append_52 : decode b_AB_append 52 = .ok (.aload_n 0, 1) := by decide +kernel
theorem d_AB_append_53 : decode b_AB_append 53 = .ok (.invokevirtual 195, 3) := by decide +kernel
theorem d_AB_append_56 : decode b_AB_append 56 = .ok (.aload_n 0, 1) := by decide +kernel
theorem d_AB_append_57 : decode b_AB_append 57 = .ok (.getfield 15, 3) := by decide +kernel
theorem d_AB_append_60 : decode b_AB_append 60 = .ok (.aload_n 0, 1) := by decide +kernel
theorem d_AB_append_61 : decode b_AB_append 61 = .ok (.dup, 1) := by decide +kernel
theorem d_AB_append_62 : decode b_AB_append 62 = .ok (.getfield 79, 3) := by decide +kernel
theorem d_AB_append_65 : decode b_AB_append 65 = .ok (.dup_x1, 1) := by decide +kernel
theorem d_AB_append_66 : decode b_AB_append 66 = .ok (.iconst 1, 1) := by decide +kernel
theorem d_AB_append_67 : decode b_AB_append 67 = .ok (.iadd, 1) := by decide +kernel
theorem d_AB_append_68 : decode b_AB_append 68 = .ok (.putfield 79, 3) := by decide +kernel
theorem d_AB_append_71 : decode b_AB_append 71 = .ok (.iload_n 1, 1) := by decide +kernel
theorem d_AB_append_72 : decode b_AB_append 72 = .ok (.invokestatic 197, 3) := by decide +kernel
theorem d_AB_append_75 : decode b_AB_append 75 = .ok (.aload_n 0, 1) := by decide +kernel
theorem d_AB_append_76 : decode b_AB_append 76 = .ok (.areturn, 1) := by decide +kernel
def wq_AB_append_75 (g : Gm) (post : Option Nat → StC → Prop) (mc ms : Nat)  (S : StC) (c0 : Nat) (z0 : Nat) : Prop :=
  post (some (g.2.2 1)) S
def wp_AB_append (g : Gm) (post : Option Nat → StC → Prop) (mc ms : Nat) (S : StC) (a0 : Int32) : Prop :=
  ∃ (mc1 : Nat) (ms2 : Nat), (0 + mc1 ≤ mc) ∧ (0 + ms2 ≤ ms) ∧ (wp_AB_ensureCapacityInternal g (fun S3 : StC => (∃ (mc4 : Nat) (ms5 : Nat), ((0 + mc1) + mc4 ≤ mc) ∧ ((0 + ms2) + ms5 ≤ ms) ∧ (wp_AB_isLatin1 g (fun (r7 : Int32) (S6 : StC) => ((¬ (r7 = 0)) ∧ (∃ (mc8 : Nat) (ms9 : Nat), (((0 + mc1) + mc4) + mc8 ≤ mc) ∧ (((0 + ms2) + ms5) + ms9 ≤ ms) ∧ (wp_La_canEncode g (fun (r11 : Int32) (S10 : StC) => ((¬ (r11 = 0)) ∧ (∃ (n12 : Nat) (f13 : Nat → Int32), ((S10.2.2.1 0) ∈ S10.2.2.2.2.2.1) ∧ (S10.2.2.2.2.2.2 (S10.2.2.1 0) = .inl (g.2.1 3, n12, .inl f13)) ∧ (vp_in (S10.1 2) n12) ∧ (wq_AB_append_75 g post mc ms  ((upd S10.1 2 (((S10.1 2) + 1))), S10.2.1, S10.2.2.1, S10.2.2.2.1, S10.2.2.2.2.1, S10.2.2.2.2.2.1, (va_up S10.2.2.2.2.2.2 (S10.2.2.1 0) (.inl (g.2.1 3, n12, .inl (upd f13 (Int32.toNatClampNeg ((S10.1 2))) (vp_nar .byte (((Int32.toInt8 a0).toInt32)))))))) ((((0 + mc1) + mc4) + mc8)) ((((0 + ms2) + ms5) + ms9)))))) mc8 ms9 S6 (a0))))) mc4 ms5 S3 ))) mc1 ms2 S (((S.1 2) + 1)))
set_option maxRecDepth 100000 in
set_option maxHeartbeats 4000000 in
theorem c_AB_append (l : Launch) (g : Gm) (sz : Nat) (S : StC) (a0 : Int32) (post : Option Nat → StC → Prop) (mc ms : Nat) (hw : wp_AB_append g post mc ms S a0) : Met l y_AB_append (.code y_AB_append b_AB_append 2 (some (.object "java/lang/AbstractStringBuilder")) :: w_C) (rmA 4 91 mc ms) (va_Pc [.ref (g.2.2 1), .int (a0)] (PC g sz S)) (va_Qq post (BC g (AC g sz S)) (AC g sz S)) mc ms (AC g sz S) := by
  refine ofA_q (Or.inl ⟨_, rfl⟩) (by decide) (Nat.le_of_ble_eq_true rfl) (fun p e s m args below meth c Q A H locs ls hx hb hml hts hown hK hA hC hN hmn kr hl hP hD hS => ?_)
  have hl : lv_has ls 2 [(0, .ref (g.2.2 1)), (1, .int (a0))] := hl
  unfold wp_AB_append at hw
  have hcm : 0 ≤ mc := Nat.zero_le _
  have hzm : 0 ≤ ms := Nat.zero_le _
  have J75 : ∀ (S : StC) (c0 : Nat) (z0 : Nat) (H : Heap) (locs : List Loc) (ls : Array Slot), c0 ≤ mc → z0 ≤ ms → wq_AB_append_75 g post mc ms  S c0 z0 → lv_has ls 2 [(0, .ref (g.2.2 1))] → va_P g.1 classes (wC g S) H → va_D A (wC g S) → va_S A s.heap H locs → W p l e (rmA 4 91 mc ms) s m args below meth c H locs c0 z0 Q (F0 m 75 ls []) := by
    intro S c0 z0 H locs ls hcm hzm hw hl hP hD hS
    unfold wq_AB_append_75 at hw
    refine lv_aload_n hx hb d_AB_append_75 rfl (lv_at hl 0 rfl) ?_
    exact kr (some (g.2.2 1)) S _ _ _ _ _ _ hcm hzm hw hP hD hS d_AB_append_76
  refine lv_aload_n hx hb d_AB_append_0 rfl (lv_at hl 0 rfl) ?_
  refine lv_aload_n hx hb d_AB_append_1 rfl (lv_at hl 0 rfl) ?_
  refine va_get (D := g.1) (ci := 2) (v := .int ((S.1 2))) (C := R_SB) (T := F_SB) (N := 4) hx hb hts hin_SB hown hK hP 1 rfl rfl 3 (by decide) (hts _ k_C_49) (fun _ h9 => h9) rfl d_AB_append_2 ?_
  refine lv_iconst (v := 1) hx hb d_AB_append_5 (by decide) ?_
  refine lv_iadd hx hb d_AB_append_6 ?_
  obtain ⟨mc1, ms2, hcm, hzm, hw⟩ := hw
  refine cA_vU (As := [.int (((S.1 2) + 1))]) (rest := []) hx hb hml hown hts hK hC hN hP hD hS hA hcm hzm hl.1 (va_recv (q0 := 1) (ci := 2) (q := (R_SB, F_SB, 4)) hK hP rfl rfl) (qA_12 hts ⟨Nat.le_of_ble_eq_true rfl, Nat.le_of_ble_eq_true rfl⟩) (c_AB_ensureCapacityInternal l g H.size _ (((S.1 2) + 1)) _ _ _ hw) rfl rfl (Nat.le_of_ble_eq_true rfl) d_AB_append_7 (fun S3 H locs hw hP hD hS => ?_)
  refine lv_aload_n hx hb d_AB_append_10 rfl (lv_at hl 0 rfl) ?_
  obtain ⟨mc4, ms5, hcm, hzm, hw⟩ := hw
  refine cA_iU (As := []) (rest := []) hx hb hml hown hts hK hC hN hP hD hS hA hcm hzm hl.1 (va_recv (q0 := 1) (ci := 2) (q := (R_SB, F_SB, 4)) hK hP rfl rfl) (qA_37 hts ⟨Nat.le_of_ble_eq_true rfl, Nat.le_of_ble_eq_true rfl⟩) (c_AB_isLatin1 l g H.size _  _ _ _ hw) rfl rfl (Nat.le_of_ble_eq_true rfl) d_AB_append_11 (fun r7 S6 H locs hw hP hD hS => ?_)
  obtain ⟨hc9, hw⟩ := hw
  refine lv_if_eq hx hb d_AB_append_14 (tgt := 45) (by decide) (fun hc => absurd hc hc9) (fun hc => ?_)
  refine lv_iload_n hx hb d_AB_append_17 rfl (lv_at hl 1 rfl) ?_
  obtain ⟨mc8, ms9, hcm, hzm, hw⟩ := hw
  refine cA_iS (As := [.int (a0)]) (rest := []) hx hb hml hown hts hK hC hN hP hD hS hA hcm hzm hl.1  (qA_38 hts ⟨Nat.le_of_ble_eq_true rfl, Nat.le_of_ble_eq_true rfl⟩) (c_La_canEncode l g H.size _ (a0) _ _ _ hw) rfl rfl (Nat.le_of_ble_eq_true rfl) d_AB_append_18 (fun r11 S10 H locs hw hP hD hS => ?_)
  obtain ⟨hc9, hw⟩ := hw
  refine lv_if_eq hx hb d_AB_append_21 (tgt := 45) (by decide) (fun hc => absurd hc hc9) (fun hc => ?_)
  refine lv_aload_n hx hb d_AB_append_24 rfl (lv_at hl 0 rfl) ?_
  refine va_get (D := g.1) (ci := 2) (v := .ref ((S10.2.2.1 0))) (C := R_SB) (T := F_SB) (N := 4) hx hb hts hin_SB hown hK hP 1 rfl rfl 0 (by decide) (hts _ k_C_45) (fun _ h9 => h9) rfl d_AB_append_25 ?_
  refine lv_aload_n hx hb d_AB_append_28 rfl (lv_at hl 0 rfl) ?_
  refine lv_dup hx hb d_AB_append_29 rfl ?_
  refine va_get (D := g.1) (ci := 2) (v := .int ((S10.1 2))) (C := R_SB) (T := F_SB) (N := 4) hx hb hts hin_SB hown hK hP 1 rfl rfl 3 (by decide) (hts _ k_C_49) (fun _ h9 => h9) rfl d_AB_append_30 ?_
  refine lv_dup_x1 hx hb d_AB_append_33 rfl rfl ?_
  refine lv_iconst (v := 1) hx hb d_AB_append_34 (by decide) ?_
  refine lv_iadd hx hb d_AB_append_35 ?_
  refine pt_C (S2 := ((upd S10.1 2 (((S10.1 2) + 1))), S10.2)) (v := .int (((S10.1 2) + 1))) (C := R_SB) (F := F_SB) (N := 4) (ci := 2) hx hb hts hin_SB t_SB t_SB_ok n_SB hown hK hP hD hS 1 rfl rfl 3 (by decide) rfl rfl rfl (Nat.le_of_ble_eq_true rfl) (sI_C_2 g _ _) k_C_49 d_AB_append_36 (fun H locs hP hD hS => ?_)
  refine lv_iload_n hx hb d_AB_append_39 rfl (lv_at hl 1 rfl) ?_
  refine lv_i2b (v := (Int32.toInt8 a0).toInt32) hx hb d_AB_append_40 rfl ?_
  obtain ⟨n12, f13, ha14, hf15, hi16, hw⟩ := hw
  refine pbs_C (S := ((upd S10.1 2 (((S10.1 2) + 1))), S10.2)) hx hb hK hP hD hS ha14 hf15 hi16 d_AB_append_41 (fun H locs hP hD hS => ?_)
  have hP : va_P g.1 classes (wC g ((upd S10.1 2 (((S10.1 2) + 1))), S10.2.1, S10.2.2.1, S10.2.2.2.1, S10.2.2.2.2.1, S10.2.2.2.2.2.1, (va_up S10.2.2.2.2.2.2 (S10.2.2.1 0) (.inl (g.2.1 3, n12, .inl (upd f13 (Int32.toNatClampNeg ((S10.1 2))) (vp_nar .byte (((Int32.toInt8 a0).toInt32))))))))) H := hP
  have hD : va_D A (wC g ((upd S10.1 2 (((S10.1 2) + 1))), S10.2.1, S10.2.2.1, S10.2.2.2.1, S10.2.2.2.2.1, S10.2.2.2.2.2.1, (va_up S10.2.2.2.2.2.2 (S10.2.2.1 0) (.inl (g.2.1 3, n12, .inl (upd f13 (Int32.toNatClampNeg ((S10.1 2))) (vp_nar .byte (((Int32.toInt8 a0).toInt32))))))))) := hD
  refine lv_goto hx hb d_AB_append_42 (tgt := 75) (by decide) ?_
  exact J75 ((upd S10.1 2 (((S10.1 2) + 1))), S10.2.1, S10.2.2.1, S10.2.2.2.1, S10.2.2.2.2.1, S10.2.2.2.2.2.1, (va_up S10.2.2.2.2.2.2 (S10.2.2.1 0) (.inl (g.2.1 3, n12, .inl (upd f13 (Int32.toNatClampNeg ((S10.1 2))) (vp_nar .byte (((Int32.toInt8 a0).toInt32)))))))) ((((0 + mc1) + mc4) + mc8)) ((((0 + ms2) + ms5) + ms9)) _ _ _ hcm hzm hw (lv_sub hl [0] rfl) hP hD hS
theorem qA_39 {R : Room} {s : State} {args : Array Value} {mc1 ms1 : Nat} (hts : ∀ w ∈ w_C, w.before args s = true) (hR : (rmA 4 91 mc1 ms1).frames + 1 ≤ R.frames ∧ 8 + (2 + 11) + (rmA 4 91 mc1 ms1).locals ≤ R.locals) : va_CS R s args "java/lang/StringBuilder" 50 y_AB_append b_AB_append 2 (some (.object "java/lang/AbstractStringBuilder")) (.code y_AB_append b_AB_append 2 (some (.object "java/lang/AbstractStringBuilder")) :: w_C) (rmA 4 91 mc1 ms1) mc1 ms1 1 := va_cwSU 1 hts (good_X k_C_154 k_C_766 k_C_50 k_C_155 k_C_1 k_C_156) rfl rfl rfl ⟨by decide +kernel, by decide +kernel⟩ hR
theorem d_SB_append_0 : decode b_SB_append 0 = .ok (.aload_n 0, 1) := by decide +kernel
theorem d_SB_append_1 : decode b_SB_append 1 = .ok (.iload_n 1, 1) := by decide +kernel
theorem d_SB_append_2 : decode b_SB_append 2 = .ok (.invokespecial 50, 3) := by decide +kernel
theorem d_SB_append_5 : decode b_SB_append 5 = .ok (.pop, 1) := by decide +kernel
theorem d_SB_append_6 : decode b_SB_append 6 = .ok (.aload_n 0, 1) := by decide +kernel
theorem d_SB_append_7 : decode b_SB_append 7 = .ok (.areturn, 1) := by decide +kernel
def wp_SB_append (g : Gm) (post : Option Nat → StC → Prop) (mc ms : Nat) (S : StC) (a0 : Int32) : Prop :=
  ∃ (mc1 : Nat) (ms2 : Nat), (0 + mc1 ≤ mc) ∧ (0 + ms2 ≤ ms) ∧ (wp_AB_append g (fun (r4 : Option Nat) (S3 : StC) => (post (some (g.2.2 1)) S3)) mc1 ms2 S (a0))
set_option maxRecDepth 100000 in
set_option maxHeartbeats 4000000 in
theorem c_SB_append (l : Launch) (g : Gm) (sz : Nat) (S : StC) (a0 : Int32) (post : Option Nat → StC → Prop) (mc ms : Nat) (hw : wp_SB_append g post mc ms S a0) : Met l y_SB_append (.code y_SB_append b_SB_append 2 (some (.object "java/lang/StringBuilder")) :: w_C) (rmA 5 112 mc ms) (va_Pc [.ref (g.2.2 1), .int (a0)] (PC g sz S)) (va_Qq post (BC g (AC g sz S)) (AC g sz S)) mc ms (AC g sz S) := by
  refine ofA_q (Or.inl ⟨_, rfl⟩) (by decide) (Nat.le_of_ble_eq_true rfl) (fun p e s m args below meth c Q A H locs ls hx hb hml hts hown hK hA hC hN hmn kr hl hP hD hS => ?_)
  have hl : lv_has ls 2 [(0, .ref (g.2.2 1)), (1, .int (a0))] := hl
  unfold wp_SB_append at hw
  have hcm : 0 ≤ mc := Nat.zero_le _
  have hzm : 0 ≤ ms := Nat.zero_le _
  refine lv_aload_n hx hb d_SB_append_0 rfl (lv_at hl 0 rfl) ?_
  refine lv_iload_n hx hb d_SB_append_1 rfl (lv_at hl 1 rfl) ?_
  obtain ⟨mc1, ms2, hcm, hzm, hw⟩ := hw
  refine cA_qX (As := [.int (a0)]) (rest := []) hx hb hml hown hts hK hC hN hP hD hS hA hcm hzm hl.1 ((hK.1 2 (R_SB, F_SB, 4) rfl).2) (va_recv (q0 := 1) (ci := 2) (q := (R_SB, F_SB, 4)) hK hP rfl rfl) (qA_39 hts ⟨Nat.le_of_ble_eq_true rfl, Nat.le_of_ble_eq_true rfl⟩) (c_AB_append l g H.size _ (a0) _ _ _ hw) rfl rfl (Nat.le_of_ble_eq_true rfl) d_SB_append_2 (fun r4 S3 H locs hw hP hD hS => ?_)
  refine lv_pop hx hb d_SB_append_5 (rf_cat _) ?_
  refine lv_aload_n hx hb d_SB_append_6 rfl (lv_at hl 0 rfl) ?_
  exact kr (some (g.2.2 1)) S3 _ _ _ _ _ _ hcm hzm hw hP hD hS d_SB_append_7
theorem qC_88 {R : Room} {s : State} {args : Array Value} (hts : ∀ w ∈ w_C, w.before args s = true) (hR : (rmM 0 0).frames + 1 ≤ R.frames ∧ 8 + (2 + 11) + (rmM 0 0).locals ≤ R.locals) : CallB R s args "WordSmith" 27 y_W_byteOf b_W_byteOf 2 (some .int) (.code y_W_byteOf b_W_byteOf 2 (some .int) :: w_C) (rmM 0 0) 0 0 2 ∧ (Cond.static y_W_byteOf).before args s = true := ⟨callB_of 2 hts (good_C k_C_149) rfl rfl rfl (hts _ k_C_0) (hts _ k_C_147) ⟨by decide +kernel, by decide +kernel, by decide +kernel⟩ hR, hts _ k_C_148⟩
theorem qA_40 {R : Room} {s : State} {args : Array Value} {mc1 ms1 : Nat} (hts : ∀ w ∈ w_C, w.before args s = true) (hR : (rmA 5 112 mc1 ms1).frames + 1 ≤ R.frames ∧ 8 + (2 + 11) + (rmA 5 112 mc1 ms1).locals ≤ R.locals) : CallW R s args "WordSmith" R_SB 31 y_SB_append b_SB_append 2 (some (.object "java/lang/StringBuilder")) (.code y_SB_append b_SB_append 2 (some (.object "java/lang/StringBuilder")) :: w_C) (rmA 5 112 mc1 ms1) mc1 ms1 1 := ⟨callB_of 1 hts (good_C k_C_153) rfl rfl rfl (hts _ k_C_2) (hts _ k_C_150) ⟨by decide +kernel, by decide +kernel, by decide +kernel⟩ hR, hts _ k_C_151, hts _ k_C_152⟩
theorem qA_41 {R : Room} {s : State} {args : Array Value} {mc1 ms1 : Nat} (hts : ∀ w ∈ w_C, w.before args s = true) (hR : (rmA 1 20 mc1 ms1).frames + 1 ≤ R.frames ∧ 8 + (1 + 11) + (rmA 1 20 mc1 ms1).locals ≤ R.locals) : CallW R s args "WordSmith" R_SB 23 y_SB_length b_SB_length 1 (some .int) (.code y_SB_length b_SB_length 1 (some .int) :: w_C) (rmA 1 20 mc1 ms1) mc1 ms1 0 := ⟨callB_of 0 hts (good_C k_C_143) rfl rfl rfl (hts _ k_C_2) (hts _ k_C_140) ⟨by decide +kernel, by decide +kernel, by decide +kernel⟩ hR, hts _ k_C_141, hts _ k_C_142⟩
theorem d_W_type_0 : decode b_W_type 0 = .ok (.iload_n 2, 1) := by decide +kernel
theorem d_W_type_1 : decode b_W_type 1 = .ok (.iconst 1, 1) := by decide +kernel
theorem d_W_type_2 : decode b_W_type 2 = .ok (.if_icmp .lt 22, 3) := by decide +kernel
theorem d_W_type_5 : decode b_W_type 5 = .ok (.iload_n 2, 1) := by decide +kernel
theorem d_W_type_6 : decode b_W_type 6 = .ok (.iconst 4, 1) := by decide +kernel
theorem d_W_type_7 : decode b_W_type 7 = .ok (.if_icmp .gt 17, 3) := by decide +kernel
theorem d_W_type_10 : decode b_W_type 10 = .ok (.aload_n 0, 1) := by decide +kernel
theorem d_W_type_11 : decode b_W_type 11 = .ok (.getfield 10, 3) := by decide +kernel
theorem d_W_type_14 : decode b_W_type 14 = .ok (.invokevirtual 23, 3) := by decide +kernel
theorem d_W_type_17 : decode b_W_type 17 = .ok (.iload_n 2, 1) := by decide +kernel
theorem d_W_type_18 : decode b_W_type 18 = .ok (.iadd, 1) := by decide +kernel
theorem d_W_type_19 : decode b_W_type 19 = .ok (.bipush 120, 2) := by decide +kernel
theorem d_W_type_21 : decode b_W_type 21 = .ok (.if_icmp .le 5, 3) := by decide +kernel
theorem d_W_type_24 : decode b_W_type 24 = .ok (.iconst 0, 1) := by decide +kernel
theorem d_W_type_25 : decode b_W_type 25 = .ok (.ireturn, 1) := by decide +kernel
theorem d_W_type_26 : decode b_W_type 26 = .ok (.iload_n 2, 1) := by decide +kernel
theorem d_W_type_27 : decode b_W_type 27 = .ok (.iconst 1, 1) := by decide +kernel
theorem d_W_type_28 : decode b_W_type 28 = .ok (.isub, 1) := by decide +kernel
theorem d_W_type_29 : decode b_W_type 29 = .ok (.istore_n 3, 1) := by decide +kernel
theorem d_W_type_30 : decode b_W_type 30 = .ok (.iload_n 3, 1) := by decide +kernel
theorem d_W_type_31 : decode b_W_type 31 = .ok (.ifCond .lt 32, 3) := by decide +kernel
theorem d_W_type_34 : decode b_W_type 34 = .ok (.iload_n 1, 1) := by decide +kernel
theorem d_W_type_35 : decode b_W_type 35 = .ok (.iload_n 3, 1) := by decide +kernel
theorem d_W_type_36 : decode b_W_type 36 = .ok (.invokestatic 27, 3) := by decide +kernel
theorem d_W_type_39 : decode b_W_type 39 = .ok (.istore 4, 2) := by decide +kernel
theorem d_W_type_41 : decode b_W_type 41 = .ok (.iload 4, 2) := by decide +kernel
theorem d_W_type_43 : decode b_W_type 43 = .ok (.bipush 32, 2) := by decide +kernel
theorem d_W_type_45 : decode b_W_type 45 = .ok (.if_icmp .lt 10, 3) := by decide +kernel
theorem d_W_type_48 : decode b_W_type 48 = .ok (.iload 4, 2) := by decide +kernel
theorem d_W_type_50 : decode b_W_type 50 = .ok (.bipush 126, 2) := by decide +kernel
theorem d_W_type_52 : decode b_W_type 52 = .ok (.if_icmp .le 5, 3) := by decide +kernel
theorem d_W_type_55 : decode b_W_type 55 = .ok (.iconst 0, 1) := by decide +kernel
theorem d_W_type_56 : decode b_W_type 56 = .ok (.ireturn, 1) := by decide +kernel
theorem d_W_type_57 : decode b_W_type 57 = .ok (.iinc 3 (-1), 3) := by decide +kernel
theorem d_W_type_60 : decode b_W_type 60 = .ok (.goto (-30), 3) := by decide +kernel
theorem d_W_type_63 : decode b_W_type 63 = .ok (.iload_n 2, 1) := by decide +kernel
theorem d_W_type_64 : decode b_W_type 64 = .ok (.iconst 1, 1) := by decide +kernel
theorem d_W_type_65 : decode b_W_type 65 = .ok (.isub, 1) := by decide +kernel
theorem d_W_type_66 : decode b_W_type 66 = .ok (.istore_n 3, 1) := by decide +kernel
theorem d_W_type_67 : decode b_W_type 67 = .ok (.iload_n 3, 1) := by decide +kernel
theorem d_W_type_68 : decode b_W_type 68 = .ok (.ifCond .lt 23, 3) := by decide +kernel
theorem d_W_type_71 : decode b_W_type 71 = .ok (.aload_n 0, 1) := by decide +kernel
theorem d_W_type_72 : decode b_W_type 72 = .ok (.getfield 10, 3) := by decide +kernel
theorem d_W_type_75 : decode b_W_type 75 = .ok (.iload_n 1, 1) := by decide +kernel
theorem d_W_type_76 : decode b_W_type 76 = .ok (.iload_n 3, 1) := by decide +kernel
theorem d_W_type_77 : decode b_W_type 77 = .ok (.invokestatic 27, 3) := by decide +kernel
theorem d_W_type_80 : decode b_W_type 80 = .ok (.i2c, 1) := by decide +kernel
theorem d_W_type_81 : decode b_W_type 81 = .ok (.invokevirtual 31, 3) := by decide +kernel
theorem d_W_type_84 : decode b_W_type 84 = .ok (.pop, 1) := by decide +kernel
theorem d_W_type_85 : decode b_W_type 85 = .ok (.iinc 3 (-1), 3) := by decide +kernel
theorem d_W_type_88 : decode b_W_type 88 = .ok (.goto (-21), 3) := by decide +kernel
theorem d_W_type_91 : decode b_W_type 91 = .ok (.iconst 1, 1) := by decide +kernel
theorem d_W_type_92 : decode b_W_type 92 = .ok (.ireturn, 1) := by decide +kernel
def wq_W_type_67 (g : Gm) (post : Int32 → StC → Prop) (mc ms : Nat)  : Nat → StC → Int32 → Int32 → Nat → Nat → Prop
  | 0, _, _, _, _, _ => False
  | n67 + 1, S, x1, x3, c0, z0 =>
    ((x3 < 0) → post (1) S) ∧ (¬ (x3 < 0) → wp_W_byteOf g (fun (r2 : Int32) (S1 : StC) => (∃ (mc3 : Nat) (ms4 : Nat), (c0 + mc3 ≤ mc) ∧ (z0 + ms4 ≤ ms) ∧ (wp_SB_append g (fun (r6 : Option Nat) (S5 : StC) => ((wq_W_type_67 g post mc ms  n67) S5 (x1) ((x3 + (-1))) ((c0 + mc3)) ((z0 + ms4)))) mc3 ms4 S1 ((((Int32.toUInt32 r2) % 65536).toInt32))))) S (x1) (x3))
def wq_W_type_55 (g : Gm) (post : Int32 → StC → Prop) (mc ms : Nat) (k30 : StC → Int32 → Int32 → Int32 → Nat → Nat → Prop) (S : StC) (c0 : Nat) (z0 : Nat) : Prop :=
  post (0) S
def wq_W_type_30 (g : Gm) (post : Int32 → StC → Prop) (mc ms : Nat)  : Nat → StC → Int32 → Int32 → Int32 → Nat → Nat → Prop
  | 0, _, _, _, _, _, _ => False
  | n30 + 1, S, x1, x2, x3, c0, z0 =>
    ((x3 < 0) → ∃ nn : Nat, wq_W_type_67 g post mc ms  nn S (x1) ((x2 - 1)) (c0) (z0)) ∧ (¬ (x3 < 0) → wp_W_byteOf g (fun (r8 : Int32) (S7 : StC) => (((r8 < 32) → wq_W_type_55 g post mc ms (wq_W_type_30 g post mc ms  n30) S7 (c0) (z0)) ∧ (¬ (r8 < 32) → ((r8 ≤ 126) → (wq_W_type_30 g post mc ms  n30) S7 (x1) (x2) ((x3 + (-1))) (c0) (z0)) ∧ (¬ (r8 ≤ 126) → wq_W_type_55 g post mc ms (wq_W_type_30 g post mc ms  n30) S7 (c0) (z0))))) S (x1) (x3))
def wq_W_type_24 (g : Gm) (post : Int32 → StC → Prop) (mc ms : Nat)  (S : StC) (c0 : Nat) (z0 : Nat) : Prop :=
  post (0) S
def wp_W_type (g : Gm) (post : Int32 → StC → Prop) (mc ms : Nat) (S : StC) (a0 : Int32) (a1 : Int32) : Prop :=
  ((a1 < 1) → wq_W_type_24 g post mc ms  S (0) (0)) ∧ (¬ (a1 < 1) → ((4 < a1) → wq_W_type_24 g post mc ms  S (0) (0)) ∧ (¬ (4 < a1) → ∃ (mc9 : Nat) (ms10 : Nat), (0 + mc9 ≤ mc) ∧ (0 + ms10 ≤ ms) ∧ (wp_SB_length g (fun (r12 : Int32) (S11 : StC) => ((((r12 + a1) ≤ 120) → ∃ nn : Nat, wq_W_type_30 g post mc ms  nn S11 (a0) (a1) ((a1 - 1)) ((0 + mc9)) ((0 + ms10))) ∧ (¬ ((r12 + a1) ≤ 120) → wq_W_type_24 g post mc ms  S11 ((0 + mc9)) ((0 + ms10))))) mc9 ms10 S )))
set_option maxRecDepth 100000 in
set_option maxHeartbeats 4000000 in
theorem c_W_type (l : Launch) (g : Gm) (sz : Nat) (S : StC) (a0 : Int32) (a1 : Int32) (post : Int32 → StC → Prop) (mc ms : Nat) (hw : wp_W_type g post mc ms S a0 a1) : Met l y_W_type (.code y_W_type b_W_type 5 (some .boolean) :: w_C) (rmA 6 133 mc ms) (va_Pc [.ref (g.2.2 0), .int (a0), .int (a1)] (PC g sz S)) (va_Qi post (BC g (AC g sz S)) (AC g sz S)) mc ms (AC g sz S) := by
  refine ofA_z (by decide) (Nat.le_of_ble_eq_true rfl) (fun p e s m args below meth c Q A H locs ls hx hb hml hts hown hK hA hC hN hmn kr hl hP hD hS => ?_)
  have hl : lv_has ls 5 [(0, .ref (g.2.2 0)), (1, .int (a0)), (2, .int (a1))] := hl
  unfold wp_W_type at hw
  have hcm : 0 ≤ mc := Nat.zero_le _
  have hzm : 0 ≤ ms := Nat.zero_le _
  have J67 : ∀ (n67 : Nat), ∀ (S : StC) (x1 : Int32) (x3 : Int32) (c0 : Nat) (z0 : Nat) (H : Heap) (locs : List Loc) (ls : Array Slot), c0 ≤ mc → z0 ≤ ms → wq_W_type_67 g post mc ms  n67 S x1 x3 c0 z0 → lv_has ls 5 [(0, .ref (g.2.2 0)), (1, .int (x1)), (3, .int (x3))] → va_P g.1 classes (wC g S) H → va_D A (wC g S) → va_S A s.heap H locs → W p l e (rmA 6 133 mc ms) s m args below meth c H locs c0 z0 Q (F0 m 67 ls []) := by
    intro n67
    induction n67 with
    | zero => intro S x1 x3 c0 z0 H locs ls hcm hzm hw; exact hw.elim
    | succ n67 ih67 =>
      intro S x1 x3 c0 z0 H locs ls hcm hzm hw hl hP hD hS
      unfold wq_W_type_67 at hw
      refine lv_iload_n hx hb d_W_type_67 rfl (lv_at hl 2 rfl) ?_
      refine lv_if_lt hx hb d_W_type_68 (tgt := 91) (by decide) (fun hc => ?_) (fun hc => ?_)
      · have hw := hw.1 hc
        refine lv_iconst (v := 1) hx hb d_W_type_91 (by decide) ?_
        exact kr (1) S _ _ _ _ _ _ hcm hzm rfl hw hP hD hS d_W_type_92
      · have hw := hw.2 hc
        refine lv_aload_n hx hb d_W_type_71 rfl (lv_at hl 0 rfl) ?_
        refine va_get (D := g.1) (ci := 1) (v := .ref (g.2.2 1)) (C := R_W) (T := F_W) (N := 2) hx hb hts hin_W hown hK hP 0 rfl rfl 0 (by decide) (hts _ k_C_134) (fun _ h9 => h9) rfl d_W_type_72 ?_
        refine lv_iload_n hx hb d_W_type_75 rfl (lv_at hl 1 rfl) ?_
        refine lv_iload_n hx hb d_W_type_76 rfl (lv_at hl 2 rfl) ?_
        refine cC_iS (As := [.int (x1), .int (x3)]) (rest := [.ref (g.2.2 1)]) hx hb hml hown hts hK hC hN hP hD hS hA hcm hzm hl.1  (qC_88 hts ⟨Nat.le_of_ble_eq_true rfl, Nat.le_of_ble_eq_true rfl⟩) (c_W_byteOf l g H.size _ (x1) (x3) _ hw) rfl rfl (Nat.le_of_ble_eq_true rfl) d_W_type_77 (fun r2 S1 H locs hw hP hD hS => ?_)
        refine lv_i2c (v := ((Int32.toUInt32 r2) % 65536).toInt32) hx hb d_W_type_80 rfl ?_
        obtain ⟨mc3, ms4, hcm, hzm, hw⟩ := hw
        refine cA_qV (As := [.int ((((Int32.toUInt32 r2) % 65536).toInt32))]) (rest := []) hx hb hml hown hts hK hC hN hP hD hS hA hcm hzm hl.1 (va_recv (q0 := 1) (ci := 2) (q := (R_SB, F_SB, 4)) hK hP rfl rfl) (qA_40 hts ⟨Nat.le_of_ble_eq_true rfl, Nat.le_of_ble_eq_true rfl⟩) (c_SB_append l g H.size _ ((((Int32.toUInt32 r2) % 65536).toInt32)) _ _ _ hw) rfl rfl (Nat.le_of_ble_eq_true rfl) d_W_type_81 (fun r6 S5 H locs hw hP hD hS => ?_)
        refine lv_pop hx hb d_W_type_84 (rf_cat _) ?_
        refine lv_iinc (k := 2) (v := (x3 + (-1))) (lv' := [(3, .int ((x3 + (-1)))), (0, .ref (g.2.2 0)), (1, .int (x1))]) hx hb d_W_type_85 hl rfl rfl (by decide) rfl (fun ls hl => ?_)
        refine lv_goto hx hb d_W_type_88 (tgt := 67) (by decide) ?_
        exact ih67 S5 (x1) ((x3 + (-1))) ((c0 + mc3)) ((z0 + ms4)) _ _ _ hcm hzm hw (lv_sub hl [1, 2, 0] rfl) hP hD hS
  have J30 : ∀ (n30 : Nat), ∀ (S : StC) (x1 : Int32) (x2 : Int32) (x3 : Int32) (c0 : Nat) (z0 : Nat) (H : Heap) (locs : List Loc) (ls : Array Slot), c0 ≤ mc → z0 ≤ ms → wq_W_type_30 g post mc ms  n30 S x1 x2 x3 c0 z0 → lv_has ls 5 [(0, .ref (g.2.2 0)), (1, .int (x1)), (2, .int (x2)), (3, .int (x3))] → va_P g.1 classes (wC g S) H → va_D A (wC g S) → va_S A s.heap H locs → W p l e (rmA 6 133 mc ms) s m args below meth c H locs c0 z0 Q (F0 m 30 ls []) := by
    intro n30
    induction n30 with
    | zero => intro S x1 x2 x3 c0 z0 H locs ls hcm hzm hw; exact hw.elim
    | succ n30 ih30 =>
      have J55 : ∀ (S : StC) (c0 : Nat) (z0 : Nat) (H : Heap) (locs : List Loc) (ls : Array Slot), c0 ≤ mc → z0 ≤ ms → wq_W_type_55 g post mc ms (wq_W_type_30 g post mc ms  n30) S c0 z0 → lv_has ls 5 [] → va_P g.1 classes (wC g S) H → va_D A (wC g S) → va_S A s.heap H locs → W p l e (rmA 6 133 mc ms) s m args below meth c H locs c0 z0 Q (F0 m 55 ls []) := by
        intro S c0 z0 H locs ls hcm hzm hw hl hP hD hS
        unfold wq_W_type_55 at hw
        refine lv_iconst (v := 0) hx hb d_W_type_55 (by decide) ?_
        exact kr (0) S _ _ _ _ _ _ hcm hzm rfl hw hP hD hS d_W_type_56
      intro S x1 x2 x3 c0 z0 H locs ls hcm hzm hw hl hP hD hS
      unfold wq_W_type_30 at hw
      refine lv_iload_n hx hb d_W_type_30 rfl (lv_at hl 3 rfl) ?_
      refine lv_if_lt hx hb d_W_type_31 (tgt := 63) (by decide) (fun hc => ?_) (fun hc => ?_)
      · have hw := hw.1 hc
        refine lv_iload_n hx hb d_W_type_63 rfl (lv_at hl 2 rfl) ?_
        refine lv_iconst (v := 1) hx hb d_W_type_64 (by decide) ?_
        refine lv_isub hx hb d_W_type_65 ?_
        refine lv_istore_n (lv' := [(3, .int ((x2 - 1))), (0, .ref (g.2.2 0)), (1, .int (x1)), (2, .int (x2))]) hx hb d_W_type_66 rfl hl (by decide) rfl (fun ls hl => ?_)
        obtain ⟨nn, hw⟩ := hw
        exact J67 nn S (x1) ((x2 - 1)) (c0) (z0) _ _ _ hcm hzm hw (lv_sub hl [1, 2, 0] rfl) hP hD hS
      · have hw := hw.2 hc
        refine lv_iload_n hx hb d_W_type_34 rfl (lv_at hl 1 rfl) ?_
        refine lv_iload_n hx hb d_W_type_35 rfl (lv_at hl 3 rfl) ?_
        refine cC_iS (As := [.int (x1), .int (x3)]) (rest := []) hx hb hml hown hts hK hC hN hP hD hS hA hcm hzm hl.1  (qC_88 hts ⟨Nat.le_of_ble_eq_true rfl, Nat.le_of_ble_eq_true rfl⟩) (c_W_byteOf l g H.size _ (x1) (x3) _ hw) rfl rfl (Nat.le_of_ble_eq_true rfl) d_W_type_36 (fun r8 S7 H locs hw hP hD hS => ?_)
        refine lv_istore (lv' := [(4, .int (r8)), (0, .ref (g.2.2 0)), (1, .int (x1)), (2, .int (x2)), (3, .int (x3))]) hx hb d_W_type_39 hl (by decide) rfl (fun ls hl => ?_)
        refine lv_iload hx hb d_W_type_41 (lv_at hl 0 rfl) ?_
        refine lv_bipush (v := 32) hx hb d_W_type_43 (by decide) ?_
        refine lv_icmp_lt hx hb d_W_type_45 (tgt := 55) (by decide) (fun hc => ?_) (fun hc => ?_)
        · have hw := hw.1 hc
          exact J55 S7 (c0) (z0) _ _ _ hcm hzm hw (lv_sub hl [] rfl) hP hD hS
        · have hw := hw.2 hc
          refine lv_iload hx hb d_W_type_48 (lv_at hl 0 rfl) ?_
          refine lv_bipush (v := 126) hx hb d_W_type_50 (by decide) ?_
          refine lv_icmp_le hx hb d_W_type_52 (tgt := 57) (by decide) (fun hc => ?_) (fun hc => ?_)
          · have hw := hw.1 hc
            refine lv_iinc (k := 4) (v := (x3 + (-1))) (lv' := [(3, .int ((x3 + (-1)))), (4, .int (r8)), (0, .ref (g.2.2 0)), (1, .int (x1)), (2, .int (x2))]) hx hb d_W_type_57 hl rfl rfl (by decide) rfl (fun ls hl => ?_)
            refine lv_goto hx hb d_W_type_60 (tgt := 30) (by decide) ?_
            exact ih30 S7 (x1) (x2) ((x3 + (-1))) (c0) (z0) _ _ _ hcm hzm hw (lv_sub hl [2, 3, 4, 0] rfl) hP hD hS
          · have hw := hw.2 hc
            exact J55 S7 (c0) (z0) _ _ _ hcm hzm hw (lv_sub hl [] rfl) hP hD hS
  have J24 : ∀ (S : StC) (c0 : Nat) (z0 : Nat) (H : Heap) (locs : List Loc) (ls : Array Slot), c0 ≤ mc → z0 ≤ ms → wq_W_type_24 g post mc ms  S c0 z0 → lv_has ls 5 [] → va_P g.1 classes (wC g S) H → va_D A (wC g S) → va_S A s.heap H locs → W p l e (rmA 6 133 mc ms) s m args below meth c H locs c0 z0 Q (F0 m 24 ls []) := by
    intro S c0 z0 H locs ls hcm hzm hw hl hP hD hS
    unfold wq_W_type_24 at hw
    refine lv_iconst (v := 0) hx hb d_W_type_24 (by decide) ?_
    exact kr (0) S _ _ _ _ _ _ hcm hzm rfl hw hP hD hS d_W_type_25
  refine lv_iload_n hx hb d_W_type_0 rfl (lv_at hl 2 rfl) ?_
  refine lv_iconst (v := 1) hx hb d_W_type_1 (by decide) ?_
  refine lv_icmp_lt hx hb d_W_type_2 (tgt := 24) (by decide) (fun hc => ?_) (fun hc => ?_)
  · have hw := hw.1 hc
    exact J24 S (0) (0) _ _ _ hcm hzm hw (lv_sub hl [] rfl) hP hD hS
  · have hw := hw.2 hc
    refine lv_iload_n hx hb d_W_type_5 rfl (lv_at hl 2 rfl) ?_
    refine lv_iconst (v := 4) hx hb d_W_type_6 (by decide) ?_
    refine lv_icmp_gt hx hb d_W_type_7 (tgt := 24) (by decide) (fun hc => ?_) (fun hc => ?_)
    · have hw := hw.1 hc
      exact J24 S (0) (0) _ _ _ hcm hzm hw (lv_sub hl [] rfl) hP hD hS
    · have hw := hw.2 hc
      refine lv_aload_n hx hb d_W_type_10 rfl (lv_at hl 0 rfl) ?_
      refine va_get (D := g.1) (ci := 1) (v := .ref (g.2.2 1)) (C := R_W) (T := F_W) (N := 2) hx hb hts hin_W hown hK hP 0 rfl rfl 0 (by decide) (hts _ k_C_134) (fun _ h9 => h9) rfl d_W_type_11 ?_
      obtain ⟨mc9, ms10, hcm, hzm, hw⟩ := hw
      refine cA_iV (As := []) (rest := []) hx hb hml hown hts hK hC hN hP hD hS hA hcm hzm hl.1 (va_recv (q0 := 1) (ci := 2) (q := (R_SB, F_SB, 4)) hK hP rfl rfl) (qA_41 hts ⟨Nat.le_of_ble_eq_true rfl, Nat.le_of_ble_eq_true rfl⟩) (c_SB_length l g H.size _  _ _ _ hw) rfl rfl (Nat.le_of_ble_eq_true rfl) d_W_type_14 (fun r12 S11 H locs hw hP hD hS => ?_)
      refine lv_iload_n hx hb d_W_type_17 rfl (lv_at hl 2 rfl) ?_
      refine lv_iadd hx hb d_W_type_18 ?_
      refine lv_bipush (v := 120) hx hb d_W_type_19 (by decide) ?_
      refine lv_icmp_le hx hb d_W_type_21 (tgt := 26) (by decide) (fun hc => ?_) (fun hc => ?_)
      · have hw := hw.1 hc
        refine lv_iload_n hx hb d_W_type_26 rfl (lv_at hl 2 rfl) ?_
        refine lv_iconst (v := 1) hx hb d_W_type_27 (by decide) ?_
        refine lv_isub hx hb d_W_type_28 ?_
        refine lv_istore_n (lv' := [(3, .int ((a1 - 1))), (0, .ref (g.2.2 0)), (1, .int (a0)), (2, .int (a1))]) hx hb d_W_type_29 rfl hl (by decide) rfl (fun ls hl => ?_)
        obtain ⟨nn, hw⟩ := hw
        exact J30 nn S11 (a0) (a1) ((a1 - 1)) ((0 + mc9)) ((0 + ms10)) _ _ _ hcm hzm hw (lv_sub hl [1, 2, 3, 0] rfl) hP hD hS
      · have hw := hw.2 hc
        exact J24 S11 ((0 + mc9)) ((0 + ms10)) _ _ _ hcm hzm hw (lv_sub hl [] rfl) hP hD hS
