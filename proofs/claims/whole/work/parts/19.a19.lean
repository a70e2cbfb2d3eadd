theorem qA_24 {R : Room} {s : State} {args : Array Value} {mc1 ms1 : Nat} (hts : ∀ w ∈ w_C, w.before args s = true) (hR : (rmA 3 86 mc1 ms1).frames + 1 ≤ R.frames ∧ 8 + (3 + 11) + (rmA 3 86 mc1 ms1).locals ≤ R.locals) : CallB R s args "java/lang/String" 685 y_La_newString b_La_newString 3 (some (.object "java/lang/String")) (.code y_La_newString b_La_newString 3 (some (.object "java/lang/String")) :: w_C) (rmA 3 86 mc1 ms1) mc1 ms1 3 ∧ (Cond.static y_La_newString).before args s = true := ⟨callB_of 3 hts (good_C k_C_360) rfl rfl rfl (hts _ k_C_16) (hts _ k_C_358) ⟨by decide +kernel, by decide +kernel, by decide +kernel⟩ hR, hts _ k_C_359⟩
theorem qA_25 {R : Room} {s : State} {args : Array Value} {mc1 ms1 : Nat} (hts : ∀ w ∈ w_C, w.before args s = true) (hR : (rmA 1 20 mc1 ms1).frames + 1 ≤ R.frames ∧ 8 + (1 + 11) + (rmA 1 20 mc1 ms1).locals ≤ R.locals) : CallW R s args "java/lang/String" R_St 505 y_St_length b_St_length 1 (some .int) (.code y_St_length b_St_length 1 (some .int) :: w_C) (rmA 1 20 mc1 ms1) mc1 ms1 0 := ⟨callB_of 0 hts (good_C k_C_324) rfl rfl rfl (hts _ k_C_3) (hts _ k_C_351) ⟨by decide +kernel, by decide +kernel, by decide +kernel⟩ hR, hts _ k_C_322, hts _ k_C_323⟩
theorem qA_26 {R : Room} {s : State} {args : Array Value} {mc1 ms1 : Nat} (hts : ∀ w ∈ w_C, w.before args s = true) (hR : (rmA 1 23 mc1 ms1).frames + 1 ≤ R.frames ∧ 8 + (3 + 11) + (rmA 1 23 mc1 ms1).locals ≤ R.locals) : CallB R s args "java/lang/String" 521 y_St_checkBoundsBeginEnd b_St_checkBoundsBeginEnd 3 none (.code y_St_checkBoundsBeginEnd b_St_checkBoundsBeginEnd 3 none :: w_C) (rmA 1 23 mc1 ms1) mc1 ms1 3 ∧ (Cond.static y_St_checkBoundsBeginEnd).before args s = true := ⟨callB_of 3 hts (good_C k_C_354) rfl rfl rfl (hts _ k_C_3) (hts _ k_C_352) ⟨by decide +kernel, by decide +kernel, by decide +kernel⟩ hR, hts _ k_C_353⟩
theorem d_St_substring_0 : decode b_St_substring 0 = .ok (.aload_n 0, 1) := by decide +kernel
theorem d_St_substring_1 : decode b_St_substring 1 = .ok (.invokevirtual 505, 3) := by decide +kernel
theorem d_St_substring_4 : decode b_St_substring 4 = .ok (.istore_n 3, 1) := by decide +kernel
theorem d_St_substring_5 : decode b_St_substring 5 = .ok (.iload_n 1, 1) := by decide +kernel
theorem d_St_substring_6 : decode b_St_substring 6 = .ok (.iload_n 2, 1) := by decide +kernel
theorem d_St_substring_7 : decode b_St_substring 7 = .ok (.iload_n 3, 1) := by decide +kernel
theorem d_St_substring_8 : decode b_St_substring 8 = .ok (.invokestatic 521, 3) := by decide +kernel
theorem d_St_substring_11 : decode b_St_substring 11 = .ok (.iload_n 1, 1) := by decide +kernel
theorem d_St_substring_12 : decode b_St_substring 12 = .ok (.ifCond .ne 10, 3) := by decide +kernel
theorem d_St_substring_15 : decode b_St_substring 15 = .ok (.iload_n 2, 1) := by decide +kernel
theorem d_St_substring_16 : decode b_St_substring 16 = .ok (.iload_n 3, 1) := by decide +kernel
theorem d_St_substring_17 : decode b_St_substring 17 = .ok (.if_icmp .ne 5, 3) := by decide +kernel
theorem d_St_substring_20 : decode b_St_substring 20 = .ok (.aload_n 0, 1) := by decide +kernel
theorem d_St_substring_21 : decode b_St_substring 21 = .ok (.areturn, 1) := by decide +kernel
theorem d_St_substring_22 : decode b_St_substring 22 = .ok (.iload_n 2, 1) := by decide +kernel
theorem d_St_substring_23 : decode b_St_substring 23 = .ok (.iload_n 1, 1) := by decide +kernel
theorem d_St_substring_24 : decode b_St_substring 24 = .ok (.isub, 1) := by decide +kernel
theorem d_St_substring_25 : decode b_St_substring 25 = .ok (.istore 4, 2) := by decide +kernel
theorem d_St_substring_27 : decode b_St_substring 27 = .ok (.aload_n 0, 1) := by decide +kernel
theorem d_St_substring_28 : decode b_St_substring 28 = .ok (.invokevirtual 492, 3) := by decide +kernel
theorem d_St_substring_31 : decode b_St_substring 31 = .ok (.ifCond .eq 16, 3) := by decide +kernel
theorem d_St_substring_34 : decode b_St_substring 34 = .ok (.aload_n 0, 1) := by decide +kernel
theorem d_St_substring_35 : decode b_St_substring 35 = .ok (.getfield 9, 3) := by decide +kernel
theorem d_St_substring_38 : decode b_St_substring 38 = .ok (.iload_n 1, 1) := by decide +kernel
theorem d_St_substring_39 : decode b_St_substring 39 = .ok (.iload 4, 2) := by decide +kernel
theorem d_St_substring_41 : decode b_St_substring 41 = .ok (.invokestatic 685, 3) := by decide +kernel
theorem d_St_substring_44 : decode b_St_substring 44 = .ok (.goto 13, 3) := by decide +kernel
theorem d_St_substring_47 : decode b_St_substring 47 = .ok (.aload_n 0, 1) := by decide +kernel
theorem d_St_substring_48 : decode b_St_substring 48 = .ok (.getfield 9, 3) := by decide +kernel
theorem d_St_substring_51 : decode b_St_substring 51 = .ok (.iload_n 1, 1) := by decide +kernel
theorem d_St_substring_52 : decode b_St_substring 52 = .ok (.iload 4, 2) := by decide +kernel
theorem d_St_substring_54 : decode b_St_substring 54 = .ok (.invokestatic 689, 3) := by decide +kernel
theorem d_St_substring_57 : decode b_St_substring 57 = .ok (.areturn, 1) := by decide +kernel
def wq_St_substring_57 (g : Gm) (post : Option Nat → StC → Prop) (mc ms : Nat)  (S : StC) (t0 : Option Nat) (c0 : Nat) (z0 : Nat) : Prop :=
  post (t0) S
def wq_St_substring_22 (g : Gm) (post : Option Nat → StC → Prop) (mc ms : Nat)  (S : StC) (x0 : Nat) (x1 : Int32) (x2 : Int32) (c0 : Nat) (z0 : Nat) : Prop :=
  (isStr g S (x0)) ∧ (∃ (mc2 : Nat) (ms3 : Nat), (c0 + mc2 ≤ mc) ∧ (z0 + ms3 ≤ ms) ∧ (wp_St_isLatin1 g (fun (r5 : Int32) (S4 : StC) => ((¬ (r5 = 0)) ∧ (∃ (vs6 : List Value) (z10 : Nat), (x0 ∈ S4.2.2.2.2.2.1) ∧ (S4.2.2.2.2.2.2 x0 = .inr (3, vs6)) ∧ (vs6[0]? = some (.ref (z10))) ∧ (∃ (mc11 : Nat) (ms12 : Nat), ((c0 + mc2) + mc11 ≤ mc) ∧ ((z0 + ms3) + ms12 ≤ ms) ∧ (wp_La_newString g (fun (r14 : Option Nat) (S13 : StC) => (wq_St_substring_57 g post mc ms  S13 (r14) (((c0 + mc2) + mc11)) (((z0 + ms3) + ms12)))) mc11 ms12 S4 (z10) (x1) ((x2 - x1))))))) mc2 ms3 S (x0)))
def wp_St_substring (g : Gm) (post : Option Nat → StC → Prop) (mc ms : Nat) (S : StC) (h0 : Nat) (a0 : Int32) (a1 : Int32) : Prop :=
  (isStr g S (h0)) ∧ (∃ (mc16 : Nat) (ms17 : Nat), (0 + mc16 ≤ mc) ∧ (0 + ms17 ≤ ms) ∧ (wp_St_length g (fun (r19 : Int32) (S18 : StC) => (∃ (mc20 : Nat) (ms21 : Nat), ((0 + mc16) + mc20 ≤ mc) ∧ ((0 + ms17) + ms21 ≤ ms) ∧ (wp_St_checkBoundsBeginEnd g (fun S22 : StC => (((a0 = 0) → ((a1 = r19) → post (some (h0)) S22) ∧ (¬ (a1 = r19) → wq_St_substring_22 g post mc ms  S22 (h0) (a0) (a1) (((0 + mc16) + mc20)) (((0 + ms17) + ms21)))) ∧ (¬ (a0 = 0) → wq_St_substring_22 g post mc ms  S22 (h0) (a0) (a1) (((0 + mc16) + mc20)) (((0 + ms17) + ms21))))) mc20 ms21 S18 (a0) (a1) (r19)))) mc16 ms17 S (h0)))
set_option maxRecDepth 100000 in
set_option maxHeartbeats 4000000 in
theorem c_St_substring (l : Launch) (g : Gm) (sz : Nat) (S : StC) (h0 : Nat) (a0 : Int32) (a1 : Int32) (post : Option Nat → StC → Prop) (mc ms : Nat) (hw : wp_St_substring g post mc ms S h0 a0 a1) : Met l y_St_substring (.code y_St_substring b_St_substring 5 (some (.object "java/lang/String")) :: w_C) (rmA 4 108 mc ms) (va_Pc [.ref (h0), .int (a0), .int (a1)] (PC g sz S)) (va_Qq post (BC g (AC g sz S)) (AC g sz S)) mc ms (AC g sz S) := by
  refine ofA_q (Or.inl ⟨_, rfl⟩) (by decide) (Nat.le_of_ble_eq_true rfl) (fun p e s m args below meth c Q A H locs ls hx hb hml hts hown hK hA hC hN hmn kr hl hP hD hS => ?_)
  have hl : lv_has ls 5 [(0, .ref (h0)), (1, .int (a0)), (2, .int (a1))] := hl
  unfold wp_St_substring at hw
  have hcm : 0 ≤ mc := Nat.zero_le _
  have hzm : 0 ≤ ms := Nat.zero_le _
  have J57 : ∀ (S : StC) (t0 : Option Nat) (c0 : Nat) (z0 : Nat) (H : Heap) (locs : List Loc) (ls : Array Slot), c0 ≤ mc → z0 ≤ ms → wq_St_substring_57 g post mc ms  S t0 c0 z0 → lv_has ls 5 [] → va_P g.1 classes (wC g S) H → va_D A (wC g S) → va_S A s.heap H locs → W p l e (rmA 4 108 mc ms) s m args below meth c H locs c0 z0 Q (F0 m 57 ls [va_rf (t0)]) := by
    intro S t0 c0 z0 H locs ls hcm hzm hw hl hP hD hS
    unfold wq_St_substring_57 at hw
    exact kr (t0) S _ _ _ _ _ _ hcm hzm hw hP hD hS d_St_substring_57
  have J22 : ∀ (S : StC) (x0 : Nat) (x1 : Int32) (x2 : Int32) (c0 : Nat) (z0 : Nat) (H : Heap) (locs : List Loc) (ls : Array Slot), c0 ≤ mc → z0 ≤ ms → wq_St_substring_22 g post mc ms  S x0 x1 x2 c0 z0 → lv_has ls 5 [(0, .ref (x0)), (1, .int (x1)), (2, .int (x2))] → va_P g.1 classes (wC g S) H → va_D A (wC g S) → va_S A s.heap H locs → W p l e (rmA 4 108 mc ms) s m args below meth c H locs c0 z0 Q (F0 m 22 ls []) := by
    intro S x0 x1 x2 c0 z0 H locs ls hcm hzm hw hl hP hD hS
    unfold wq_St_substring_22 at hw
    refine lv_iload_n hx hb d_St_substring_22 rfl (lv_at hl 2 rfl) ?_
    refine lv_iload_n hx hb d_St_substring_23 rfl (lv_at hl 1 rfl) ?_
    refine lv_isub hx hb d_St_substring_24 ?_
    refine lv_istore (lv' := [(4, .int ((x2 - x1))), (0, .ref (x0)), (1, .int (x1)), (2, .int (x2))]) hx hb d_St_substring_25 hl (by decide) rfl (fun ls hl => ?_)
    refine lv_aload_n hx hb d_St_substring_27 rfl (lv_at hl 1 rfl) ?_
    obtain ⟨hsr1, hw⟩ := hw
    obtain ⟨mc2, ms3, hcm, hzm, hw⟩ := hw
    refine cA_iV (As := []) (rest := []) hx hb hml hown hts hK hC hN hP hD hS hA hcm hzm hl.1 (strv_C hK hC hP hS hsr1) (qA_17 hts ⟨Nat.le_of_ble_eq_true rfl, Nat.le_of_ble_eq_true rfl⟩) (c_St_isLatin1 l g H.size _ (x0) _ _ _ hw) rfl rfl (Nat.le_of_ble_eq_true rfl) d_St_substring_28 (fun r5 S4 H locs hw hP hD hS => ?_)
    obtain ⟨hc9, hw⟩ := hw
    refine lv_if_eq hx hb d_St_substring_31 (tgt := 47) (by decide) (fun hc => absurd hc hc9) (fun hc => ?_)
    refine lv_aload_n hx hb d_St_substring_34 rfl (lv_at hl 1 rfl) ?_
    obtain ⟨vs6, z10, ha7, hf8, hv9, hw⟩ := hw
    refine pg_C (S := S4) (vs := vs6) (v := .ref (z10)) (C := R_St) (F := F_St) (N := 4) hx hb hts hin_St hown hK hP ha7 hf8 rfl 0 (by decide) hv9 k_C_283 d_St_substring_35 ?_
    refine lv_iload_n hx hb d_St_substring_38 rfl (lv_at hl 2 rfl) ?_
    refine lv_iload hx hb d_St_substring_39 (lv_at hl 0 rfl) ?_
    obtain ⟨mc11, ms12, hcm, hzm, hw⟩ := hw
    refine cA_qS (As := [.ref (z10), .int (x1), .int ((x2 - x1))]) (rest := []) hx hb hml hown hts hK hC hN hP hD hS hA hcm hzm hl.1  (qA_24 hts ⟨Nat.le_of_ble_eq_true rfl, Nat.le_of_ble_eq_true rfl⟩) (c_La_newString l g H.size _ (z10) (x1) ((x2 - x1)) _ _ _ hw) rfl rfl (Nat.le_of_ble_eq_true rfl) d_St_substring_41 (fun r14 S13 H locs hw hP hD hS => ?_)
    refine lv_goto hx hb d_St_substring_44 (tgt := 57) (by decide) ?_
    exact J57 S13 (r14) (((c0 + mc2) + mc11)) (((z0 + ms3) + ms12)) _ _ _ hcm hzm hw (lv_sub hl [] rfl) hP hD hS
  refine lv_aload_n hx hb d_St_substring_0 rfl (lv_at hl 0 rfl) ?_
  obtain ⟨hsr15, hw⟩ := hw
  obtain ⟨mc16, ms17, hcm, hzm, hw⟩ := hw
  refine cA_iV (As := []) (rest := []) hx hb hml hown hts hK hC hN hP hD hS hA hcm hzm hl.1 (strv_C hK hC hP hS hsr15) (qA_25 hts ⟨Nat.le_of_ble_eq_true rfl, Nat.le_of_ble_eq_true rfl⟩) (c_St_length l g H.size _ (h0) _ _ _ hw) rfl rfl (Nat.le_of_ble_eq_true rfl) d_St_substring_1 (fun r19 S18 H locs hw hP hD hS => ?_)
  refine lv_istore_n (lv' := [(3, .int (r19)), (0, .ref (h0)), (1, .int (a0)), (2, .int (a1))]) hx hb d_St_substring_4 rfl hl (by decide) rfl (fun ls hl => ?_)
  refine lv_iload_n hx hb d_St_substring_5 rfl (lv_at hl 2 rfl) ?_
  refine lv_iload_n hx hb d_St_substring_6 rfl (lv_at hl 3 rfl) ?_
  refine lv_iload_n hx hb d_St_substring_7 rfl (lv_at hl 0 rfl) ?_
  obtain ⟨mc20, ms21, hcm, hzm, hw⟩ := hw
  refine cA_vS (As := [.int (a0), .int (a1), .int (r19)]) (rest := []) hx hb hml hown hts hK hC hN hP hD hS hA hcm hzm hl.1  (qA_26 hts ⟨Nat.le_of_ble_eq_true rfl, Nat.le_of_ble_eq_true rfl⟩) (c_St_checkBoundsBeginEnd l g H.size _ (a0) (a1) (r19) _ _ _ hw) rfl rfl (Nat.le_of_ble_eq_true rfl) d_St_substring_8 (fun S22 H locs hw hP hD hS => ?_)
  refine lv_iload_n hx hb d_St_substring_11 rfl (lv_at hl 2 rfl) ?_
  refine lv_if_ne hx hb d_St_substring_12 (tgt := 22) (by decide) (fun hc => ?_) (fun hc => ?_)
  · have hw := hw.2 hc
    exact J22 S22 (h0) (a0) (a1) (((0 + mc16) + mc20)) (((0 + ms17) + ms21)) _ _ _ hcm hzm hw (lv_sub hl [1, 2, 3] rfl) hP hD hS
  · have hw := hw.1 hc
    refine lv_iload_n hx hb d_St_substring_15 rfl (lv_at hl 3 rfl) ?_
    refine lv_iload_n hx hb d_St_substring_16 rfl (lv_at hl 0 rfl) ?_
    refine lv_icmp_ne hx hb d_St_substring_17 (tgt := 22) (by decide) (fun hc => ?_) (fun hc => ?_)
    · have hw := hw.2 hc
      exact J22 S22 (h0) (a0) (a1) (((0 + mc16) + mc20)) (((0 + ms17) + ms21)) _ _ _ hcm hzm hw (lv_sub hl [1, 2, 3] rfl) hP hD hS
    · have hw := hw.1 hc
      refine lv_aload_n hx hb d_St_substring_20 rfl (lv_at hl 1 rfl) ?_
      exact kr (some (h0)) S22 _ _ _ _ _ _ hcm hzm hw hP hD hS d_St_substring_21
theorem qA_27 {R : Room} {s : State} {args : Array Value} {mc1 ms1 : Nat} (hts : ∀ w ∈ w_C, w.before args s = true) (hR : (rmA 4 108 mc1 ms1).frames + 1 ≤ R.frames ∧ 8 + (5 + 11) + (rmA 4 108 mc1 ms1).locals ≤ R.locals) : CallW R s args "WordSmith$Reader" R_St 65 y_St_substring b_St_substring 5 (some (.object "java/lang/String")) (.code y_St_substring b_St_substring 5 (some (.object "java/lang/String")) :: w_C) (rmA 4 108 mc1 ms1) mc1 ms1 2 := ⟨callB_of 2 hts (good_C k_C_350) rfl rfl rfl (hts _ k_C_3) (hts _ k_C_347) ⟨by decide +kernel, by decide +kernel, by decide +kernel⟩ hR, hts _ k_C_348, hts _ k_C_349⟩
theorem d_Rd_cutToken_0 : decode b_Rd_cutToken 0 = .ok (.aload_n 0, 1) := by decide +kernel
theorem d_Rd_cutToken_1 : decode b_Rd_cutToken 1 = .ok (.getfield 34, 3) := by decide +kernel
theorem d_Rd_cutToken_4 : decode b_Rd_cutToken 4 = .ok (.istore_n 1, 1) := by decide +kernel
theorem d_Rd_cutToken_5 : decode b_Rd_cutToken 5 = .ok (.aload_n 0, 1) := by decide +kernel
theorem d_Rd_cutToken_6 : decode b_Rd_cutToken 6 = .ok (.getfield 34, 3) := by decide +kernel
theorem d_Rd_cutToken_9 : decode b_Rd_cutToken 9 = .ok (.aload_n 0, 1) := by decide +kernel
theorem d_Rd_cutToken_10 : decode b_Rd_cutToken 10 = .ok (.getfield 27, 3) := by decide +kernel
theorem d_Rd_cutToken_13 : decode b_Rd_cutToken 13 = .ok (.invokevirtual 57, 3) := by decide +kernel
theorem d_Rd_cutToken_16 : decode b_Rd_cutToken 16 = .ok (.if_icmp .ge 32, 3) := by decide +kernel
theorem d_Rd_cutToken_19 : decode b_Rd_cutToken 19 = .ok (.aload_n 0, 1) := by decide +kernel
theorem d_Rd_cutToken_20 : decode b_Rd_cutToken 20 = .ok (.getfield 27, 3) := by decide +kernel
theorem d_Rd_cutToken_23 : decode b_Rd_cutToken 23 = .ok (.aload_n 0, 1) := by decide +kernel
theorem d_Rd_cutToken_24 : decode b_Rd_cutToken 24 = .ok (.getfield 34, 3) := by decide +kernel
theorem d_Rd_cutToken_27 : decode b_Rd_cutToken 27 = .ok (.invokevirtual 61, 3) := by decide +kernel
theorem d_Rd_cutToken_30 : decode b_Rd_cutToken 30 = .ok (.bipush 32, 2) := by decide +kernel
theorem d_Rd_cutToken_32 : decode b_Rd_cutToken 32 = .ok (.if_icmp .eq 16, 3) := by decide +kernel
theorem d_Rd_cutToken_35 : decode b_Rd_cutToken 35 = .ok (.aload_n 0, 1) := by decide +kernel
theorem d_Rd_cutToken_36 : decode b_Rd_cutToken 36 = .ok (.dup, 1) := by decide +kernel
theorem d_Rd_cutToken_37 : decode b_Rd_cutToken 37 = .ok (.getfield 34, 3) := by decide +kernel
theorem d_Rd_cutToken_40 : decode b_Rd_cutToken 40 = .ok (.iconst 1, 1) := by decide +kernel
theorem d_Rd_cutToken_41 : decode b_Rd_cutToken 41 = .ok (.iadd, 1) := by decide +kernel
theorem d_Rd_cutToken_42 : decode b_Rd_cutToken 42 = .ok (.putfield 34, 3) := by decide +kernel
theorem d_Rd_cutToken_45 : decode b_Rd_cutToken 45 = .ok (.goto (-40), 3) := by decide +kernel
theorem d_Rd_cutToken_48 : decode b_Rd_cutToken 48 = .ok (.aload_n 0, 1) := by decide +kernel
theorem d_Rd_cutToken_49 : decode b_Rd_cutToken 49 = .ok (.getfield 27, 3) := by decide +kernel
theorem d_Rd_cutToken_52 : decode b_Rd_cutToken 52 = .ok (.iload_n 1, 1) := by decide +kernel
theorem d_Rd_cutToken_53 : decode b_Rd_cutToken 53 = .ok (.aload_n 0, 1) := by decide +kernel
theorem d_Rd_cutToken_54 : decode b_Rd_cutToken 54 = .ok (.getfield 34, 3) := by decide +kernel
theorem d_Rd_cutToken_57 : decode b_Rd_cutToken 57 = .ok (.invokevirtual 65, 3) := by decide +kernel
theorem d_Rd_cutToken_60 : decode b_Rd_cutToken 60 = .ok (.areturn, 1) := by decide +kernel
def wq_Rd_cutToken_48 (g : Gm) (post : Option Nat → StC → Prop) (mc ms : Nat)  (S : StC) (x1 : Int32) (c0 : Nat) (z0 : Nat) : Prop :=
  (isStr g S ((S.2.2.1 1))) ∧ (∃ (mc2 : Nat) (ms3 : Nat), (c0 + mc2 ≤ mc) ∧ (z0 + ms3 ≤ ms) ∧ (wp_St_substring g (fun (r5 : Option Nat) (S4 : StC) => (post (r5) S4)) mc2 ms3 S ((S.2.2.1 1)) (x1) ((S.1 3))))
def wq_Rd_cutToken_5 (g : Gm) (post : Option Nat → StC → Prop) (mc ms : Nat)  : Nat → StC → Int32 → Nat → Nat → Prop
  | 0, _, _, _, _ => False
  | n5 + 1, S, x1, c0, z0 =>
    (isStr g S ((S.2.2.1 1))) ∧ (∃ (mc7 : Nat) (ms8 : Nat), (c0 + mc7 ≤ mc) ∧ (z0 + ms8 ≤ ms) ∧ (wp_St_length g (fun (r10 : Int32) (S9 : StC) => (((r10 ≤ (S.1 3)) → wq_Rd_cutToken_48 g post mc ms  S9 (x1) ((c0 + mc7)) ((z0 + ms8))) ∧ (¬ (r10 ≤ (S.1 3)) → (isStr g S9 ((S9.2.2.1 1))) ∧ (∃ (mc12 : Nat) (ms13 : Nat), ((c0 + mc7) + mc12 ≤ mc) ∧ ((z0 + ms8) + ms13 ≤ ms) ∧ (wp_St_charAt g (fun (r15 : Int32) (S14 : StC) => (((r15 = 32) → wq_Rd_cutToken_48 g post mc ms  S14 (x1) (((c0 + mc7) + mc12)) (((z0 + ms8) + ms13))) ∧ (¬ (r15 = 32) → (wq_Rd_cutToken_5 g post mc ms  n5) ((upd S14.1 3 (((S14.1 3) + 1))), S14.2) (x1) (((c0 + mc7) + mc12)) (((z0 + ms8) + ms13))))) mc12 ms13 S9 ((S9.2.2.1 1)) ((S9.1 3))))))) mc7 ms8 S ((S.2.2.1 1))))
def wp_Rd_cutToken (g : Gm) (post : Option Nat → StC → Prop) (mc ms : Nat) (S : StC)  : Prop :=
  ∃ nn : Nat, wq_Rd_cutToken_5 g post mc ms  nn S ((S.1 3)) (0) (0)
set_option maxRecDepth 100000 in
set_option maxHeartbeats 4000000 in
theorem c_Rd_cutToken (l : Launch) (g : Gm) (sz : Nat) (S : StC)  (post : Option Nat → StC → Prop) (mc ms : Nat) (hw : wp_Rd_cutToken g post mc ms S ) : Met l y_Rd_cutToken (.code y_Rd_cutToken b_Rd_cutToken 2 (some (.object "java/lang/String")) :: w_C) (rmA 5 132 mc ms) (va_Pc [.ref (g.2.2 2)] (PC g sz S)) (va_Qq post (BC g (AC g sz S)) (AC g sz S)) mc ms (AC g sz S) := by
  refine ofA_q (Or.inl ⟨_, rfl⟩) (by decide) (Nat.le_of_ble_eq_true rfl) (fun p e s m args below meth c Q A H locs ls hx hb hml hts hown hK hA hC hN hmn kr hl hP hD hS => ?_)
  have hl : lv_has ls 2 [(0, .ref (g.2.2 2))] := hl
  unfold wp_Rd_cutToken at hw
  have hcm : 0 ≤ mc := Nat.zero_le _
  have hzm : 0 ≤ ms := Nat.zero_le _
  have J48 : ∀ (S : StC) (x1 : Int32) (c0 : Nat) (z0 : Nat) (H : Heap) (locs : List Loc) (ls : Array Slot), c0 ≤ mc → z0 ≤ ms → wq_Rd_cutToken_48 g post mc ms  S x1 c0 z0 → lv_has ls 2 [(0, .ref (g.2.2 2)), (1, .int (x1))] → va_P g.1 classes (wC g S) H → va_D A (wC g S) → va_S A s.heap H locs → W p l e (rmA 5 132 mc ms) s m args below meth c H locs c0 z0 Q (F0 m 48 ls []) := by
    intro S x1 c0 z0 H locs ls hcm hzm hw hl hP hD hS
    unfold wq_Rd_cutToken_48 at hw
    refine lv_aload_n hx hb d_Rd_cutToken_48 rfl (lv_at hl 0 rfl) ?_
    refine va_get (D := g.1) (ci := 4) (v := .ref ((S.2.2.1 1))) (C := R_Rd) (T := F_Rd) (N := 6) hx hb hts hin_Rd hown hK hP 2 rfl rfl 2 (by decide) (hts _ k_C_129) (fun _ h9 => h9) rfl d_Rd_cutToken_49 ?_
    refine lv_iload_n hx hb d_Rd_cutToken_52 rfl (lv_at hl 1 rfl) ?_
    refine lv_aload_n hx hb d_Rd_cutToken_53 rfl (lv_at hl 0 rfl) ?_
    refine va_get (D := g.1) (ci := 4) (v := .int ((S.1 3))) (C := R_Rd) (T := F_Rd) (N := 6) hx hb hts hin_Rd hown hK hP 2 rfl rfl 3 (by decide) (hts _ k_C_130) (fun _ h9 => h9) rfl d_Rd_cutToken_54 ?_
    obtain ⟨hsr1, hw⟩ := hw
    obtain ⟨mc2, ms3, hcm, hzm, hw⟩ := hw
    refine cA_qV (As := [.int (x1), .int ((S.1 3))]) (rest := []) hx hb hml hown hts hK hC hN hP hD hS hA hcm hzm hl.1 (strv_C hK hC hP hS hsr1) (qA_27 hts ⟨Nat.le_of_ble_eq_true rfl, Nat.le_of_ble_eq_true rfl⟩) (c_St_substring l g H.size _ ((S.2.2.1 1)) (x1) ((S.1 3)) _ _ _ hw) rfl rfl (Nat.le_of_ble_eq_true rfl) d_Rd_cutToken_57 (fun r5 S4 H locs hw hP hD hS => ?_)
    exact kr (r5) S4 _ _ _ _ _ _ hcm hzm hw hP hD hS d_Rd_cutToken_60
  have J5 : ∀ (n5 : Nat), ∀ (S : StC) (x1 : Int32) (c0 : Nat) (z0 : Nat) (H : Heap) (locs : List Loc) (ls : Array Slot), c0 ≤ mc → z0 ≤ ms → wq_Rd_cutToken_5 g post mc ms  n5 S x1 c0 z0 → lv_has ls 2 [(0, .ref (g.2.2 2)), (1, .int (x1))] → va_P g.1 classes (wC g S) H → va_D A (wC g S) → va_S A s.heap H locs → W p l e (rmA 5 132 mc ms) s m args below meth c H locs c0 z0 Q (F0 m 5 ls []) := by
    intro n5
    induction n5 with
    | zero => intro S x1 c0 z0 H locs ls hcm hzm hw; exact hw.elim
    | succ n5 ih5 =>
      intro S x1 c0 z0 H locs ls hcm hzm hw hl hP hD hS
      unfold wq_Rd_cutToken_5 at hw
      refine lv_aload_n hx hb d_Rd_cutToken_5 rfl (lv_at hl 0 rfl) ?_
      refine va_get (D := g.1) (ci := 4) (v := .int ((S.1 3))) (C := R_Rd) (T := F_Rd) (N := 6) hx hb hts hin_Rd hown hK hP 2 rfl rfl 3 (by decide) (hts _ k_C_130) (fun _ h9 => h9) rfl d_Rd_cutToken_6 ?_
      refine lv_aload_n hx hb d_Rd_cutToken_9 rfl (lv_at hl 0 rfl) ?_
      refine va_get (D := g.1) (ci := 4) (v := .ref ((S.2.2.1 1))) (C := R_Rd) (T := F_Rd) (N := 6) hx hb hts hin_Rd hown hK hP 2 rfl rfl 2 (by decide) (hts _ k_C_129) (fun _ h9 => h9) rfl d_Rd_cutToken_10 ?_
      obtain ⟨hsr6, hw⟩ := hw
      obtain ⟨mc7, ms8, hcm, hzm, hw⟩ := hw
      refine cA_iV (As := []) (rest := [.int ((S.1 3))]) hx hb hml hown hts hK hC hN hP hD hS hA hcm hzm hl.1 (strv_C hK hC hP hS hsr6) (qA_19 hts ⟨Nat.le_of_ble_eq_true rfl, Nat.le_of_ble_eq_true rfl⟩) (c_St_length l g H.size _ ((S.2.2.1 1)) _ _ _ hw) rfl rfl (Nat.le_of_ble_eq_true rfl) d_Rd_cutToken_13 (fun r10 S9 H locs hw hP hD hS => ?_)
      refine lv_icmp_ge hx hb d_Rd_cutToken_16 (tgt := 48) (by decide) (fun hc => ?_) (fun hc => ?_)
      · have hw := hw.1 hc
        exact J48 S9 (x1) ((c0 + mc7)) ((z0 + ms8)) _ _ _ hcm hzm hw (lv_sub hl [0, 1] rfl) hP hD hS
      · have hw := hw.2 hc
        refine lv_aload_n hx hb d_Rd_cutToken_19 rfl (lv_at hl 0 rfl) ?_
        refine va_get (D := g.1) (ci := 4) (v := .ref ((S9.2.2.1 1))) (C := R_Rd) (T := F_Rd) (N := 6) hx hb hts hin_Rd hown hK hP 2 rfl rfl 2 (by decide) (hts _ k_C_129) (fun _ h9 => h9) rfl d_Rd_cutToken_20 ?_
        refine lv_aload_n hx hb d_Rd_cutToken_23 rfl (lv_at hl 0 rfl) ?_
        refine va_get (D := g.1) (ci := 4) (v := .int ((S9.1 3))) (C := R_Rd) (T := F_Rd) (N := 6) hx hb hts hin_Rd hown hK hP 2 rfl rfl 3 (by decide) (hts _ k_C_130) (fun _ h9 => h9) rfl d_Rd_cutToken_24 ?_
        obtain ⟨hsr11, hw⟩ := hw
        obtain ⟨mc12, ms13, hcm, hzm, hw⟩ := hw
        refine cA_iV (As := [.int ((S9.1 3))]) (rest := []) hx hb hml hown hts hK hC hN hP hD hS hA hcm hzm hl.1 (strv_C hK hC hP hS hsr11) (qA_20 hts ⟨Nat.le_of_ble_eq_true rfl, Nat.le_of_ble_eq_true rfl⟩) (c_St_charAt l g H.size _ ((S9.2.2.1 1)) ((S9.1 3)) _ _ _ hw) rfl rfl (Nat.le_of_ble_eq_true rfl) d_Rd_cutToken_27 (fun r15 S14 H locs hw hP hD hS => ?_)
        refine lv_bipush (v := 32) hx hb d_Rd_cutToken_30 (by decide) ?_
        refine lv_icmp_eq hx hb d_Rd_cutToken_32 (tgt := 48) (by decide) (fun hc => ?_) (fun hc => ?_)
        · have hw := hw.1 hc
          exact J48 S14 (x1) (((c0 + mc7) + mc12)) (((z0 + ms8) + ms13)) _ _ _ hcm hzm hw (lv_sub hl [0, 1] rfl) hP hD hS
        · have hw := hw.2 hc
          refine lv_aload_n hx hb d_Rd_cutToken_35 rfl (lv_at hl 0 rfl) ?_
          refine lv_dup hx hb d_Rd_cutToken_36 rfl ?_
          refine va_get (D := g.1) (ci := 4) (v := .int ((S14.1 3))) (C := R_Rd) (T := F_Rd) (N := 6) hx hb hts hin_Rd hown hK hP 2 rfl rfl 3 (by decide) (hts _ k_C_130) (fun _ h9 => h9) rfl d_Rd_cutToken_37 ?_
          refine lv_iconst (v := 1) hx hb d_Rd_cutToken_40 (by decide) ?_
          refine lv_iadd hx hb d_Rd_cutToken_41 ?_
          refine pt_C (S2 := ((upd S14.1 3 (((S14.1 3) + 1))), S14.2)) (v := .int (((S14.1 3) + 1))) (C := R_Rd) (F := F_Rd) (N := 6) (ci := 4) hx hb hts hin_Rd t_Rd t_Rd_ok n_Rd hown hK hP hD hS 2 rfl rfl 3 (by decide) rfl rfl rfl (Nat.le_of_ble_eq_true rfl) (sI_C_3 g _ _) k_C_130 d_Rd_cutToken_42 (fun H locs hP hD hS => ?_)
          refine lv_goto hx hb d_Rd_cutToken_45 (tgt := 5) (by decide) ?_
          exact ih5 ((upd S14.1 3 (((S14.1 3) + 1))), S14.2) (x1) (((c0 + mc7) + mc12)) (((z0 + ms8) + ms13)) _ _ _ hcm hzm hw (lv_sub hl [0, 1] rfl) hP hD hS
  refine lv_aload_n hx hb d_Rd_cutToken_0 rfl (lv_at hl 0 rfl) ?_
  refine va_get (D := g.1) (ci := 4) (v := .int ((S.1 3))) (C := R_Rd) (T := F_Rd) (N := 6) hx hb hts hin_Rd hown hK hP 2 rfl rfl 3 (by decide) (hts _ k_C_130) (fun _ h9 => h9) rfl d_Rd_cutToken_1 ?_
  refine lv_istore_n (lv' := [(1, .int ((S.1 3))), (0, .ref (g.2.2 2))]) hx hb d_Rd_cutToken_4 rfl hl (by decide) rfl (fun ls hl => ?_)
  obtain ⟨nn, hw⟩ := hw
  exact J5 nn S ((S.1 3)) (0) (0) _ _ _ hcm hzm hw (lv_sub hl [1, 0] rfl) hP hD hS
theorem d_St_isEmpty_0 : decode b_St_isEmpty 0 = .ok (.aload_n 0, 1) := by decide +kernel
theorem d_St_isEmpty_1 : decode b_St_isEmpty 1 = .ok (.getfield 9, 3) := by decide +kernel
theorem d_St_isEmpty_4 : decode b_St_isEmpty 4 = .ok (.arraylength, 1) := by decide +kernel
theorem d_St_isEmpty_5 : decode b_St_isEmpty 5 = .ok (.ifCond .ne 7, 3) := by decide +kernel
theorem d_St_isEmpty_8 : decode b_St_isEmpty 8 = .ok (.iconst 1, 1) := by decide +kernel
theorem d_St_isEmpty_9 : decode b_St_isEmpty 9 = .ok (.goto 4, 3) := by decide +kernel
theorem d_St_isEmpty_12 : decode b_St_isEmpty 12 = .ok (.iconst 0, 1) := by decide +kernel
theorem d_St_isEmpty_13 : decode b_St_isEmpty 13 = .ok (.ireturn, 1) := by decide +kernel
def wq_St_isEmpty_13 (g : Gm) (post : Int32 → StC → Prop) (mc ms : Nat)  (S : StC) (t0 : Int32) (c0 : Nat) (z0 : Nat) : Prop :=
  (narrow .boolean (.int (t0)) = .int (t0)) ∧ (post (t0) S)
def wpP_St_isEmpty (g : Gm) (post : Int32 → StC → Prop) (mc ms : Nat) (S : StC) (h0 : Nat) : Prop :=
  ∃ (vs1 : List Value) (z5 : Nat), (h0 ∈ S.2.2.2.2.2.1) ∧ (S.2.2.2.2.2.2 h0 = .inr (3, vs1)) ∧ (vs1[0]? = some (.ref (z5))) ∧ (∃ (n6 : Nat) (f7 : Nat → Int32), (z5 ∈ S.2.2.2.2.2.1) ∧ (S.2.2.2.2.2.2 z5 = .inl (g.2.1 3, n6, .inl f7)) ∧ ((((Int32.ofNat n6) = 0) → wq_St_isEmpty_13 g post mc ms  S (1) (0) (0)) ∧ (¬ ((Int32.ofNat n6) = 0) → wq_St_isEmpty_13 g post mc ms  S (0) (0) (0))))
set_option maxRecDepth 100000 in
set_option maxHeartbeats 4000000 in
theorem cP_St_isEmpty (l : Launch) (g : Gm) (sz : Nat) (S : StC) (h0 : Nat) (post : Int32 → StC → Prop) (mc ms : Nat) (hw : wpP_St_isEmpty g post mc ms S h0) : Met l y_St_isEmpty (.code y_St_isEmpty b_St_isEmpty 1 (some .boolean) :: w_C) (rmA 0 0 mc ms) (va_Pc [.ref (h0)] (PC g sz S)) (va_Qi post (BC g (AC g sz S)) (AC g sz S)) mc ms (AC g sz S) := by
  refine ofA_z (by decide) (Nat.le_of_ble_eq_true rfl) (fun p e s m args below meth c Q A H locs ls hx hb hml hts hown hK hA hC hN hmn kr hl hP hD hS => ?_)
  have hl : lv_has ls 1 [(0, .ref (h0))] := hl
  unfold wpP_St_isEmpty at hw
  have hcm : 0 ≤ mc := Nat.zero_le _
  have hzm : 0 ≤ ms := Nat.zero_le _
  have J13 : ∀ (S : StC) (t0 : Int32) (c0 : Nat) (z0 : Nat) (H : Heap) (locs : List Loc) (ls : Array Slot), c0 ≤ mc → z0 ≤ ms → wq_St_isEmpty_13 g post mc ms  S t0 c0 z0 → lv_has ls 1 [] → va_P g.1 classes (wC g S) H → va_D A (wC g S) → va_S A s.heap H locs → W p l e (rmA 0 0 mc ms) s m args below meth c H locs c0 z0 Q (F0 m 13 ls [.int (t0)]) := by
    intro S t0 c0 z0 H locs ls hcm hzm hw hl hP hD hS
    unfold wq_St_isEmpty_13 at hw
    obtain ⟨hnz, hw⟩ := hw
    exact kr (t0) S _ _ _ _ _ _ hcm hzm hnz hw hP hD hS d_St_isEmpty_13
  refine lv_aload_n hx hb d_St_isEmpty_0 rfl (lv_at hl 0 rfl) ?_
  obtain ⟨vs1, z5, ha2, hf3, hv4, hw⟩ := hw
  refine pg_C (S := S) (vs := vs1) (v := .ref (z5)) (C := R_St) (F := F_St) (N := 4) hx hb hts hin_St hown hK hP ha2 hf3 rfl 0 (by decide) hv4 k_C_283 d_St_isEmpty_1 ?_
  obtain ⟨n6, f7, ha8, hf9, hw⟩ := hw
  refine pal_C (S := S) hx hb hK hP ha8 hf9 d_St_isEmpty_4 ?_
  refine lv_if_ne hx hb d_St_isEmpty_5 (tgt := 12) (by decide) (fun hc => ?_) (fun hc => ?_)
  · have hw := hw.2 hc
    refine lv_iconst (v := 0) hx hb d_St_isEmpty_12 (by decide) ?_
    exact J13 S (0) (0) (0) _ _ _ hcm hzm hw (lv_sub hl [] rfl) hP hD hS
  · have hw := hw.1 hc
    refine lv_iconst (v := 1) hx hb d_St_isEmpty_8 (by decide) ?_
    refine lv_goto hx hb d_St_isEmpty_9 (tgt := 13) (by decide) ?_
    exact J13 S (1) (0) (0) _ _ _ hcm hzm hw (lv_sub hl [] rfl) hP hD hS
set_option maxRecDepth 100000 in
set_option maxHeartbeats 4000000 in
theorem cE_St_isEmpty (l : Launch) (g : Gm) (sz : Nat) (S : StC) (post : Int32 → StC → Prop) (mc ms : Nat) (hw : post 1 S) : Met l y_St_isEmpty (.code y_St_isEmpty b_St_isEmpty 1 (some .boolean) :: w_C) (rmA 0 0 mc ms) (va_Pc [.ref (g.2.2 (200 + 52))] (PC g sz S)) (va_Qi post (BC g (AC g sz S)) (AC g sz S)) mc ms (AC g sz S) := by
  refine ofA_z (by decide) (Nat.le_of_ble_eq_true rfl) (fun p e s m args below meth c Q A H locs ls hx hb hml hts hown hK hA hC hN hmn kr hl hP hD hS => ?_)
  have hl : lv_has ls 1 [(0, .ref (g.2.2 (200 + 52)))] := hl
  have hcm : 0 ≤ mc := Nat.zero_le _
  have hzm : 0 ≤ ms := Nat.zero_le _
  refine lv_aload_n hx hb d_St_isEmpty_0 rfl (lv_at hl 0 rfl) ?_
  refine vk_getf (q := g.2.2 (200 + 52)) (v := .ref (g.2.2 (300 + 52))) hx hb (hC.2.1.1 52 (by decide)).2.2.1 hS hown (hts _ k_C_283) (fun _ h9 => h9) d_St_isEmpty_1 ?_
  refine va_tlen (v := (Int32.ofNat (lenJ.getD 52 0))) hx hb (hC.2.1.1 52 (by decide)).2.2.2 hS rfl d_St_isEmpty_4 ?_
  refine lv_if_ne hx hb d_St_isEmpty_5 (tgt := 12) (by decide) (fun hc => absurd (by decide) hc) (fun hc => ?_)
  refine lv_iconst (v := 1) hx hb d_St_isEmpty_8 (by decide) ?_
  refine lv_goto hx hb d_St_isEmpty_9 (tgt := 13) (by decide) ?_
  exact kr 1 S _ _ _ _ _ _ hcm hzm rfl hw hP hD hS d_St_isEmpty_13
def wp_St_isEmpty (g : Gm) (post : Int32 → StC → Prop) (mc ms : Nat) (S : StC) (h0 : Nat) : Prop :=
  (wpP_St_isEmpty g post mc ms S h0) ∨ ((h0 = g.2.2 (200 + 52)) ∧ (post 1 S))
theorem c_St_isEmpty (l : Launch) (g : Gm) (sz : Nat) (S : StC) (h0 : Nat) (post : Int32 → StC → Prop) (mc ms : Nat) (hw : wp_St_isEmpty g post mc ms S h0) : Met l y_St_isEmpty (.code y_St_isEmpty b_St_isEmpty 1 (some .boolean) :: w_C) (rmA 0 0 mc ms) (va_Pc [.ref (h0)] (PC g sz S)) (va_Qi post (BC g (AC g sz S)) (AC g sz S)) mc ms (AC g sz S) := by
  rcases hw with hw | ⟨e, hw⟩
  · exact cP_St_isEmpty l g sz S h0 post mc ms hw
  · subst e
    exact cE_St_isEmpty l g sz S post mc ms hw
theorem qA_28 {R : Room} {s : State} {args : Array Value} {mc1 ms1 : Nat} (hts : ∀ w ∈ w_C, w.before args s = true) (hR : (rmA 4 85 mc1 ms1).frames + 1 ≤ R.frames ∧ 8 + (1 + 11) + (rmA 4 85 mc1 ms1).locals ≤ R.locals) : CallW R s args "WordSmith$Reader" R_Rd 41 y_Rd_skipSpaces b_Rd_skipSpaces 1 none (.code y_Rd_skipSpaces b_Rd_skipSpaces 1 none :: w_C) (rmA 4 85 mc1 ms1) mc1 ms1 0 := ⟨callB_of 0 hts (good_C k_C_320) rfl rfl rfl (hts _ k_C_5) (hts _ k_C_318) ⟨by decide +kernel, by decide +kernel, by decide +kernel⟩ hR, hts _ k_C_319, hts _ k_C_781⟩
theorem qA_29 {R : Room} {s : State} {args : Array Value} {mc1 ms1 : Nat} (hts : ∀ w ∈ w_C, w.before args s = true) (hR : (rmA 5 132 mc1 ms1).frames + 1 ≤ R.frames ∧ 8 + (2 + 11) + (rmA 5 132 mc1 ms1).locals ≤ R.locals) : CallW R s args "WordSmith$Reader" R_Rd 47 y_Rd_cutToken b_Rd_cutToken 2 (some (.object "java/lang/String")) (.code y_Rd_cutToken b_Rd_cutToken 2 (some (.object "java/lang/String")) :: w_C) (rmA 5 132 mc1 ms1) mc1 ms1 0 := ⟨callB_of 0 hts (good_C k_C_346) rfl rfl rfl (hts _ k_C_5) (hts _ k_C_344) ⟨by decide +kernel, by decide +kernel, by decide +kernel⟩ hR, hts _ k_C_345, hts _ k_C_782⟩
theorem qA_30 {R : Room} {s : State} {args : Array Value} {mc1 ms1 : Nat} (hts : ∀ w ∈ w_C, w.before args s = true) (hR : (rmA 0 0 mc1 ms1).frames + 1 ≤ R.frames ∧ 8 + (1 + 11) + (rmA 0 0 mc1 ms1).locals ≤ R.locals) : CallW R s args "WordSmith$Reader" R_St 51 y_St_isEmpty b_St_isEmpty 1 (some .boolean) (.code y_St_isEmpty b_St_isEmpty 1 (some .boolean) :: w_C) (rmA 0 0 mc1 ms1) mc1 ms1 0 := ⟨callB_of 0 hts (good_C k_C_377) rfl rfl rfl (hts _ k_C_3) (hts _ k_C_374) ⟨by decide +kernel, by decide +kernel, by decide +kernel⟩ hR, hts _ k_C_375, hts _ k_C_376⟩
theorem d_Rd_advance_0 : decode b_Rd_advance 0 = .ok (.aload_n 0, 1) := by decide +kernel
theorem d_Rd_advance_1 : decode b_Rd_advance 1 = .ok (.invokevirtual 41, 3) := by decide +kernel
theorem d_Rd_advance_4 : decode b_Rd_advance 4 = .ok (.aload_n 0, 1) := by decide +kernel
theorem d_Rd_advance_5 : decode b_Rd_advance 5 = .ok (.aload_n 0, 1) := by decide +kernel
theorem d_Rd_advance_6 : decode b_Rd_advance 6 = .ok (.getfield 34, 3) := by decide +kernel
theorem d_Rd_advance_9 : decode b_Rd_advance 9 = .ok (.putfield 44, 3) := by decide +kernel
theorem d_Rd_advance_12 : decode b_Rd_advance 12 = .ok (.aload_n 0, 1) := by decide +kernel
theorem d_Rd_advance_13 : decode b_Rd_advance 13 = .ok (.aload_n 0, 1) := by decide +kernel
theorem d_Rd_advance_14 : decode b_Rd_advance 14 = .ok (.invokevirtual 47, 3) := by decide +kernel
theorem d_Rd_advance_17 : decode b_Rd_advance 17 = .ok (.putfield 31, 3) := by decide +kernel
theorem d_Rd_advance_20 : decode b_Rd_advance 20 = .ok (.aload_n 0, 1) := by decide +kernel
theorem d_Rd_advance_21 : decode b_Rd_advance 21 = .ok (.getfield 31, 3) := by decide +kernel
theorem d_Rd_advance_24 : decode b_Rd_advance 24 = .ok (.invokevirtual 51, 3) := by decide +kernel
theorem d_Rd_advance_27 : decode b_Rd_advance 27 = .ok (.ifCond .ne 7, 3) := by decide +kernel
theorem d_Rd_advance_30 : decode b_Rd_advance 30 = .ok (.iconst 1, 1) := by decide +kernel
theorem d_Rd_advance_31 : decode b_Rd_advance 31 = .ok (.goto 4, 3) := by decide +kernel
theorem d_Rd_advance_34 : decode b_Rd_advance 34 = .ok (.iconst 0, 1) := by decide +kernel
theorem d_Rd_advance_35 : decode b_Rd_advance 35 = .ok (.ireturn, 1) := by decide +kernel
def wq_Rd_advance_35 (g : Gm) (post : Int32 → StC → Prop) (mc ms : Nat)  (S : StC) (t0 : Int32) (c0 : Nat) (z0 : Nat) : Prop :=
  (narrow .boolean (.int (t0)) = .int (t0)) ∧ (post (t0) S)
def wp_Rd_advance (g : Gm) (post : Int32 → StC → Prop) (mc ms : Nat) (S : StC)  : Prop :=
  ∃ (mc1 : Nat) (ms2 : Nat), (0 + mc1 ≤ mc) ∧ (0 + ms2 ≤ ms) ∧ (wp_Rd_skipSpaces g (fun S3 : StC => (∃ (mc4 : Nat) (ms5 : Nat), ((0 + mc1) + mc4 ≤ mc) ∧ ((0 + ms2) + ms5 ≤ ms) ∧ (wp_Rd_cutToken g (fun (r7 : Option Nat) (S6 : StC) => (∃ (y8 : Nat), (r7 = some y8) ∧ ((isStr g (S6.1, S6.2.1, (va_up S6.2.2.1 2 (y8)), S6.2.2.2) (y8)) ∧ (∃ (mc11 : Nat) (ms12 : Nat), (((0 + mc1) + mc4) + mc11 ≤ mc) ∧ (((0 + ms2) + ms5) + ms12 ≤ ms) ∧ (wp_St_isEmpty g (fun (r14 : Int32) (S13 : StC) => (((r14 = 0) → wq_Rd_advance_35 g post mc ms  S13 (1) ((((0 + mc1) + mc4) + mc11)) ((((0 + ms2) + ms5) + ms12))) ∧ (¬ (r14 = 0) → wq_Rd_advance_35 g post mc ms  S13 (0) ((((0 + mc1) + mc4) + mc11)) ((((0 + ms2) + ms5) + ms12))))) mc11 ms12 (S6.1, S6.2.1, (va_up S6.2.2.1 2 (y8)), S6.2.2.2) (y8)))))) mc4 ms5 ((upd S3.1 4 ((S3.1 3))), S3.2) ))) mc1 ms2 S )
set_option maxRecDepth 100000 in
set_option maxHeartbeats 4000000 in
theorem c_Rd_advance (l : Launch) (g : Gm) (sz : Nat) (S : StC)  (post : Int32 → StC → Prop) (mc ms : Nat) (hw : wp_Rd_advance g post mc ms S ) : Met l y_Rd_advance (.code y_Rd_advance b_Rd_advance 1 (some .boolean) :: w_C) (rmA 6 153 mc ms) (va_Pc [.ref (g.2.2 2)] (PC g sz S)) (va_Qi post (BC g (AC g sz S)) (AC g sz S)) mc ms (AC g sz S) := by
  refine ofA_z (by decide) (Nat.le_of_ble_eq_true rfl) (fun p e s m args below meth c Q A H locs ls hx hb hml hts hown hK hA hC hN hmn kr hl hP hD hS => ?_)
  have hl : lv_has ls 1 [(0, .ref (g.2.2 2))] := hl
  unfold wp_Rd_advance at hw
  have hcm : 0 ≤ mc := Nat.zero_le _
  have hzm : 0 ≤ ms := Nat.zero_le _
  have J35 : ∀ (S : StC) (t0 : Int32) (c0 : Nat) (z0 : Nat) (H : Heap) (locs : List Loc) (ls : Array Slot), c0 ≤ mc → z0 ≤ ms → wq_Rd_advance_35 g post mc ms  S t0 c0 z0 → lv_has ls 1 [] → va_P g.1 classes (wC g S) H → va_D A (wC g S) → va_S A s.heap H locs → W p l e (rmA 6 153 mc ms) s m args below meth c H locs c0 z0 Q (F0 m 35 ls [.int (t0)]) := by
    intro S t0 c0 z0 H locs ls hcm hzm hw hl hP hD hS
    unfold wq_Rd_advance_35 at hw
    obtain ⟨hnz, hw⟩ := hw
    exact kr (t0) S _ _ _ _ _ _ hcm hzm hnz hw hP hD hS d_Rd_advance_35
  refine lv_aload_n hx hb d_Rd_advance_0 rfl (lv_at hl 0 rfl) ?_
  obtain ⟨mc1, ms2, hcm, hzm, hw⟩ := hw
  refine cA_vV (As := []) (rest := []) hx hb hml hown hts hK hC hN hP hD hS hA hcm hzm hl.1 (va_recv (q0 := 2) (ci := 4) (q := (R_Rd, F_Rd, 6)) hK hP rfl rfl) (qA_28 hts ⟨Nat.le_of_ble_eq_true rfl, Nat.le_of_ble_eq_true rfl⟩) (c_Rd_skipSpaces l g H.size _  _ _ _ hw) rfl rfl (Nat.le_of_ble_eq_true rfl) d_Rd_advance_1 (fun S3 H locs hw hP hD hS => ?_)
  refine lv_aload_n hx hb d_Rd_advance_4 rfl (lv_at hl 0 rfl) ?_
  refine lv_aload_n hx hb d_Rd_advance_5 rfl (lv_at hl 0 rfl) ?_
  refine va_get (D := g.1) (ci := 4) (v := .int ((S3.1 3))) (C := R_Rd) (T := F_Rd) (N := 6) hx hb hts hin_Rd hown hK hP 2 rfl rfl 3 (by decide) (hts _ k_C_130) (fun _ h9 => h9) rfl d_Rd_advance_6 ?_
  refine pt_C (S2 := ((upd S3.1 4 ((S3.1 3))), S3.2)) (v := .int ((S3.1 3))) (C := R_Rd) (F := F_Rd) (N := 6) (ci := 4) hx hb hts hin_Rd t_Rd t_Rd_ok n_Rd hown hK hP hD hS 2 rfl rfl 4 (by decide) rfl rfl rfl (Nat.le_of_ble_eq_true rfl) (sI_C_4 g _ _) k_C_131 d_Rd_advance_9 (fun H locs hP hD hS => ?_)
  refine lv_aload_n hx hb d_Rd_advance_12 rfl (lv_at hl 0 rfl) ?_
  refine lv_aload_n hx hb d_Rd_advance_13 rfl (lv_at hl 0 rfl) ?_
  obtain ⟨mc4, ms5, hcm, hzm, hw⟩ := hw
  refine cA_qV (As := []) (rest := [.ref (g.2.2 2)]) hx hb hml hown hts hK hC hN hP hD hS hA hcm hzm hl.1 (va_recv (q0 := 2) (ci := 4) (q := (R_Rd, F_Rd, 6)) hK hP rfl rfl) (qA_29 hts ⟨Nat.le_of_ble_eq_true rfl, Nat.le_of_ble_eq_true rfl⟩) (c_Rd_cutToken l g H.size _  _ _ _ hw) rfl rfl (Nat.le_of_ble_eq_true rfl) d_Rd_advance_14 (fun r7 S6 H locs hw hP hD hS => ?_)
  obtain ⟨y8, hy9, hw⟩ := hw
  refine W_rf hy9 ?_
  refine pt_C (S2 := (S6.1, S6.2.1, (va_up S6.2.2.1 2 (y8)), S6.2.2.2)) (v := .ref (y8)) (C := R_Rd) (F := F_Rd) (N := 6) (ci := 4) hx hb hts hin_Rd t_Rd t_Rd_ok n_Rd hown hK hP hD hS 2 rfl rfl 5 (by decide) rfl rfl rfl (Nat.le_of_ble_eq_true rfl) (sP_C_2 g _ _) k_C_132 d_Rd_advance_17 (fun H locs hP hD hS => ?_)
  refine lv_aload_n hx hb d_Rd_advance_20 rfl (lv_at hl 0 rfl) ?_
  refine va_get (D := g.1) (ci := 4) (v := .ref (y8)) (C := R_Rd) (T := F_Rd) (N := 6) hx hb hts hin_Rd hown hK hP 2 rfl rfl 5 (by decide) (hts _ k_C_132) (fun _ h9 => h9) rfl d_Rd_advance_21 ?_
  obtain ⟨hsr10, hw⟩ := hw
  obtain ⟨mc11, ms12, hcm, hzm, hw⟩ := hw
  refine cA_iV (As := []) (rest := []) hx hb hml hown hts hK hC hN hP hD hS hA hcm hzm hl.1 (strv_C hK hC hP hS hsr10) (qA_30 hts ⟨Nat.le_of_ble_eq_true rfl, Nat.le_of_ble_eq_true rfl⟩) (c_St_isEmpty l g H.size _ (y8) _ _ _ hw) rfl rfl (Nat.le_of_ble_eq_true rfl) d_Rd_advance_24 (fun r14 S13 H locs hw hP hD hS => ?_)
  refine lv_if_ne hx hb d_Rd_advance_27 (tgt := 34) (by decide) (fun hc => ?_) (fun hc => ?_)
  · have hw := hw.2 hc
    refine lv_iconst (v := 0) hx hb d_Rd_advance_34 (by decide) ?_
    exact J35 S13 (0) ((((0 + mc1) + mc4) + mc11)) ((((0 + ms2) + ms5) + ms12)) _ _ _ hcm hzm hw (lv_sub hl [] rfl) hP hD hS
  · have hw := hw.1 hc
    refine lv_iconst (v := 1) hx hb d_Rd_advance_30 (by decide) ?_
    refine lv_goto hx hb d_Rd_advance_31 (tgt := 35) (by decide) ?_
    exact J35 S13 (1) ((((0 + mc1) + mc4) + mc11)) ((((0 + ms2) + ms5) + ms12)) _ _ _ hcm hzm hw (lv_sub hl [] rfl) hP hD hS
theorem d_Rd_isNumber_0 : decode b_Rd_isNumber 0 = .ok (.aload_n 0, 1) := by decide +kernel
theorem d_Rd_isNumber_1 : decode b_Rd_isNumber 1 = .ok (.invokevirtual 51, 3) := by decide +kernel
theorem d_Rd_isNumber_4 : decode b_Rd_isNumber 4 = .ok (.ifCond .ne 17, 3) := by decide +kernel
theorem d_Rd_isNumber_7 : decode b_Rd_isNumber 7 = .ok (.aload_n 0, 1) := by decide +kernel
theorem d_Rd_isNumber_8 : decode b_Rd_isNumber 8 = .ok (.iconst 0, 1) := by decide +kernel
theorem d_Rd_isNumber_9 : decode b_Rd_isNumber 9 = .ok (.invokevirtual 61, 3) := by decide +kernel
theorem d_Rd_isNumber_12 : decode b_Rd_isNumber 12 = .ok (.bipush 45, 2) := by decide +kernel
theorem d_Rd_isNumber_14 : decode b_Rd_isNumber 14 = .ok (.if_icmp .ne 7, 3) := by decide +kernel
theorem d_Rd_isNumber_17 : decode b_Rd_isNumber 17 = .ok (.iconst 1, 1) := by decide +kernel
theorem d_Rd_isNumber_18 : decode b_Rd_isNumber 18 = .ok (.goto 4, 3) := by decide +kernel
theorem d_Rd_isNumber_21 : decode b_Rd_isNumber 21 = .ok (.iconst 0, 1) := by decide +kernel
theorem d_Rd_isNumber_22 : decode b_Rd_isNumber 22 = .ok (.istore_n 1, 1) := by decide +kernel
theorem d_Rd_isNumber_23 : decode b_Rd_isNumber 23 = .ok (.aload_n 0, 1) := by decide +kernel
theorem d_Rd_isNumber_24 : decode b_Rd_isNumber 24 = .ok (.invokevirtual 57, 3) := by decide +kernel
theorem d_Rd_isNumber_27 : decode b_Rd_isNumber 27 = .ok (.iload_n 1, 1) := by decide +kernel
theorem d_Rd_isNumber_28 : decode b_Rd_isNumber 28 = .ok (.isub, 1) := by decide +kernel
theorem d_Rd_isNumber_29 : decode b_Rd_isNumber 29 = .ok (.istore_n 2, 1) := by decide +kernel
theorem d_Rd_isNumber_30 : decode b_Rd_isNumber 30 = .ok (.iload_n 2, 1) := by decide +kernel
theorem d_Rd_isNumber_31 : decode b_Rd_isNumber 31 = .ok (.iconst 1, 1) := by decide +kernel
theorem d_Rd_isNumber_32 : decode b_Rd_isNumber 32 = .ok (.if_icmp .lt 9, 3) := by decide +kernel
theorem d_Rd_isNumber_35 : decode b_Rd_isNumber 35 = .ok (.iload_n 2, 1) := by decide +kernel
theorem d_Rd_isNumber_36 : decode b_Rd_isNumber 36 = .ok (.bipush 6, 2) := by decide +kernel
theorem d_Rd_isNumber_38 : decode b_Rd_isNumber 38 = .ok (.if_icmp .le 5, 3) := by decide +kernel
theorem d_Rd_isNumber_41 : decode b_Rd_isNumber 41 = .ok (.iconst 0, 1) := by decide +kernel
theorem d_Rd_isNumber_42 : decode b_Rd_isNumber 42 = .ok (.ireturn, 1) := by decide +kernel
theorem d_Rd_isNumber_43 : decode b_Rd_isNumber 43 = .ok (.iload_n 1, 1) := by decide +kernel
theorem d_Rd_isNumber_44 : decode b_Rd_isNumber 44 = .ok (.istore_n 3, 1) := by decide +kernel
theorem d_Rd_isNumber_45 : decode b_Rd_isNumber 45 = .ok (.iload_n 3, 1) := by decide +kernel
theorem d_Rd_isNumber_46 : decode b_Rd_isNumber 46 = .ok (.aload_n 0, 1) := by decide +kernel
theorem d_Rd_isNumber_47 : decode b_Rd_isNumber 47 = .ok (.invokevirtual 57, 3) := by decide +kernel
theorem d_Rd_isNumber_50 : decode b_Rd_isNumber 50 = .ok (.if_icmp .ge 31, 3) := by decide +kernel
theorem d_Rd_isNumber_53 : decode b_Rd_isNumber 53 = .ok (.aload_n 0, 1) := by decide +kernel
theorem d_Rd_isNumber_54 : decode b_Rd_isNumber 54 = .ok (.iload_n 3, 1) := by decide +kernel
theorem d_Rd_isNumber_55 : decode b_Rd_isNumber 55 = .ok (.invokevirtual 61, 3) := by decide +kernel
theorem d_Rd_isNumber_58 : decode b_Rd_isNumber 58 = .ok (.bipush 48, 2) := by decide +kernel
theorem d_Rd_isNumber_60 : decode b_Rd_isNumber 60 = .ok (.if_icmp .lt 13, 3) := by decide +kernel
theorem d_Rd_isNumber_63 : decode b_Rd_isNumber 63 = .ok (.aload_n 0, 1) := by decide +kernel
theorem d_Rd_isNumber_64 : decode b_Rd_isNumber 64 = .ok (.iload_n 3, 1) := by decide +kernel
theorem d_Rd_isNumber_65 : decode b_Rd_isNumber 65 = .ok (.invokevirtual 61, 3) := by decide +kernel
theorem d_Rd_isNumber_68 : decode b_Rd_isNumber 68 = .ok (.bipush 57, 2) := by decide +kernel
theorem d_Rd_isNumber_70 : decode b_Rd_isNumber 70 = .ok (.if_icmp .le 5, 3) := by decide +kernel
theorem d_Rd_isNumber_73 : decode b_Rd_isNumber 73 = .ok (.iconst 0, 1) := by decide +kernel
theorem d_Rd_isNumber_74 : decode b_Rd_isNumber 74 = .ok (.ireturn, 1) := by decide +kernel
theorem d_Rd_isNumber_75 : decode b_Rd_isNumber 75 = .ok (.iinc 3 1, 3) := by decide +kernel
theorem d_Rd_isNumber_78 : decode b_Rd_isNumber 78 = .ok (.goto (-33), 3) := by decide +kernel
theorem d_Rd_isNumber_81 : decode b_Rd_isNumber 81 = .ok (.iconst 1, 1) := by decide +kernel
theorem d_Rd_isNumber_82 : decode b_Rd_isNumber 82 = .ok (.ireturn, 1) := by decide +kernel
def wq_Rd_isNumber_73 (g : Gm) (post : Int32 → StC → Prop) (mc ms : Nat) (k45 : StC → Nat → Int32 → Nat → Nat → Prop) (S : StC) (c0 : Nat) (z0 : Nat) : Prop :=
  post (0) S
def wq_Rd_isNumber_45 (g : Gm) (post : Int32 → StC → Prop) (mc ms : Nat)  : Nat → StC → Nat → Int32 → Nat → Nat → Prop
  | 0, _, _, _, _, _ => False
  | n45 + 1, S, x0, x3, c0, z0 =>
    (isStr g S (x0)) ∧ (∃ (mc2 : Nat) (ms3 : Nat), (c0 + mc2 ≤ mc) ∧ (z0 + ms3 ≤ ms) ∧ (wp_St_length g (fun (r5 : Int32) (S4 : StC) => (((r5 ≤ x3) → post (1) S4) ∧ (¬ (r5 ≤ x3) → (isStr g S4 (x0)) ∧ (∃ (mc7 : Nat) (ms8 : Nat), ((c0 + mc2) + mc7 ≤ mc) ∧ ((z0 + ms3) + ms8 ≤ ms) ∧ (wp_St_charAt g (fun (r10 : Int32) (S9 : StC) => (((r10 < 48) → wq_Rd_isNumber_73 g post mc ms (wq_Rd_isNumber_45 g post mc ms  n45) S9 (((c0 + mc2) + mc7)) (((z0 + ms3) + ms8))) ∧ (¬ (r10 < 48) → (isStr g S9 (x0)) ∧ (∃ (mc12 : Nat) (ms13 : Nat), (((c0 + mc2) + mc7) + mc12 ≤ mc) ∧ (((z0 + ms3) + ms8) + ms13 ≤ ms) ∧ (wp_St_charAt g (fun (r15 : Int32) (S14 : StC) => (((r15 ≤ 57) → (wq_Rd_isNumber_45 g post mc ms  n45) S14 (x0) ((x3 + 1)) ((((c0 + mc2) + mc7) + mc12)) ((((z0 + ms3) + ms8) + ms13))) ∧ (¬ (r15 ≤ 57) → wq_Rd_isNumber_73 g post mc ms (wq_Rd_isNumber_45 g post mc ms  n45) S14 ((((c0 + mc2) + mc7) + mc12)) ((((z0 + ms3) + ms8) + ms13))))) mc12 ms13 S9 (x0) (x3)))))) mc7 ms8 S4 (x0) (x3)))))) mc2 ms3 S (x0)))
def wq_Rd_isNumber_41 (g : Gm) (post : Int32 → StC → Prop) (mc ms : Nat)  (S : StC) (c0 : Nat) (z0 : Nat) : Prop :=
  post (0) S
def wq_Rd_isNumber_22 (g : Gm) (post : Int32 → StC → Prop) (mc ms : Nat)  (S : StC) (x0 : Nat) (t0 : Int32) (c0 : Nat) (z0 : Nat) : Prop :=
  (isStr g S (x0)) ∧ (∃ (mc17 : Nat) (ms18 : Nat), (c0 + mc17 ≤ mc) ∧ (z0 + ms18 ≤ ms) ∧ (wp_St_length g (fun (r20 : Int32) (S19 : StC) => ((((r20 - t0) < 1) → wq_Rd_isNumber_41 g post mc ms  S19 ((c0 + mc17)) ((z0 + ms18))) ∧ (¬ ((r20 - t0) < 1) → (((r20 - t0) ≤ 6) → ∃ nn : Nat, wq_Rd_isNumber_45 g post mc ms  nn S19 (x0) (t0) ((c0 + mc17)) ((z0 + ms18))) ∧ (¬ ((r20 - t0) ≤ 6) → wq_Rd_isNumber_41 g post mc ms  S19 ((c0 + mc17)) ((z0 + ms18)))))) mc17 ms18 S (x0)))
def wq_Rd_isNumber_21 (g : Gm) (post : Int32 → StC → Prop) (mc ms : Nat)  (S : StC) (x0 : Nat) (c0 : Nat) (z0 : Nat) : Prop :=
  wq_Rd_isNumber_22 g post mc ms  S (x0) (0) (c0) (z0)
def wp_Rd_isNumber (g : Gm) (post : Int32 → StC → Prop) (mc ms : Nat) (S : StC) (a0 : Nat) : Prop :=
  (isStr g S (a0)) ∧ (∃ (mc22 : Nat) (ms23 : Nat), (0 + mc22 ≤ mc) ∧ (0 + ms23 ≤ ms) ∧ (wp_St_isEmpty g (fun (r25 : Int32) (S24 : StC) => (((r25 = 0) → (isStr g S24 (a0)) ∧ (∃ (mc27 : Nat) (ms28 : Nat), ((0 + mc22) + mc27 ≤ mc) ∧ ((0 + ms23) + ms28 ≤ ms) ∧ (wp_St_charAt g (fun (r30 : Int32) (S29 : StC) => (((r30 = 45) → wq_Rd_isNumber_22 g post mc ms  S29 (a0) (1) (((0 + mc22) + mc27)) (((0 + ms23) + ms28))) ∧ (¬ (r30 = 45) → wq_Rd_isNumber_21 g post mc ms  S29 (a0) (((0 + mc22) + mc27)) (((0 + ms23) + ms28))))) mc27 ms28 S24 (a0) (0)))) ∧ (¬ (r25 = 0) → wq_Rd_isNumber_21 g post mc ms  S24 (a0) ((0 + mc22)) ((0 + ms23))))) mc22 ms23 S (a0)))
set_option maxRecDepth 100000 in
set_option maxHeartbeats 4000000 in
theorem c_Rd_isNumber (l : Launch) (g : Gm) (sz : Nat) (S : StC) (a0 : Nat) (post : Int32 → StC → Prop) (mc ms : Nat) (hw : wp_Rd_isNumber g post mc ms S a0) : Met l y_Rd_isNumber (.code y_Rd_isNumber b_Rd_isNumber 4 (some .boolean) :: w_C) (rmA 4 85 mc ms) (va_Pc [.ref (a0)] (PC g sz S)) (va_Qi post (BC g (AC g sz S)) (AC g sz S)) mc ms (AC g sz S) := by
  refine ofA_z (by decide) (Nat.le_of_ble_eq_true rfl) (fun p e s m args below meth c Q A H locs ls hx hb hml hts hown hK hA hC hN hmn kr hl hP hD hS => ?_)
  have hl : lv_has ls 4 [(0, .ref (a0))] := hl
  unfold wp_Rd_isNumber at hw
  have hcm : 0 ≤ mc := Nat.zero_le _
  have hzm : 0 ≤ ms := Nat.zero_le _
  have J45 : ∀ (n45 : Nat), ∀ (S : StC) (x0 : Nat) (x3 : Int32) (c0 : Nat) (z0 : Nat) (H : Heap) (locs : List Loc) (ls : Array Slot), c0 ≤ mc → z0 ≤ ms → wq_Rd_isNumber_45 g post mc ms  n45 S x0 x3 c0 z0 → lv_has ls 4 [(0, .ref (x0)), (3, .int (x3))] → va_P g.1 classes (wC g S) H → va_D A (wC g S) → va_S A s.heap H locs → W p l e (rmA 4 85 mc ms) s m args below meth c H locs c0 z0 Q (F0 m 45 ls []) := by
    intro n45
    induction n45 with
    | zero => intro S x0 x3 c0 z0 H locs ls hcm hzm hw; exact hw.elim
    | succ n45 ih45 =>
      have J73 : ∀ (S : StC) (c0 : Nat) (z0 : Nat) (H : Heap) (locs : List Loc) (ls : Array Slot), c0 ≤ mc → z0 ≤ ms → wq_Rd_isNumber_73 g post mc ms (wq_Rd_isNumber_45 g post mc ms  n45) S c0 z0 → lv_has ls 4 [] → va_P g.1 classes (wC g S) H → va_D A (wC g S) → va_S A s.heap H locs → W p l e (rmA 4 85 mc ms) s m args below meth c H locs c0 z0 Q (F0 m 73 ls []) := by
        intro S c0 z0 H locs ls hcm hzm hw hl hP hD hS
        unfold wq_Rd_isNumber_73 at hw
        refine lv_iconst (v := 0) hx hb d_Rd_isNumber_73 (by decide) ?_
        exact kr (0) S _ _ _ _ _ _ hcm hzm rfl hw hP hD hS d_Rd_isNumber_74
      intro S x0 x3 c0 z0 H locs ls hcm hzm hw hl hP hD hS
      unfold wq_Rd_isNumber_45 at hw
      refine lv_iload_n hx hb d_Rd_isNumber_45 rfl (lv_at hl 1 rfl) ?_
      refine lv_aload_n hx hb d_Rd_isNumber_46 rfl (lv_at hl 0 rfl) ?_
      obtain ⟨hsr1, hw⟩ := hw
      obtain ⟨mc2, ms3, hcm, hzm, hw⟩ := hw
      refine cA_iV (As := []) (rest := [.int (x3)]) hx hb hml hown hts hK hC hN hP hD hS hA hcm hzm hl.1 (strv_C hK hC hP hS hsr1) (qA_19 hts ⟨Nat.le_of_ble_eq_true rfl, Nat.le_of_ble_eq_true rfl⟩) (c_St_length l g H.size _ (x0) _ _ _ hw) rfl rfl (Nat.le_of_ble_eq_true rfl) d_Rd_isNumber_47 (fun r5 S4 H locs hw hP hD hS => ?_)
      refine lv_icmp_ge hx hb d_Rd_isNumber_50 (tgt := 81) (by decide) (fun hc => ?_) (fun hc => ?_)
      · have hw := hw.1 hc
        refine lv_iconst (v := 1) hx hb d_Rd_isNumber_81 (by decide) ?_
        exact kr (1) S4 _ _ _ _ _ _ hcm hzm rfl hw hP hD hS d_Rd_isNumber_82
      · have hw := hw.2 hc
        refine lv_aload_n hx hb d_Rd_isNumber_53 rfl (lv_at hl 0 rfl) ?_
        refine lv_iload_n hx hb d_Rd_isNumber_54 rfl (lv_at hl 1 rfl) ?_
        obtain ⟨hsr6, hw⟩ := hw
        obtain ⟨mc7, ms8, hcm, hzm, hw⟩ := hw
        refine cA_iV (As := [.int (x3)]) (rest := []) hx hb hml hown hts hK hC hN hP hD hS hA hcm hzm hl.1 (strv_C hK hC hP hS hsr6) (qA_20 hts ⟨Nat.le_of_ble_eq_true rfl, Nat.le_of_ble_eq_true rfl⟩) (c_St_charAt l g H.size _ (x0) (x3) _ _ _ hw) rfl rfl (Nat.le_of_ble_eq_true rfl) d_Rd_isNumber_55 (fun r10 S9 H locs hw hP hD hS => ?_)
        refine lv_bipush (v := 48) hx hb d_Rd_isNumber_58 (by decide) ?_
        refine lv_icmp_lt hx hb d_Rd_isNumber_60 (tgt := 73) (by decide) (fun hc => ?_) (fun hc => ?_)
        · have hw := hw.1 hc
          exact J73 S9 (((c0 + mc2) + mc7)) (((z0 + ms3) + ms8)) _ _ _ hcm hzm hw (lv_sub hl [] rfl) hP hD hS
        · have hw := hw.2 hc
          refine lv_aload_n hx hb d_Rd_isNumber_63 rfl (lv_at hl 0 rfl) ?_
          refine lv_iload_n hx hb d_Rd_isNumber_64 rfl (lv_at hl 1 rfl) ?_
          obtain ⟨hsr11, hw⟩ := hw
          obtain ⟨mc12, ms13, hcm, hzm, hw⟩ := hw
          refine cA_iV (As := [.int (x3)]) (rest := []) hx hb hml hown hts hK hC hN hP hD hS hA hcm hzm hl.1 (strv_C hK hC hP hS hsr11) (qA_20 hts ⟨Nat.le_of_ble_eq_true rfl, Nat.le_of_ble_eq_true rfl⟩) (c_St_charAt l g H.size _ (x0) (x3) _ _ _ hw) rfl rfl (Nat.le_of_ble_eq_true rfl) d_Rd_isNumber_65 (fun r15 S14 H locs hw hP hD hS => ?_)
          refine lv_bipush (v := 57) hx hb d_Rd_isNumber_68 (by decide) ?_
          refine lv_icmp_le hx hb d_Rd_isNumber_70 (tgt := 75) (by decide) (fun hc => ?_) (fun hc => ?_)
          · have hw := hw.1 hc
            refine lv_iinc (k := 1) (v := (x3 + 1)) (lv' := [(3, .int ((x3 + 1))), (0, .ref (x0))]) hx hb d_Rd_isNumber_75 hl rfl rfl (by decide) rfl (fun ls hl => ?_)
            refine lv_goto hx hb d_Rd_isNumber_78 (tgt := 45) (by decide) ?_
            exact ih45 S14 (x0) ((x3 + 1)) ((((c0 + mc2) + mc7) + mc12)) ((((z0 + ms3) + ms8) + ms13)) _ _ _ hcm hzm hw (lv_sub hl [1, 0] rfl) hP hD hS
          · have hw := hw.2 hc
            exact J73 S14 ((((c0 + mc2) + mc7) + mc12)) ((((z0 + ms3) + ms8) + ms13)) _ _ _ hcm hzm hw (lv_sub hl [] rfl) hP hD hS
  have J41 : ∀ (S : StC) (c0 : Nat) (z0 : Nat) (H : Heap) (locs : List Loc) (ls : Array Slot), c0 ≤ mc → z0 ≤ ms → wq_Rd_isNumber_41 g post mc ms  S c0 z0 → lv_has ls 4 [] → va_P g.1 classes (wC g S) H → va_D A (wC g S) → va_S A s.heap H locs → W p l e (rmA 4 85 mc ms) s m args below meth c H locs c0 z0 Q (F0 m 41 ls []) := by
    intro S c0 z0 H locs ls hcm hzm hw hl hP hD hS
    unfold wq_Rd_isNumber_41 at hw
    refine lv_iconst (v := 0) hx hb d_Rd_isNumber_41 (by decide) ?_
    exact kr (0) S _ _ _ _ _ _ hcm hzm rfl hw hP hD hS d_Rd_isNumber_42
  have J22 : ∀ (S : StC) (x0 : Nat) (t0 : Int32) (c0 : Nat) (z0 : Nat) (H : Heap) (locs : List Loc) (ls : Array Slot), c0 ≤ mc → z0 ≤ ms → wq_Rd_isNumber_22 g post mc ms  S x0 t0 c0 z0 → lv_has ls 4 [(0, .ref (x0))] → va_P g.1 classes (wC g S) H → va_D A (wC g S) → va_S A s.heap H locs → W p l e (rmA 4 85 mc ms) s m args below meth c H locs c0 z0 Q (F0 m 22 ls [.int (t0)]) := by
    intro S x0 t0 c0 z0 H locs ls hcm hzm hw hl hP hD hS
    unfold wq_Rd_isNumber_22 at hw
    refine lv_istore_n (lv' := [(1, .int (t0)), (0, .ref (x0))]) hx hb d_Rd_isNumber_22 rfl hl (by decide) rfl (fun ls hl => ?_)
    refine lv_aload_n hx hb d_Rd_isNumber_23 rfl (lv_at hl 1 rfl) ?_
    obtain ⟨hsr16, hw⟩ := hw
    obtain ⟨mc17, ms18, hcm, hzm, hw⟩ := hw
    refine cA_iV (As := []) (rest := []) hx hb hml hown hts hK hC hN hP hD hS hA hcm hzm hl.1 (strv_C hK hC hP hS hsr16) (qA_19 hts ⟨Nat.le_of_ble_eq_true rfl, Nat.le_of_ble_eq_true rfl⟩) (c_St_length l g H.size _ (x0) _ _ _ hw) rfl rfl (Nat.le_of_ble_eq_true rfl) d_Rd_isNumber_24 (fun r20 S19 H locs hw hP hD hS => ?_)
    refine lv_iload_n hx hb d_Rd_isNumber_27 rfl (lv_at hl 0 rfl) ?_
    refine lv_isub hx hb d_Rd_isNumber_28 ?_
    refine lv_istore_n (lv' := [(2, .int ((r20 - t0))), (1, .int (t0)), (0, .ref (x0))]) hx hb d_Rd_isNumber_29 rfl hl (by decide) rfl (fun ls hl => ?_)
    refine lv_iload_n hx hb d_Rd_isNumber_30 rfl (lv_at hl 0 rfl) ?_
    refine lv_iconst (v := 1) hx hb d_Rd_isNumber_31 (by decide) ?_
    refine lv_icmp_lt hx hb d_Rd_isNumber_32 (tgt := 41) (by decide) (fun hc => ?_) (fun hc => ?_)
    · have hw := hw.1 hc
      exact J41 S19 ((c0 + mc17)) ((z0 + ms18)) _ _ _ hcm hzm hw (lv_sub hl [] rfl) hP hD hS
    · have hw := hw.2 hc
      refine lv_iload_n hx hb d_Rd_isNumber_35 rfl (lv_at hl 0 rfl) ?_
      refine lv_bipush (v := 6) hx hb d_Rd_isNumber_36 (by decide) ?_
      refine lv_icmp_le hx hb d_Rd_isNumber_38 (tgt := 43) (by decide) (fun hc => ?_) (fun hc => ?_)
      · have hw := hw.1 hc
        refine lv_iload_n hx hb d_Rd_isNumber_43 rfl (lv_at hl 1 rfl) ?_
        refine lv_istore_n (lv' := [(3, .int (t0)), (2, .int ((r20 - t0))), (1, .int (t0)), (0, .ref (x0))]) hx hb d_Rd_isNumber_44 rfl hl (by decide) rfl (fun ls hl => ?_)
        obtain ⟨nn, hw⟩ := hw
        exact J45 nn S19 (x0) (t0) ((c0 + mc17)) ((z0 + ms18)) _ _ _ hcm hzm hw (lv_sub hl [3, 0] rfl) hP hD hS
      · have hw := hw.2 hc
        exact J41 S19 ((c0 + mc17)) ((z0 + ms18)) _ _ _ hcm hzm hw (lv_sub hl [] rfl) hP hD hS
  have J21 : ∀ (S : StC) (x0 : Nat) (c0 : Nat) (z0 : Nat) (H : Heap) (locs : List Loc) (ls : Array Slot), c0 ≤ mc → z0 ≤ ms → wq_Rd_isNumber_21 g post mc ms  S x0 c0 z0 → lv_has ls 4 [(0, .ref (x0))] → va_P g.1 classes (wC g S) H → va_D A (wC g S) → va_S A s.heap H locs → W p l e (rmA 4 85 mc ms) s m args below meth c H locs c0 z0 Q (F0 m 21 ls []) := by
    intro S x0 c0 z0 H locs ls hcm hzm hw hl hP hD hS
    unfold wq_Rd_isNumber_21 at hw
    refine lv_iconst (v := 0) hx hb d_Rd_isNumber_21 (by decide) ?_
    exact J22 S (x0) (0) (c0) (z0) _ _ _ hcm hzm hw (lv_sub hl [0] rfl) hP hD hS
  refine lv_aload_n hx hb d_Rd_isNumber_0 rfl (lv_at hl 0 rfl) ?_
  obtain ⟨hsr21, hw⟩ := hw
  obtain ⟨mc22, ms23, hcm, hzm, hw⟩ := hw
  refine cA_iV (As := []) (rest := []) hx hb hml hown hts hK hC hN hP hD hS hA hcm hzm hl.1 (strv_C hK hC hP hS hsr21) (qA_30 hts ⟨Nat.le_of_ble_eq_true rfl, Nat.le_of_ble_eq_true rfl⟩) (c_St_isEmpty l g H.size _ (a0) _ _ _ hw) rfl rfl (Nat.le_of_ble_eq_true rfl) d_Rd_isNumber_1 (fun r25 S24 H locs hw hP hD hS => ?_)
  refine lv_if_ne hx hb d_Rd_isNumber_4 (tgt := 21) (by decide) (fun hc => ?_) (fun hc => ?_)
  · have hw := hw.2 hc
    exact J21 S24 (a0) ((0 + mc22)) ((0 + ms23)) _ _ _ hcm hzm hw (lv_sub hl [0] rfl) hP hD hS
  · have hw := hw.1 hc
    refine lv_aload_n hx hb d_Rd_isNumber_7 rfl (lv_at hl 0 rfl) ?_
    refine lv_iconst (v := 0) hx hb d_Rd_isNumber_8 (by decide) ?_
    obtain ⟨hsr26, hw⟩ := hw
    obtain ⟨mc27, ms28, hcm, hzm, hw⟩ := hw
    refine cA_iV (As := [.int (0)]) (rest := []) hx hb hml hown hts hK hC hN hP hD hS hA hcm hzm hl.1 (strv_C hK hC hP hS hsr26) (qA_20 hts ⟨Nat.le_of_ble_eq_true rfl, Nat.le_of_ble_eq_true rfl⟩) (c_St_charAt l g H.size _ (a0) (0) _ _ _ hw) rfl rfl (Nat.le_of_ble_eq_true rfl) d_Rd_isNumber_9 (fun r30 S29 H locs hw hP hD hS => ?_)
    refine lv_bipush (v := 45) hx hb d_Rd_isNumber_12 (by decide) ?_
    refine lv_icmp_ne hx hb d_Rd_isNumber_14 (tgt := 21) (by decide) (fun hc => ?_) (fun hc => ?_)
    · have hw := hw.2 hc
      exact J21 S29 (a0) (((0 + mc22) + mc27)) (((0 + ms23) + ms28)) _ _ _ hcm hzm hw (lv_sub hl [0] rfl) hP hD hS
    · have hw := hw.1 hc
      refine lv_iconst (v := 1) hx hb d_Rd_isNumber_17 (by decide) ?_
      refine lv_goto hx hb d_Rd_isNumber_18 (tgt := 22) (by decide) ?_
      exact J22 S29 (a0) (1) (((0 + mc22) + mc27)) (((0 + ms23) + ms28)) _ _ _ hcm hzm hw (lv_sub hl [0] rfl) hP hD hS
theorem d_Rd_numberOf_0 : decode b_Rd_numberOf 0 = .ok (.aload_n 0, 1) := by decide +kernel
theorem d_Rd_numberOf_1 : decode b_Rd_numberOf 1 = .ok (.iconst 0, 1) := by decide +kernel
theorem d_Rd_numberOf_2 : decode b_Rd_numberOf 2 = .ok (.invokevirtual 61, 3) := by decide +kernel
theorem d_Rd_numberOf_5 : decode b_Rd_numberOf 5 = .ok (.bipush 45, 2) := by decide +kernel
theorem d_Rd_numberOf_7 : decode b_Rd_numberOf 7 = .ok (.if_icmp .ne 7, 3) := by decide +kernel
theorem d_Rd_numberOf_10 : decode b_Rd_numberOf 10 = .ok (.iconst 1, 1) := by decide +kernel
theorem d_Rd_numberOf_11 : decode b_Rd_numberOf 11 = .ok (.goto 4, 3) := by decide +kernel
theorem d_Rd_numberOf_14 : decode b_Rd_numberOf 14 = .ok (.iconst 0, 1) := by decide +kernel
theorem d_Rd_numberOf_15 : decode b_Rd_numberOf 15 = .ok (.istore_n 1, 1) := by decide +kernel
theorem d_Rd_numberOf_16 : decode b_Rd_numberOf 16 = .ok (.iconst 0, 1) := by decide +kernel
theorem d_Rd_numberOf_17 : decode b_Rd_numberOf 17 = .ok (.istore_n 2, 1) := by decide +kernel
theorem d_Rd_numberOf_18 : decode b_Rd_numberOf 18 = .ok (.iload_n 1, 1) := by decide +kernel
theorem d_Rd_numberOf_19 : decode b_Rd_numberOf 19 = .ok (.ifCond .eq 7, 3) := by decide +kernel
theorem d_Rd_numberOf_22 : decode b_Rd_numberOf 22 = .ok (.iconst 1, 1) := by decide +kernel
theorem d_Rd_numberOf_23 : decode b_Rd_numberOf 23 = .ok (.goto 4, 3) := by decide +kernel
theorem d_Rd_numberOf_26 : decode b_Rd_numberOf 26 = .ok (.iconst 0, 1) := by decide +kernel
theorem d_Rd_numberOf_27 : decode b_Rd_numberOf 27 = .ok (.istore_n 3, 1) := by decide +kernel
theorem d_Rd_numberOf_28 : decode b_Rd_numberOf 28 = .ok (.iload_n 3, 1) := by decide +kernel
theorem d_Rd_numberOf_29 : decode b_Rd_numberOf 29 = .ok (.aload_n 0, 1) := by decide +kernel
theorem d_Rd_numberOf_30 : decode b_Rd_numberOf 30 = .ok (.invokevirtual 57, 3) := by decide +kernel
theorem d_Rd_numberOf_33 : decode b_Rd_numberOf 33 = .ok (.if_icmp .ge 23, 3) := by decide +kernel
theorem d_Rd_numberOf_36 : decode b_Rd_numberOf 36 = .ok (.bipush 10, 2) := by decide +kernel
theorem d_Rd_numberOf_38 : decode b_Rd_numberOf 38 = .ok (.iload_n 2, 1) := by decide +kernel
theorem d_Rd_numberOf_39 : decode b_Rd_numberOf 39 = .ok (.imul, 1) := by decide +kernel
theorem d_Rd_numberOf_40 : decode b_Rd_numberOf 40 = .ok (.aload_n 0, 1) := by decide +kernel
theorem d_Rd_numberOf_41 : decode b_Rd_numberOf 41 = .ok (.iload_n 3, 1) := by decide +kernel
theorem d_Rd_numberOf_42 : decode b_Rd_numberOf 42 = .ok (.invokevirtual 61, 3) := by decide +kernel
theorem d_Rd_numberOf_45 : decode b_Rd_numberOf 45 = .ok (.iadd, 1) := by decide +kernel
theorem d_Rd_numberOf_46 : decode b_Rd_numberOf 46 = .ok (.bipush 48, 2) := by decide +kernel
theorem d_Rd_numberOf_48 : decode b_Rd_numberOf 48 = .ok (.isub, 1) := by decide +kernel
theorem d_Rd_numberOf_49 : decode b_Rd_numberOf 49 = .ok (.istore_n 2, 1) := by decide +kernel
theorem d_Rd_numberOf_50 : decode b_Rd_numberOf 50 = .ok (.iinc 3 1, 3) := by decide +kernel
theorem d_Rd_numberOf_53 : decode b_Rd_numberOf 53 = .ok (.goto (-25), 3) := by decide +kernel
theorem d_Rd_numberOf_56 : decode b_Rd_numberOf 56 = .ok (.iload_n 1, 1) := by decide +kernel
theorem d_Rd_numberOf_57 : decode b_Rd_numberOf 57 = .ok (.ifCond .eq 8, 3) := by decide +kernel
theorem d_Rd_numberOf_60 : decode b_Rd_numberOf 60 = .ok (.iload_n 2, 1) := by decide +kernel
theorem d_Rd_numberOf_61 : decode b_Rd_numberOf 61 = .ok (.ineg, 1) := by decide +kernel
theorem d_Rd_numberOf_62 : decode b_Rd_numberOf 62 = .ok (.goto 4, 3) := by decide +kernel
theorem d_Rd_numberOf_65 : decode b_Rd_numberOf 65 = .ok (.iload_n 2, 1) := by decide +kernel
theorem d_Rd_numberOf_66 : decode b_Rd_numberOf 66 = .ok (.ireturn, 1) := by decide +kernel
def wq_Rd_numberOf_66 (g : Gm) (post : Int32 → StC → Prop) (mc ms : Nat)  (S : StC) (t0 : Int32) (c0 : Nat) (z0 : Nat) : Prop :=
  post (t0) S
def wq_Rd_numberOf_28 (g : Gm) (post : Int32 → StC → Prop) (mc ms : Nat)  : Nat → StC → Nat → Int32 → Int32 → Int32 → Nat → Nat → Prop
  | 0, _, _, _, _, _, _, _ => False
  | n28 + 1, S, x0, x1, x2, x3, c0, z0 =>
    (isStr g S (x0)) ∧ (∃ (mc2 : Nat) (ms3 : Nat), (c0 + mc2 ≤ mc) ∧ (z0 + ms3 ≤ ms) ∧ (wp_St_length g (fun (r5 : Int32) (S4 : StC) => (((r5 ≤ x3) → ((x1 = 0) → wq_Rd_numberOf_66 g post mc ms  S4 (x2) ((c0 + mc2)) ((z0 + ms3))) ∧ (¬ (x1 = 0) → wq_Rd_numberOf_66 g post mc ms  S4 ((-x2)) ((c0 + mc2)) ((z0 + ms3)))) ∧ (¬ (r5 ≤ x3) → (isStr g S4 (x0)) ∧ (∃ (mc7 : Nat) (ms8 : Nat), ((c0 + mc2) + mc7 ≤ mc) ∧ ((z0 + ms3) + ms8 ≤ ms) ∧ (wp_St_charAt g (fun (r10 : Int32) (S9 : StC) => ((wq_Rd_numberOf_28 g post mc ms  n28) S9 (x0) (x1) ((((10 * x2) + r10) - 48)) ((x3 + 1)) (((c0 + mc2) + mc7)) (((z0 + ms3) + ms8)))) mc7 ms8 S4 (x0) (x3)))))) mc2 ms3 S (x0)))
def wq_Rd_numberOf_27 (g : Gm) (post : Int32 → StC → Prop) (mc ms : Nat)  (S : StC) (x0 : Nat) (x1 : Int32) (x2 : Int32) (t0 : Int32) (c0 : Nat) (z0 : Nat) : Prop :=
  ∃ nn : Nat, wq_Rd_numberOf_28 g post mc ms  nn S (x0) (x1) (x2) (t0) (c0) (z0)
def wq_Rd_numberOf_15 (g : Gm) (post : Int32 → StC → Prop) (mc ms : Nat)  (S : StC) (x0 : Nat) (t0 : Int32) (c0 : Nat) (z0 : Nat) : Prop :=
  ((t0 = 0) → wq_Rd_numberOf_27 g post mc ms  S (x0) (t0) (0) (0) (c0) (z0)) ∧ (¬ (t0 = 0) → wq_Rd_numberOf_27 g post mc ms  S (x0) (t0) (0) (1) (c0) (z0))
def wp_Rd_numberOf (g : Gm) (post : Int32 → StC → Prop) (mc ms : Nat) (S : StC) (a0 : Nat) : Prop :=
  (isStr g S (a0)) ∧ (∃ (mc12 : Nat) (ms13 : Nat), (0 + mc12 ≤ mc) ∧ (0 + ms13 ≤ ms) ∧ (wp_St_charAt g (fun (r15 : Int32) (S14 : StC) => (((r15 = 45) → wq_Rd_numberOf_15 g post mc ms  S14 (a0) (1) ((0 + mc12)) ((0 + ms13))) ∧ (¬ (r15 = 45) → wq_Rd_numberOf_15 g post mc ms  S14 (a0) (0) ((0 + mc12)) ((0 + ms13))))) mc12 ms13 S (a0) (0)))
set_option maxRecDepth 100000 in
set_option maxHeartbeats 4000000 in
theorem c_Rd_numberOf (l : Launch) (g : Gm) (sz : Nat) (S : StC) (a0 : Nat) (post : Int32 → StC → Prop) (mc ms : Nat) (hw : wp_Rd_numberOf g post mc ms S a0) : Met l y_Rd_numberOf (.code y_Rd_numberOf b_Rd_numberOf 4 (some .int) :: w_C) (rmA 4 85 mc ms) (va_Pc [.ref (a0)] (PC g sz S)) (va_Qi post (BC g (AC g sz S)) (AC g sz S)) mc ms (AC g sz S) := by
  refine ofA_i (by decide) (Nat.le_of_ble_eq_true rfl) (fun p e s m args below meth c Q A H locs ls hx hb hml hts hown hK hA hC hN hmn kr hl hP hD hS => ?_)
  have hl : lv_has ls 4 [(0, .ref (a0))] := hl
  unfold wp_Rd_numberOf at hw
  have hcm : 0 ≤ mc := Nat.zero_le _
  have hzm : 0 ≤ ms := Nat.zero_le _
  have J66 : ∀ (S : StC) (t0 : Int32) (c0 : Nat) (z0 : Nat) (H : Heap) (locs : List Loc) (ls : Array Slot), c0 ≤ mc → z0 ≤ ms → wq_Rd_numberOf_66 g post mc ms  S t0 c0 z0 → lv_has ls 4 [] → va_P g.1 classes (wC g S) H → va_D A (wC g S) → va_S A s.heap H locs → W p l e (rmA 4 85 mc ms) s m args below meth c H locs c0 z0 Q (F0 m 66 ls [.int (t0)]) := by
    intro S t0 c0 z0 H locs ls hcm hzm hw hl hP hD hS
    unfold wq_Rd_numberOf_66 at hw
    exact kr (t0) S _ _ _ _ _ _ hcm hzm hw hP hD hS d_Rd_numberOf_66
  have J28 : ∀ (n28 : Nat), ∀ (S : StC) (x0 : Nat) (x1 : Int32) (x2 : Int32) (x3 : Int32) (c0 : Nat) (z0 : Nat) (H : Heap) (locs : List Loc) (ls : Array Slot), c0 ≤ mc → z0 ≤ ms → wq_Rd_numberOf_28 g post mc ms  n28 S x0 x1 x2 x3 c0 z0 → lv_has ls 4 [(0, .ref (x0)), (1, .int (x1)), (2, .int (x2)), (3, .int (x3))] → va_P g.1 classes (wC g S) H → va_D A (wC g S) → va_S A s.heap H locs → W p l e (rmA 4 85 mc ms) s m args below meth c H locs c0 z0 Q (F0 m 28 ls []) := by
    intro n28
    induction n28 with
    | zero => intro S x0 x1 x2 x3 c0 z0 H locs ls hcm hzm hw; exact hw.elim
    | succ n28 ih28 =>
      intro S x0 x1 x2 x3 c0 z0 H locs ls hcm hzm hw hl hP hD hS
      unfold wq_Rd_numberOf_28 at hw
      refine lv_iload_n hx hb d_Rd_numberOf_28 rfl (lv_at hl 3 rfl) ?_
      refine lv_aload_n hx hb d_Rd_numberOf_29 rfl (lv_at hl 0 rfl) ?_
      obtain ⟨hsr1, hw⟩ := hw
      obtain ⟨mc2, ms3, hcm, hzm, hw⟩ := hw
      refine cA_iV (As := []) (rest := [.int (x3)]) hx hb hml hown hts hK hC hN hP hD hS hA hcm hzm hl.1 (strv_C hK hC hP hS hsr1) (qA_19 hts ⟨Nat.le_of_ble_eq_true rfl, Nat.le_of_ble_eq_true rfl⟩) (c_St_length l g H.size _ (x0) _ _ _ hw) rfl rfl (Nat.le_of_ble_eq_true rfl) d_Rd_numberOf_30 (fun r5 S4 H locs hw hP hD hS => ?_)
      refine lv_icmp_ge hx hb d_Rd_numberOf_33 (tgt := 56) (by decide) (fun hc => ?_) (fun hc => ?_)
      · have hw := hw.1 hc
        refine lv_iload_n hx hb d_Rd_numberOf_56 rfl (lv_at hl 1 rfl) ?_
        refine lv_if_eq hx hb d_Rd_numberOf_57 (tgt := 65) (by decide) (fun hc => ?_) (fun hc => ?_)
        · have hw := hw.1 hc
          refine lv_iload_n hx hb d_Rd_numberOf_65 rfl (lv_at hl 2 rfl) ?_
          exact J66 S4 (x2) ((c0 + mc2)) ((z0 + ms3)) _ _ _ hcm hzm hw (lv_sub hl [] rfl) hP hD hS
        · have hw := hw.2 hc
          refine lv_iload_n hx hb d_Rd_numberOf_60 rfl (lv_at hl 2 rfl) ?_
          refine lv_ineg hx hb d_Rd_numberOf_61 ?_
          refine lv_goto hx hb d_Rd_numberOf_62 (tgt := 66) (by decide) ?_
          exact J66 S4 ((-x2)) ((c0 + mc2)) ((z0 + ms3)) _ _ _ hcm hzm hw (lv_sub hl [] rfl) hP hD hS
      · have hw := hw.2 hc
        refine lv_bipush (v := 10) hx hb d_Rd_numberOf_36 (by decide) ?_
        refine lv_iload_n hx hb d_Rd_numberOf_38 rfl (lv_at hl 2 rfl) ?_
        refine lv_imul hx hb d_Rd_numberOf_39 ?_
        refine lv_aload_n hx hb d_Rd_numberOf_40 rfl (lv_at hl 0 rfl) ?_
        refine lv_iload_n hx hb d_Rd_numberOf_41 rfl (lv_at hl 3 rfl) ?_
        obtain ⟨hsr6, hw⟩ := hw
        obtain ⟨mc7, ms8, hcm, hzm, hw⟩ := hw
        refine cA_iV (As := [.int (x3)]) (rest := [.int ((10 * x2))]) hx hb hml hown hts hK hC hN hP hD hS hA hcm hzm hl.1 (strv_C hK hC hP hS hsr6) (qA_20 hts ⟨Nat.le_of_ble_eq_true rfl, Nat.le_of_ble_eq_true rfl⟩) (c_St_charAt l g H.size _ (x0) (x3) _ _ _ hw) rfl rfl (Nat.le_of_ble_eq_true rfl) d_Rd_numberOf_42 (fun r10 S9 H locs hw hP hD hS => ?_)
        refine lv_iadd hx hb d_Rd_numberOf_45 ?_
        refine lv_bipush (v := 48) hx hb d_Rd_numberOf_46 (by decide) ?_
        refine lv_isub hx hb d_Rd_numberOf_48 ?_
        refine lv_istore_n (lv' := [(2, .int ((((10 * x2) + r10) - 48))), (0, .ref (x0)), (1, .int (x1)), (3, .int (x3))]) hx hb d_Rd_numberOf_49 rfl hl (by decide) rfl (fun ls hl => ?_)
        refine lv_iinc (k := 3) (v := (x3 + 1)) (lv' := [(3, .int ((x3 + 1))), (2, .int ((((10 * x2) + r10) - 48))), (0, .ref (x0)), (1, .int (x1))]) hx hb d_Rd_numberOf_50 hl rfl rfl (by decide) rfl (fun ls hl => ?_)
        refine lv_goto hx hb d_Rd_numberOf_53 (tgt := 28) (by decide) ?_
        exact ih28 S9 (x0) (x1) ((((10 * x2) + r10) - 48)) ((x3 + 1)) (((c0 + mc2) + mc7)) (((z0 + ms3) + ms8)) _ _ _ hcm hzm hw (lv_sub hl [2, 3, 1, 0] rfl) hP hD hS
  have J27 : ∀ (S : StC) (x0 : Nat) (x1 : Int32) (x2 : Int32) (t0 : Int32) (c0 : Nat) (z0 : Nat) (H : Heap) (locs : List Loc) (ls : Array Slot), c0 ≤ mc → z0 ≤ ms → wq_Rd_numberOf_27 g post mc ms  S x0 x1 x2 t0 c0 z0 → lv_has ls 4 [(0, .ref (x0)), (1, .int (x1)), (2, .int (x2))] → va_P g.1 classes (wC g S) H → va_D A (wC g S) → va_S A s.heap H locs → W p l e (rmA 4 85 mc ms) s m args below meth c H locs c0 z0 Q (F0 m 27 ls [.int (t0)]) := by
    intro S x0 x1 x2 t0 c0 z0 H locs ls hcm hzm hw hl hP hD hS
    unfold wq_Rd_numberOf_27 at hw
    refine lv_istore_n (lv' := [(3, .int (t0)), (0, .ref (x0)), (1, .int (x1)), (2, .int (x2))]) hx hb d_Rd_numberOf_27 rfl hl (by decide) rfl (fun ls hl => ?_)
    obtain ⟨nn, hw⟩ := hw
    exact J28 nn S (x0) (x1) (x2) (t0) (c0) (z0) _ _ _ hcm hzm hw (lv_sub hl [1, 2, 3, 0] rfl) hP hD hS
  have J15 : ∀ (S : StC) (x0 : Nat) (t0 : Int32) (c0 : Nat) (z0 : Nat) (H : Heap) (locs : List Loc) (ls : Array Slot), c0 ≤ mc → z0 ≤ ms → wq_Rd_numberOf_15 g post mc ms  S x0 t0 c0 z0 → lv_has ls 4 [(0, .ref (x0))] → va_P g.1 classes (wC g S) H → va_D A (wC g S) → va_S A s.heap H locs → W p l e (rmA 4 85 mc ms) s m args below meth c H locs c0 z0 Q (F0 m 15 ls [.int (t0)]) := by
    intro S x0 t0 c0 z0 H locs ls hcm hzm hw hl hP hD hS
    unfold wq_Rd_numberOf_15 at hw
    refine lv_istore_n (lv' := [(1, .int (t0)), (0, .ref (x0))]) hx hb d_Rd_numberOf_15 rfl hl (by decide) rfl (fun ls hl => ?_)
    refine lv_iconst (v := 0) hx hb d_Rd_numberOf_16 (by decide) ?_
    refine lv_istore_n (lv' := [(2, .int (0)), (1, .int (t0)), (0, .ref (x0))]) hx hb d_Rd_numberOf_17 rfl hl (by decide) rfl (fun ls hl => ?_)
    refine lv_iload_n hx hb d_Rd_numberOf_18 rfl (lv_at hl 1 rfl) ?_
    refine lv_if_eq hx hb d_Rd_numberOf_19 (tgt := 26) (by decide) (fun hc => ?_) (fun hc => ?_)
    · have hw := hw.1 hc
      refine lv_iconst (v := 0) hx hb d_Rd_numberOf_26 (by decide) ?_
      exact J27 S (x0) (t0) (0) (0) (c0) (z0) _ _ _ hcm hzm hw (lv_sub hl [2, 1, 0] rfl) hP hD hS
    · have hw := hw.2 hc
      refine lv_iconst (v := 1) hx hb d_Rd_numberOf_22 (by decide) ?_
      refine lv_goto hx hb d_Rd_numberOf_23 (tgt := 27) (by decide) ?_
      exact J27 S (x0) (t0) (0) (1) (c0) (z0) _ _ _ hcm hzm hw (lv_sub hl [2, 1, 0] rfl) hP hD hS
  refine lv_aload_n hx hb d_Rd_numberOf_0 rfl (lv_at hl 0 rfl) ?_
  refine lv_iconst (v := 0) hx hb d_Rd_numberOf_1 (by decide) ?_
  obtain ⟨hsr11, hw⟩ := hw
  obtain ⟨mc12, ms13, hcm, hzm, hw⟩ := hw
  refine cA_iV (As := [.int (0)]) (rest := []) hx hb hml hown hts hK hC hN hP hD hS hA hcm hzm hl.1 (strv_C hK hC hP hS hsr11) (qA_20 hts ⟨Nat.le_of_ble_eq_true rfl, Nat.le_of_ble_eq_true rfl⟩) (c_St_charAt l g H.size _ (a0) (0) _ _ _ hw) rfl rfl (Nat.le_of_ble_eq_true rfl) d_Rd_numberOf_2 (fun r15 S14 H locs hw hP hD hS => ?_)
  refine lv_bipush (v := 45) hx hb d_Rd_numberOf_5 (by decide) ?_
  refine lv_icmp_ne hx hb d_Rd_numberOf_7 (tgt := 14) (by decide) (fun hc => ?_) (fun hc => ?_)
  · have hw := hw.2 hc
    refine lv_iconst (v := 0) hx hb d_Rd_numberOf_14 (by decide) ?_
    exact J15 S14 (a0) (0) ((0 + mc12)) ((0 + ms13)) _ _ _ hcm hzm hw (lv_sub hl [0] rfl) hP hD hS
  · have hw := hw.1 hc
    refine lv_iconst (v := 1) hx hb d_Rd_numberOf_10 (by decide) ?_
    refine lv_goto hx hb d_Rd_numberOf_11 (tgt := 15) (by decide) ?_
    exact J15 S14 (a0) (1) ((0 + mc12)) ((0 + ms13)) _ _ _ hcm hzm hw (lv_sub hl [0] rfl) hP hD hS
theorem qA_31 {R : Room} {s : State} {args : Array Value} {mc1 ms1 : Nat} (hts : ∀ w ∈ w_C, w.before args s = true) (hR : (rmA 4 85 mc1 ms1).frames + 1 ≤ R.frames ∧ 8 + (4 + 11) + (rmA 4 85 mc1 ms1).locals ≤ R.locals) : CallB R s args "WordSmith$Reader" 79 y_Rd_isNumber b_Rd_isNumber 4 (some .boolean) (.code y_Rd_isNumber b_Rd_isNumber 4 (some .boolean) :: w_C) (rmA 4 85 mc1 ms1) mc1 ms1 1 ∧ (Cond.static y_Rd_isNumber).before args s = true := ⟨callB_of 1 hts (good_C k_C_388) rfl rfl rfl (hts _ k_C_5) (hts _ k_C_386) ⟨by decide +kernel, by decide +kernel, by decide +kernel⟩ hR, hts _ k_C_387⟩
theorem d_Rd_isName_0 : decode b_Rd_isName 0 = .ok (.aload_n 0, 1) := by decide +kernel
theorem d_Rd_isName_1 : decode b_Rd_isName 1 = .ok (.invokevirtual 51, 3) := by decide +kernel
theorem d_Rd_isName_4 : decode b_Rd_isName 4 = .ok (.ifCond .ne 23, 3) := by decide +kernel
theorem d_Rd_isName_7 : decode b_Rd_isName 7 = .ok (.aload_n 0, 1) := by decide +kernel
theorem d_Rd_isName_8 : decode b_Rd_isName 8 = .ok (.invokevirtual 57, 3) := by decide +kernel
theorem d_Rd_isName_11 : decode b_Rd_isName 11 = .ok (.bipush 9, 2) := by decide +kernel
theorem d_Rd_isName_13 : decode b_Rd_isName 13 = .ok (.if_icmp .gt 14, 3) := by decide +kernel
theorem d_Rd_isName_16 : decode b_Rd_isName 16 = .ok (.aload_n 0, 1) := by decide +kernel
theorem d_Rd_isName_17 : decode b_Rd_isName 17 = .ok (.invokestatic 79, 3) := by decide +kernel
theorem d_Rd_isName_20 : decode b_Rd_isName 20 = .ok (.ifCond .ne 7, 3) := by decide +kernel
theorem d_Rd_isName_23 : decode b_Rd_isName 23 = .ok (.iconst 1, 1) := by decide +kernel
theorem d_Rd_isName_24 : decode b_Rd_isName 24 = .ok (.goto 4, 3) := by decide +kernel
theorem d_Rd_isName_27 : decode b_Rd_isName 27 = .ok (.iconst 0, 1) := by decide +kernel
theorem d_Rd_isName_28 : decode b_Rd_isName 28 = .ok (.ireturn, 1) := by decide +kernel
def wq_Rd_isName_28 (g : Gm) (post : Int32 → StC → Prop) (mc ms : Nat)  (S : StC) (t0 : Int32) (c0 : Nat) (z0 : Nat) : Prop :=
  (narrow .boolean (.int (t0)) = .int (t0)) ∧ (post (t0) S)
def wq_Rd_isName_27 (g : Gm) (post : Int32 → StC → Prop) (mc ms : Nat)  (S : StC) (c0 : Nat) (z0 : Nat) : Prop :=
  wq_Rd_isName_28 g post mc ms  S (0) (c0) (z0)
def wp_Rd_isName (g : Gm) (post : Int32 → StC → Prop) (mc ms : Nat) (S : StC) (a0 : Nat) : Prop :=
  (isStr g S (a0)) ∧ (∃ (mc2 : Nat) (ms3 : Nat), (0 + mc2 ≤ mc) ∧ (0 + ms3 ≤ ms) ∧ (wp_St_isEmpty g (fun (r5 : Int32) (S4 : StC) => (((r5 = 0) → (isStr g S4 (a0)) ∧ (∃ (mc7 : Nat) (ms8 : Nat), ((0 + mc2) + mc7 ≤ mc) ∧ ((0 + ms3) + ms8 ≤ ms) ∧ (wp_St_length g (fun (r10 : Int32) (S9 : StC) => (((9 < r10) → wq_Rd_isName_27 g post mc ms  S9 (((0 + mc2) + mc7)) (((0 + ms3) + ms8))) ∧ (¬ (9 < r10) → ∃ (mc11 : Nat) (ms12 : Nat), (((0 + mc2) + mc7) + mc11 ≤ mc) ∧ (((0 + ms3) + ms8) + ms12 ≤ ms) ∧ (wp_Rd_isNumber g (fun (r14 : Int32) (S13 : StC) => (((r14 = 0) → wq_Rd_isName_28 g post mc ms  S13 (1) ((((0 + mc2) + mc7) + mc11)) ((((0 + ms3) + ms8) + ms12))) ∧ (¬ (r14 = 0) → wq_Rd_isName_27 g post mc ms  S13 ((((0 + mc2) + mc7) + mc11)) ((((0 + ms3) + ms8) + ms12))))) mc11 ms12 S9 (a0))))) mc7 ms8 S4 (a0)))) ∧ (¬ (r5 = 0) → wq_Rd_isName_27 g post mc ms  S4 ((0 + mc2)) ((0 + ms3))))) mc2 ms3 S (a0)))
set_option maxRecDepth 100000 in
set_option maxHeartbeats 4000000 in
theorem c_Rd_isName (l : Launch) (g : Gm) (sz : Nat) (S : StC) (a0 : Nat) (post : Int32 → StC → Prop) (mc ms : Nat) (hw : wp_Rd_isName g post mc ms S a0) : Met l y_Rd_isName (.code y_Rd_isName b_Rd_isName 1 (some .boolean) :: w_C) (rmA 5 108 mc ms) (va_Pc [.ref (a0)] (PC g sz S)) (va_Qi post (BC g (AC g sz S)) (AC g sz S)) mc ms (AC g sz S) := by
  refine ofA_z (by decide) (Nat.le_of_ble_eq_true rfl) (fun p e s m args below meth c Q A H locs ls hx hb hml hts hown hK hA hC hN hmn kr hl hP hD hS => ?_)
  have hl : lv_has ls 1 [(0, .ref (a0))] := hl
  unfold wp_Rd_isName at hw
  have hcm : 0 ≤ mc := Nat.zero_le _
  have hzm : 0 ≤ ms := Nat.zero_le _
  have J28 : ∀ (S : StC) (t0 : Int32) (c0 : Nat) (z0 : Nat) (H : Heap) (locs : List Loc) (ls : Array Slot), c0 ≤ mc → z0 ≤ ms → wq_Rd_isName_28 g post mc ms  S t0 c0 z0 → lv_has ls 1 [] → va_P g.1 classes (wC g S) H → va_D A (wC g S) → va_S A s.heap H locs → W p l e (rmA 5 108 mc ms) s m args below meth c H locs c0 z0 Q (F0 m 28 ls [.int (t0)]) := by
    intro S t0 c0 z0 H locs ls hcm hzm hw hl hP hD hS
    unfold wq_Rd_isName_28 at hw
    obtain ⟨hnz, hw⟩ := hw
    exact kr (t0) S _ _ _ _ _ _ hcm hzm hnz hw hP hD hS d_Rd_isName_28
  have J27 : ∀ (S : StC) (c0 : Nat) (z0 : Nat) (H : Heap) (locs : List Loc) (ls : Array Slot), c0 ≤ mc → z0 ≤ ms → wq_Rd_isName_27 g post mc ms  S c0 z0 → lv_has ls 1 [] → va_P g.1 classes (wC g S) H → va_D A (wC g S) → va_S A s.heap H locs → W p l e (rmA 5 108 mc ms) s m args below meth c H locs c0 z0 Q (F0 m 27 ls []) := by
    intro S c0 z0 H locs ls hcm hzm hw hl hP hD hS
    unfold wq_Rd_isName_27 at hw
    refine lv_iconst (v := 0) hx hb d_Rd_isName_27 (by decide) ?_
    exact J28 S (0) (c0) (z0) _ _ _ hcm hzm hw (lv_sub hl [] rfl) hP hD hS
  refine lv_aload_n hx hb d_Rd_isName_0 rfl (lv_at hl 0 rfl) ?_
  obtain ⟨hsr1, hw⟩ := hw
  obtain ⟨mc2, ms3, hcm, hzm, hw⟩ := hw
  refine cA_iV (As := []) (rest := []) hx hb hml hown hts hK hC hN hP hD hS hA hcm hzm hl.1 (strv_C hK hC hP hS hsr1) (qA_30 hts ⟨Nat.le_of_ble_eq_true rfl, Nat.le_of_ble_eq_true rfl⟩) (c_St_isEmpty l g H.size _ (a0) _ _ _ hw) rfl rfl (Nat.le_of_ble_eq_true rfl) d_Rd_isName_1 (fun r5 S4 H locs hw hP hD hS => ?_)
  refine lv_if_ne hx hb d_Rd_isName_4 (tgt := 27) (by decide) (fun hc => ?_) (fun hc => ?_)
  · have hw := hw.2 hc
    exact J27 S4 ((0 + mc2)) ((0 + ms3)) _ _ _ hcm hzm hw (lv_sub hl [] rfl) hP hD hS
  · have hw := hw.1 hc
    refine lv_aload_n hx hb d_Rd_isName_7 rfl (lv_at hl 0 rfl) ?_
    obtain ⟨hsr6, hw⟩ := hw
    obtain ⟨mc7, ms8, hcm, hzm, hw⟩ := hw
    refine cA_iV (As := []) (rest := []) hx hb hml hown hts hK hC hN hP hD hS hA hcm hzm hl.1 (strv_C hK hC hP hS hsr6) (qA_19 hts ⟨Nat.le_of_ble_eq_true rfl, Nat.le_of_ble_eq_true rfl⟩) (c_St_length l g H.size _ (a0) _ _ _ hw) rfl rfl (Nat.le_of_ble_eq_true rfl) d_Rd_isName_8 (fun r10 S9 H locs hw hP hD hS => ?_)
    refine lv_bipush (v := 9) hx hb d_Rd_isName_11 (by decide) ?_
    refine lv_icmp_gt hx hb d_Rd_isName_13 (tgt := 27) (by decide) (fun hc => ?_) (fun hc => ?_)
    · have hw := hw.1 hc
      exact J27 S9 (((0 + mc2) + mc7)) (((0 + ms3) + ms8)) _ _ _ hcm hzm hw (lv_sub hl [] rfl) hP hD hS
    · have hw := hw.2 hc
      refine lv_aload_n hx hb d_Rd_isName_16 rfl (lv_at hl 0 rfl) ?_
      obtain ⟨mc11, ms12, hcm, hzm, hw⟩ := hw
      refine cA_iS (As := [.ref (a0)]) (rest := []) hx hb hml hown hts hK hC hN hP hD hS hA hcm hzm hl.1  (qA_31 hts ⟨Nat.le_of_ble_eq_true rfl, Nat.le_of_ble_eq_true rfl⟩) (c_Rd_isNumber l g H.size _ (a0) _ _ _ hw) rfl rfl (Nat.le_of_ble_eq_true rfl) d_Rd_isName_17 (fun r14 S13 H locs hw hP hD hS => ?_)
      refine lv_if_ne hx hb d_Rd_isName_20 (tgt := 27) (by decide) (fun hc => ?_) (fun hc => ?_)
      · have hw := hw.2 hc
        exact J27 S13 ((((0 + mc2) + mc7) + mc11)) ((((0 + ms3) + ms8) + ms12)) _ _ _ hcm hzm hw (lv_sub hl [] rfl) hP hD hS
      · have hw := hw.1 hc
        refine lv_iconst (v := 1) hx hb d_Rd_isName_23 (by decide) ?_
        refine lv_goto hx hb d_Rd_isName_24 (tgt := 28) (by decide) ?_
        exact J28 S13 (1) ((((0 + mc2) + mc7) + mc11)) ((((0 + ms3) + ms8) + ms12)) _ _ _ hcm hzm hw (lv_sub hl [] rfl) hP hD hS
theorem d_La_equals_0 : decode b_La_equals 0 = .ok (.aload_n 0, 1) := by decide +kernel
theorem d_La_equals_1 : decode b_La_equals 1 = .ok (.arraylength, 1) := by decide +kernel
theorem d_La_equals_2 : decode b_La_equals 2 = .ok (.aload_n 1, 1) := by decide +kernel
theorem d_La_equals_3 : decode b_La_equals 3 = .ok (.arraylength, 1) := by decide +kernel
theorem d_La_equals_4 : decode b_La_equals 4 = .ok (.if_icmp .ne 30, 3) := by decide +kernel
theorem d_La_equals_7 : decode b_La_equals 7 = .ok (.iconst 0, 1) := by decide +kernel
theorem d_La_equals_8 : decode b_La_equals 8 = .ok (.istore_n 2, 1) := by decide +kernel
theorem d_La_equals_9 : decode b_La_equals 9 = .ok (.iload_n 2, 1) := by decide +kernel
theorem d_La_equals_10 : decode b_La_equals 10 = .ok (.aload_n 0, 1) := by decide +kernel
theorem d_La_equals_11 : decode b_La_equals 11 = .ok (.arraylength, 1) := by decide +kernel
theorem d_La_equals_12 : decode b_La_equals 12 = .ok (.if_icmp .ge 20, 3) := by decide +kernel
theorem d_La_equals_15 : decode b_La_equals 15 = .ok (.aload_n 0, 1) := by decide +kernel
theorem d_La_equals_16 : decode b_La_equals 16 = .ok (.iload_n 2, 1) := by decide +kernel
theorem d_La_equals_17 : decode b_La_equals 17 = .ok (.baload, 1) := by decide +kernel
theorem d_La_equals_18 : decode b_La_equals 18 = .ok (.aload_n 1, 1) := by decide +kernel
theorem d_La_equals_19 : decode b_La_equals 19 = .ok (.iload_n 2, 1) := by decide +kernel
theorem d_La_equals_20 : decode b_La_equals 20 = .ok (.baload, 1) := by decide +kernel
theorem d_La_equals_21 : decode b_La_equals 21 = .ok (.if_icmp .eq 5, 3) := by decide +kernel
theorem d_La_equals_24 : decode b_La_equals 24 = .ok (.iconst 0, 1) := by decide +kernel
theorem d_La_equals_25 : decode b_La_equals 25 = .ok (.ireturn, 1) := by decide +kernel
theorem d_La_equals_26 : decode b_La_equals 26 = .ok (.iinc 2 1, 3) := by decide +kernel
theorem d_La_equals_29 : decode b_La_equals 29 = .ok (.goto (-20), 3) := by decide +kernel
theorem d_La_equals_32 : decode b_La_equals 32 = .ok (.iconst 1, 1) := by decide +kernel
theorem d_La_equals_33 : decode b_La_equals 33 = .ok (.ireturn, 1) := by decide +kernel
theorem d_La_equals_34 : decode b_La_equals 34 = .ok (.iconst 0, 1) := by decide +kernel
theorem d_La_equals_35 : decode b_La_equals 35 = .ok (.ireturn, 1) := by decide +kernel
def wq_La_equals_9 (g : Gm) (post : Int32 → StC → Prop) (mc ms : Nat)  : Nat → StC → Nat → Nat → Int32 → Nat → Nat → Prop
  | 0, _, _, _, _, _, _ => False
  | n9 + 1, S, x0, x1, x2, c0, z0 =>
    ∃ (n1 : Nat) (f2 : Nat → Int32), (x0 ∈ S.2.2.2.2.2.1) ∧ (S.2.2.2.2.2.2 x0 = .inl (g.2.1 3, n1, .inl f2)) ∧ ((((Int32.ofNat n1) ≤ x2) → post (1) S) ∧ (¬ ((Int32.ofNat n1) ≤ x2) → ∃ (n5 : Nat) (f6 : Nat → Int32), (x0 ∈ S.2.2.2.2.2.1) ∧ (S.2.2.2.2.2.2 x0 = .inl (g.2.1 3, n5, .inl f6)) ∧ (vp_in x2 n5) ∧ (∃ (n10 : Nat) (f11 : Nat → Int32), (x1 ∈ S.2.2.2.2.2.1) ∧ (S.2.2.2.2.2.2 x1 = .inl (g.2.1 3, n10, .inl f11)) ∧ (vp_in x2 n10) ∧ ((((f6 (Int32.toNatClampNeg (x2))) = (f11 (Int32.toNatClampNeg (x2)))) → (wq_La_equals_9 g post mc ms  n9) S (x0) (x1) ((x2 + 1)) (c0) (z0)) ∧ (¬ ((f6 (Int32.toNatClampNeg (x2))) = (f11 (Int32.toNatClampNeg (x2)))) → post (0) S)))))
def wp_La_equals (g : Gm) (post : Int32 → StC → Prop) (mc ms : Nat) (S : StC) (a0 : Nat) (a1 : Nat) : Prop :=
  ∃ (n15 : Nat) (f16 : Nat → Int32), (a0 ∈ S.2.2.2.2.2.1) ∧ (S.2.2.2.2.2.2 a0 = .inl (g.2.1 3, n15, .inl f16)) ∧ (∃ (n19 : Nat) (f20 : Nat → Int32), (a1 ∈ S.2.2.2.2.2.1) ∧ (S.2.2.2.2.2.2 a1 = .inl (g.2.1 3, n19, .inl f20)) ∧ ((((Int32.ofNat n15) = (Int32.ofNat n19)) → ∃ nn : Nat, wq_La_equals_9 g post mc ms  nn S (a0) (a1) (0) (0) (0)) ∧ (¬ ((Int32.ofNat n15) = (Int32.ofNat n19)) → post (0) S)))
set_option maxRecDepth 100000 in
set_option maxHeartbeats 4000000 in
theorem c_La_equals (l : Launch) (g : Gm) (sz : Nat) (S : StC) (a0 : Nat) (a1 : Nat) (post : Int32 → StC → Prop) (mc ms : Nat) (hw : wp_La_equals g post mc ms S a0 a1) : Met l y_La_equals (.code y_La_equals b_La_equals 3 (some .boolean) :: w_C) (rmA 0 0 mc ms) (va_Pc [.ref (a0), .ref (a1)] (PC g sz S)) (va_Qi post (BC g (AC g sz S)) (AC g sz S)) mc ms (AC g sz S) := by
  refine ofA_z (by decide) (Nat.le_of_ble_eq_true rfl) (fun p e s m args below meth c Q A H locs ls hx hb hml hts hown hK hA hC hN hmn kr hl hP hD hS => ?_)
  have hl : lv_has ls 3 [(0, .ref (a0)), (1, .ref (a1))] := hl
  unfold wp_La_equals at hw
  have hcm : 0 ≤ mc := Nat.zero_le _
  have hzm : 0 ≤ ms := Nat.zero_le _
  have J9 : ∀ (n9 : Nat), ∀ (S : StC) (x0 : Nat) (x1 : Nat) (x2 : Int32) (c0 : Nat) (z0 : Nat) (H : Heap) (locs : List Loc) (ls : Array Slot), c0 ≤ mc → z0 ≤ ms → wq_La_equals_9 g post mc ms  n9 S x0 x1 x2 c0 z0 → lv_has ls 3 [(0, .ref (x0)), (1, .ref (x1)), (2, .int (x2))] → va_P g.1 classes (wC g S) H → va_D A (wC g S) → va_S A s.heap H locs → W p l e (rmA 0 0 mc ms) s m args below meth c H locs c0 z0 Q (F0 m 9 ls []) := by
    intro n9
    induction n9 with
    | zero => intro S x0 x1 x2 c0 z0 H locs ls hcm hzm hw; exact hw.elim
    | succ n9 ih9 =>
      intro S x0 x1 x2 c0 z0 H locs ls hcm hzm hw hl hP hD hS
      unfold wq_La_equals_9 at hw
      refine lv_iload_n hx hb d_La_equals_9 rfl (lv_at hl 2 rfl) ?_
      refine lv_aload_n hx hb d_La_equals_10 rfl (lv_at hl 0 rfl) ?_
      obtain ⟨n1, f2, ha3, hf4, hw⟩ := hw
      refine pal_C (S := S) hx hb hK hP ha3 hf4 d_La_equals_11 ?_
      refine lv_icmp_ge hx hb d_La_equals_12 (tgt := 32) (by decide) (fun hc => ?_) (fun hc => ?_)
      · have hw := hw.1 hc
        refine lv_iconst (v := 1) hx hb d_La_equals_32 (by decide) ?_
        exact kr (1) S _ _ _ _ _ _ hcm hzm rfl hw hP hD hS d_La_equals_33
      · have hw := hw.2 hc
        refine lv_aload_n hx hb d_La_equals_15 rfl (lv_at hl 0 rfl) ?_
        refine lv_iload_n hx hb d_La_equals_16 rfl (lv_at hl 2 rfl) ?_
        obtain ⟨n5, f6, ha7, hf8, hi9, hw⟩ := hw
        refine pbl_C (S := S) hx hb hK hP ha7 hf8 hi9 d_La_equals_17 ?_
        refine lv_aload_n hx hb d_La_equals_18 rfl (lv_at hl 1 rfl) ?_
        refine lv_iload_n hx hb d_La_equals_19 rfl (lv_at hl 2 rfl) ?_
        obtain ⟨n10, f11, ha12, hf13, hi14, hw⟩ := hw
        refine pbl_C (S := S) hx hb hK hP ha12 hf13 hi14 d_La_equals_20 ?_
        refine lv_icmp_eq hx hb d_La_equals_21 (tgt := 26) (by decide) (fun hc => ?_) (fun hc => ?_)
        · have hw := hw.1 hc
          refine lv_iinc (k := 2) (v := (x2 + 1)) (lv' := [(2, .int ((x2 + 1))), (0, .ref (x0)), (1, .ref (x1))]) hx hb d_La_equals_26 hl rfl rfl (by decide) rfl (fun ls hl => ?_)
          refine lv_goto hx hb d_La_equals_29 (tgt := 9) (by decide) ?_
          exact ih9 S (x0) (x1) ((x2 + 1)) (c0) (z0) _ _ _ hcm hzm hw (lv_sub hl [1, 2, 0] rfl) hP hD hS
        · have hw := hw.2 hc
          refine lv_iconst (v := 0) hx hb d_La_equals_24 (by decide) ?_
          exact kr (0) S _ _ _ _ _ _ hcm hzm rfl hw hP hD hS d_La_equals_25
  refine lv_aload_n hx hb d_La_equals_0 rfl (lv_at hl 0 rfl) ?_
  obtain ⟨n15, f16, ha17, hf18, hw⟩ := hw
  refine pal_C (S := S) hx hb hK hP ha17 hf18 d_La_equals_1 ?_
  refine lv_aload_n hx hb d_La_equals_2 rfl (lv_at hl 1 rfl) ?_
  obtain ⟨n19, f20, ha21, hf22, hw⟩ := hw
  refine pal_C (S := S) hx hb hK hP ha21 hf22 d_La_equals_3 ?_
  refine lv_icmp_ne hx hb d_La_equals_4 (tgt := 34) (by decide) (fun hc => ?_) (fun hc => ?_)
  · have hw := hw.2 hc
    refine lv_iconst (v := 0) hx hb d_La_equals_34 (by decide) ?_
    exact kr (0) S _ _ _ _ _ _ hcm hzm rfl hw hP hD hS d_La_equals_35
  · have hw := hw.1 hc
    refine lv_iconst (v := 0) hx hb d_La_equals_7 (by decide) ?_
    refine lv_istore_n (lv' := [(2, .int (0)), (0, .ref (a0)), (1, .ref (a1))]) hx hb d_La_equals_8 rfl hl (by decide) rfl (fun ls hl => ?_)
    obtain ⟨nn, hw⟩ := hw
    exact J9 nn S (a0) (a1) (0) (0) (0) _ _ _ hcm hzm hw (lv_sub hl [1, 2, 0] rfl) hP hD hS
theorem qA_32 {R : Room} {s : State} {args : Array Value} {mc1 ms1 : Nat} (hts : ∀ w ∈ w_C, w.before args s = true) (hR : (rmA 0 0 mc1 ms1).frames + 1 ≤ R.frames ∧ 8 + (3 + 11) + (rmA 0 0 mc1 ms1).locals ≤ R.locals) : CallB R s args "java/lang/String" 541 y_La_equals b_La_equals 3 (some .boolean) (.code y_La_equals b_La_equals 3 (some .boolean) :: w_C) (rmA 0 0 mc1 ms1) mc1 ms1 2 ∧ (Cond.static y_La_equals).before args s = true := ⟨callB_of 2 hts (good_C k_C_437) rfl rfl rfl (hts _ k_C_16) (hts _ k_C_435) ⟨by decide +kernel, by decide +kernel, by decide +kernel⟩ hR, hts _ k_C_436⟩
theorem d_St_equals_0 : decode b_St_equals 0 = .ok (.aload_n 0, 1) := by decide +kernel
theorem d_St_equals_1 : decode b_St_equals 1 = .ok (.aload_n 1, 1) := by decide +kernel
theorem d_St_equals_2 : decode b_St_equals 2 = .ok (.if_acmp .ne 5, 3) := by decide +kernel
theorem d_St_equals_5 : decode b_St_equals 5 = .ok (.iconst 1, 1) := by decide +kernel
theorem d_St_equals_6 : decode b_St_equals 6 = .ok (.ireturn, 1) := by decide +kernel
theorem d_St_equals_7 : decode b_St_equals 7 = .ok (.aload_n 1, 1) := by decide +kernel
theorem d_St_equals_8 : decode b_St_equals 8 = .ok (.instanceof 10, 3) := by decide +kernel
theorem d_St_equals_11 : decode b_St_equals 11 = .ok (.ifCond .eq 43, 3) := by decide +kernel
theorem d_St_equals_14 : decode b_St_equals 14 = .ok (.aload_n 1, 1) := by decide +kernel
theorem d_St_equals_15 : decode b_St_equals 15 = .ok (.checkcast 10, 3) := by decide +kernel
theorem d_St_equals_18 : decode b_St_equals 18 = .ok (.astore_n 2, 1) := by decide +kernel
theorem d_St_equals_19 : decode b_St_equals 19 = .ok (.getstatic 38, 3) := by decide +kernel
theorem d_St_equals_22 : decode b_St_equals 22 = .ok (.ifCond .eq 14, 3) := by decide +kernel
theorem d_St_equals_25 : decode b_St_equals 25 = .ok (.aload_n 0, 1) := by decide +kernel
theorem d_St_equals_26 : decode b_St_equals 26 = .ok (.getfield 15, 3) := by decide +kernel
theorem d_St_equals_29 : decode b_St_equals 29 = .ok (.aload_n 2, 1) := by decide +kernel
theorem d_St_equals_30 : decode b_St_equals 30 = .ok (.getfield 15, 3) := by decide +kernel
theorem d_St_equals_33 : decode b_St_equals 33 = .ok (.if_icmp .ne 21, 3) := by decide +kernel
theorem d_St_equals_36 : decode b_St_equals 36 = .ok (.aload_n 0, 1) := by decide +kernel
theorem d_St_equals_37 : decode b_St_equals 37 = .ok (.getfield 9, 3) := by decide +kernel
theorem d_St_equals_40 : decode b_St_equals 40 = .ok (.aload_n 2, 1) := by decide +kernel
theorem d_St_equals_41 : decode b_St_equals 41 = .ok (.getfield 9, 3) := by decide +kernel
theorem d_St_equals_44 : decode b_St_equals 44 = .ok (.invokestatic 541, 3) := by decide +kernel
theorem d_St_equals_47 : decode b_St_equals 47 = .ok (.ifCond .eq 7, 3) := by decide +kernel
theorem d_St_equals_50 : decode b_St_equals 50 = .ok (.iconst 1, 1) := by decide +kernel
theorem d_St_equals_51 : decode b_St_equals 51 = .ok (.goto 4, 3) := by decide +kernel
theorem d_St_equals_54 : decode b_St_equals 54 = .ok (.iconst 0, 1) := by decide +kernel
theorem d_St_equals_55 : decode b_St_equals 55 = .ok (.ireturn, 1) := by decide +kernel
def wq_St_equals_55 (g : Gm) (post : Int32 → StC → Prop) (mc ms : Nat)  (S : StC) (t0 : Int32) (c0 : Nat) (z0 : Nat) : Prop :=
  (narrow .boolean (.int (t0)) = .int (t0)) ∧ (post (t0) S)
def wq_St_equals_54 (g : Gm) (post : Int32 → StC → Prop) (mc ms : Nat)  (S : StC) (c0 : Nat) (z0 : Nat) : Prop :=
  wq_St_equals_55 g post mc ms  S (0) (c0) (z0)
def wq_St_equals_36 (g : Gm) (post : Int32 → StC → Prop) (mc ms : Nat)  (S : StC) (x0 : Nat) (x2 : Nat) (c0 : Nat) (z0 : Nat) : Prop :=
  ∃ (vs1 : List Value) (z5 : Nat), (x0 ∈ S.2.2.2.2.2.1) ∧ (S.2.2.2.2.2.2 x0 = .inr (3, vs1)) ∧ (vs1[0]? = some (.ref (z5))) ∧ (∃ (vs6 : List Value) (z10 : Nat), (x2 ∈ S.2.2.2.2.2.1) ∧ (S.2.2.2.2.2.2 x2 = .inr (3, vs6)) ∧ (vs6[0]? = some (.ref (z10))) ∧ (∃ (mc11 : Nat) (ms12 : Nat), (c0 + mc11 ≤ mc) ∧ (z0 + ms12 ≤ ms) ∧ (wp_La_equals g (fun (r14 : Int32) (S13 : StC) => (((r14 = 0) → wq_St_equals_54 g post mc ms  S13 ((c0 + mc11)) ((z0 + ms12))) ∧ (¬ (r14 = 0) → wq_St_equals_55 g post mc ms  S13 (1) ((c0 + mc11)) ((z0 + ms12))))) mc11 ms12 S (z5) (z10))))
def wp_St_equals (g : Gm) (post : Int32 → StC → Prop) (mc ms : Nat) (S : StC) (h0 : Nat) (a0 : Nat) : Prop :=
  (((some (h0)) = (some (a0))) → post (1) S) ∧ (¬ ((some (h0)) = (some (a0))) → ∃ (vs15 : List Value), (a0 ∈ S.2.2.2.2.2.1) ∧ (S.2.2.2.2.2.2 a0 = .inr (3, vs15)) ∧ ((¬ ((1 : Int32) = 0)) ∧ (∃ (vs18 : List Value), (a0 ∈ S.2.2.2.2.2.1) ∧ (S.2.2.2.2.2.2 a0 = .inr (3, vs18)) ∧ ((¬ ((1 : Int32) = 0)) ∧ (∃ (vs21 : List Value) (z25 : Int32), (h0 ∈ S.2.2.2.2.2.1) ∧ (S.2.2.2.2.2.2 h0 = .inr (3, vs21)) ∧ (vs21[1]? = some (.int (z25))) ∧ (∃ (vs26 : List Value) (z30 : Int32), (a0 ∈ S.2.2.2.2.2.1) ∧ (S.2.2.2.2.2.2 a0 = .inr (3, vs26)) ∧ (vs26[1]? = some (.int (z30))) ∧ ((z25 = z30) ∧ (wq_St_equals_36 g post mc ms  S (h0) (a0) (0) (0)))))))))
set_option maxRecDepth 100000 in
set_option maxHeartbeats 4000000 in
theorem c_St_equals (l : Launch) (g : Gm) (sz : Nat) (S : StC) (h0 : Nat) (a0 : Nat) (post : Int32 → StC → Prop) (mc ms : Nat) (hw : wp_St_equals g post mc ms S h0 a0) : Met l y_St_equals (.code y_St_equals b_St_equals 3 (some .boolean) :: w_C) (rmA 1 22 mc ms) (va_Pc [.ref (h0), .ref (a0)] (PC g sz S)) (va_Qi post (BC g (AC g sz S)) (AC g sz S)) mc ms (AC g sz S) := by
  refine ofA_z (by decide) (Nat.le_of_ble_eq_true rfl) (fun p e s m args below meth c Q A H locs ls hx hb hml hts hown hK hA hC hN hmn kr hl hP hD hS => ?_)
  have hl : lv_has ls 3 [(0, .ref (h0)), (1, .ref (a0))] := hl
  unfold wp_St_equals at hw
  have hcm : 0 ≤ mc := Nat.zero_le _
  have hzm : 0 ≤ ms := Nat.zero_le _
  have J55 : ∀ (S : StC) (t0 : Int32) (c0 : Nat) (z0 : Nat) (H : Heap) (locs : List Loc) (ls : Array Slot), c0 ≤ mc → z0 ≤ ms → wq_St_equals_55 g post mc ms  S t0 c0 z0 → lv_has ls 3 [] → va_P g.1 classes (wC g S) H → va_D A (wC g S) → va_S A s.heap H locs → W p l e (rmA 1 22 mc ms) s m args below meth c H locs c0 z0 Q (F0 m 55 ls [.int (t0)]) := by
    intro S t0 c0 z0 H locs ls hcm hzm hw hl hP hD hS
    unfold wq_St_equals_55 at hw
    obtain ⟨hnz, hw⟩ := hw
    exact kr (t0) S _ _ _ _ _ _ hcm hzm hnz hw hP hD hS d_St_equals_55
  have J54 : ∀ (S : StC) (c0 : Nat) (z0 : Nat) (H : Heap) (locs : List Loc) (ls : Array Slot), c0 ≤ mc → z0 ≤ ms → wq_St_equals_54 g post mc ms  S c0 z0 → lv_has ls 3 [] → va_P g.1 classes (wC g S) H → va_D A (wC g S) → va_S A s.heap H locs → W p l e (rmA 1 22 mc ms) s m args below meth c H locs c0 z0 Q (F0 m 54 ls []) := by
    intro S c0 z0 H locs ls hcm hzm hw hl hP hD hS
    unfold wq_St_equals_54 at hw
    refine lv_iconst (v := 0) hx hb d_St_equals_54 (by decide) ?_
    exact J55 S (0) (c0) (z0) _ _ _ hcm hzm hw (lv_sub hl [] rfl) hP hD hS
  have J36 : ∀ (S : StC) (x0 : Nat) (x2 : Nat) (c0 : Nat) (z0 : Nat) (H : Heap) (locs : List Loc) (ls : Array Slot), c0 ≤ mc → z0 ≤ ms → wq_St_equals_36 g post mc ms  S x0 x2 c0 z0 → lv_has ls 3 [(0, .ref (x0)), (2, .ref (x2))] → va_P g.1 classes (wC g S) H → va_D A (wC g S) → va_S A s.heap H locs → W p l e (rmA 1 22 mc ms) s m args below meth c H locs c0 z0 Q (F0 m 36 ls []) := by
    intro S x0 x2 c0 z0 H locs ls hcm hzm hw hl hP hD hS
    unfold wq_St_equals_36 at hw
    refine lv_aload_n hx hb d_St_equals_36 rfl (lv_at hl 0 rfl) ?_
    obtain ⟨vs1, z5, ha2, hf3, hv4, hw⟩ := hw
    refine pg_C (S := S) (vs := vs1) (v := .ref (z5)) (C := R_St) (F := F_St) (N := 4) hx hb hts hin_St hown hK hP ha2 hf3 rfl 0 (by decide) hv4 k_C_283 d_St_equals_37 ?_
    refine lv_aload_n hx hb d_St_equals_40 rfl (lv_at hl 1 rfl) ?_
    obtain ⟨vs6, z10, ha7, hf8, hv9, hw⟩ := hw
    refine pg_C (S := S) (vs := vs6) (v := .ref (z10)) (C := R_St) (F := F_St) (N := 4) hx hb hts hin_St hown hK hP ha7 hf8 rfl 0 (by decide) hv9 k_C_283 d_St_equals_41 ?_
    obtain ⟨mc11, ms12, hcm, hzm, hw⟩ := hw
    refine cA_iS (As := [.ref (z5), .ref (z10)]) (rest := []) hx hb hml hown hts hK hC hN hP hD hS hA hcm hzm hl.1  (qA_32 hts ⟨Nat.le_of_ble_eq_true rfl, Nat.le_of_ble_eq_true rfl⟩) (c_La_equals l g H.size _ (z5) (z10) _ _ _ hw) rfl rfl (Nat.le_of_ble_eq_true rfl) d_St_equals_44 (fun r14 S13 H locs hw hP hD hS => ?_)
    refine lv_if_eq hx hb d_St_equals_47 (tgt := 54) (by decide) (fun hc => ?_) (fun hc => ?_)
    · have hw := hw.1 hc
      exact J54 S13 ((c0 + mc11)) ((z0 + ms12)) _ _ _ hcm hzm hw (lv_sub hl [] rfl) hP hD hS
    · have hw := hw.2 hc
      refine lv_iconst (v := 1) hx hb d_St_equals_50 (by decide) ?_
      refine lv_goto hx hb d_St_equals_51 (tgt := 55) (by decide) ?_
      exact J55 S13 (1) ((c0 + mc11)) ((z0 + ms12)) _ _ _ hcm hzm hw (lv_sub hl [] rfl) hP hD hS
  refine lv_aload_n hx hb d_St_equals_0 rfl (lv_at hl 0 rfl) ?_
  refine lv_aload_n hx hb d_St_equals_1 rfl (lv_at hl 1 rfl) ?_
  refine lv_acmp_ne (rx := (some (h0))) (ry := (some (a0))) hx hb d_St_equals_2 (tgt := 7) (by decide) (fun hc => ?_) (fun hc => ?_)
  · have hw := hw.2 hc
    refine lv_aload_n hx hb d_St_equals_7 rfl (lv_at hl 1 rfl) ?_
    obtain ⟨vs15, ha16, hf17, hw⟩ := hw
    refine va_instE (nm := R_St) hx hb hown (hts _ k_C_434) (precv_C (C := R_St) (F := F_St) (N := 4) hK hP ha16 hf17 rfl) d_St_equals_8 ?_
    obtain ⟨hc9, hw⟩ := hw
    refine lv_if_eq hx hb d_St_equals_11 (tgt := 54) (by decide) (fun hc => absurd hc hc9) (fun hc => ?_)
    refine lv_aload_n hx hb d_St_equals_14 rfl (lv_at hl 1 rfl) ?_
    obtain ⟨vs18, ha19, hf20, hw⟩ := hw
    refine va_castE (nm := R_St) hx hb hown (hts _ k_C_434) (precv_C (C := R_St) (F := F_St) (N := 4) hK hP ha19 hf20 rfl) d_St_equals_15 ?_
    refine lv_astore_n (lv' := [(2, .ref (a0)), (0, .ref (h0)), (1, .ref (a0))]) hx hb d_St_equals_18 rfl hl (by decide) rfl (fun ls hl => ?_)
    refine va_gets (C := "java/lang/String") (n := "COMPACT_STRINGS") (d := "Z") (v := .int (1)) hx hb hC.2.2.2.1 hS hown (hts _ k_C_269) (fun _ h9 => h9) d_St_equals_19 ?_
    obtain ⟨hc9, hw⟩ := hw
    refine lv_if_eq hx hb d_St_equals_22 (tgt := 36) (by decide) (fun hc => absurd hc hc9) (fun hc => ?_)
    refine lv_aload_n hx hb d_St_equals_25 rfl (lv_at hl 1 rfl) ?_
    obtain ⟨vs21, z25, ha22, hf23, hv24, hw⟩ := hw
    refine pg_C (S := S) (vs := vs21) (v := .int (z25)) (C := R_St) (F := F_St) (N := 4) hx hb hts hin_St hown hK hP ha22 hf23 rfl 1 (by decide) hv24 k_C_284 d_St_equals_26 ?_
    refine lv_aload_n hx hb d_St_equals_29 rfl (lv_at hl 0 rfl) ?_
    obtain ⟨vs26, z30, ha27, hf28, hv29, hw⟩ := hw
    refine pg_C (S := S) (vs := vs26) (v := .int (z30)) (C := R_St) (F := F_St) (N := 4) hx hb hts hin_St hown hK hP ha27 hf28 rfl 1 (by decide) hv29 k_C_284 d_St_equals_30 ?_
    obtain ⟨hc9, hw⟩ := hw
    refine lv_icmp_ne hx hb d_St_equals_33 (tgt := 54) (by decide) (fun hc => absurd hc9 hc) (fun hc => ?_)
    exact J36 S (h0) (a0) (0) (0) _ _ _ hcm hzm hw (lv_sub hl [1, 0] rfl) hP hD hS
  · have hw := hw.1 hc
    refine lv_iconst (v := 1) hx hb d_St_equals_5 (by decide) ?_
    exact kr (1) S _ _ _ _ _ _ hcm hzm rfl hw hP hD hS d_St_equals_6
def wq_La_equalsC_9 (g : Gm) (post : Int32 → StC → Prop) (mc ms : Nat)  : Nat → StC → Nat → Nat → Int32 → Nat → Nat → Prop
  | 0, _, _, _, _, _, _ => False
  | n9 + 1, S, x0, x1, x2, c0, z0 =>
    (x0 < 53) ∧ ((((Int32.ofNat (lenJ.getD x0 0)) ≤ x2) → post (1) S) ∧ (¬ ((Int32.ofNat (lenJ.getD x0 0)) ≤ x2) → (x0 < 53) ∧ (vp_in x2 (lenJ.getD x0 0)) ∧ (∃ (n3 : Nat) (f4 : Nat → Int32), (x1 ∈ S.2.2.2.2.2.1) ∧ (S.2.2.2.2.2.2 x1 = .inl (g.2.1 3, n3, .inl f4)) ∧ (vp_in x2 n3) ∧ (((((bytJ.getD x0 []).getD (Int32.toNatClampNeg (x2)) 0) = (f4 (Int32.toNatClampNeg (x2)))) → (wq_La_equalsC_9 g post mc ms  n9) S (x0) (x1) ((x2 + 1)) (c0) (z0)) ∧ (¬ (((bytJ.getD x0 []).getD (Int32.toNatClampNeg (x2)) 0) = (f4 (Int32.toNatClampNeg (x2)))) → post (0) S)))))
def wp_La_equalsC (g : Gm) (post : Int32 → StC → Prop) (mc ms : Nat) (S : StC) (a0 : Nat) (a1 : Nat) : Prop :=
  (a0 < 53) ∧ (∃ (n9 : Nat) (f10 : Nat → Int32), (a1 ∈ S.2.2.2.2.2.1) ∧ (S.2.2.2.2.2.2 a1 = .inl (g.2.1 3, n9, .inl f10)) ∧ ((((Int32.ofNat (lenJ.getD a0 0)) = (Int32.ofNat n9)) → ∃ nn : Nat, wq_La_equalsC_9 g post mc ms  nn S (a0) (a1) (0) (0) (0)) ∧ (¬ ((Int32.ofNat (lenJ.getD a0 0)) = (Int32.ofNat n9)) → post (0) S)))
set_option maxRecDepth 100000 in
set_option maxHeartbeats 4000000 in
theorem c_La_equalsC (l : Launch) (g : Gm) (sz : Nat) (S : StC) (a0 : Nat) (a1 : Nat) (post : Int32 → StC → Prop) (mc ms : Nat) (hw : wp_La_equalsC g post mc ms S a0 a1) : Met l y_La_equals (.code y_La_equals b_La_equals 3 (some .boolean) :: w_C) (rmA 0 0 mc ms) (va_Pc [.ref (g.2.2 (300 + a0)), .ref (a1)] (PC g sz S)) (va_Qi post (BC g (AC g sz S)) (AC g sz S)) mc ms (AC g sz S) := by
  refine ofA_z (by decide) (Nat.le_of_ble_eq_true rfl) (fun p e s m args below meth c Q A H locs ls hx hb hml hts hown hK hA hC hN hmn kr hl hP hD hS => ?_)
  have hl : lv_has ls 3 [(0, .ref (g.2.2 (300 + a0))), (1, .ref (a1))] := hl
  unfold wp_La_equalsC at hw
  have hcm : 0 ≤ mc := Nat.zero_le _
  have hzm : 0 ≤ ms := Nat.zero_le _
  have J9 : ∀ (n9 : Nat), ∀ (S : StC) (x0 : Nat) (x1 : Nat) (x2 : Int32) (c0 : Nat) (z0 : Nat) (H : Heap) (locs : List Loc) (ls : Array Slot), c0 ≤ mc → z0 ≤ ms → wq_La_equalsC_9 g post mc ms  n9 S x0 x1 x2 c0 z0 → lv_has ls 3 [(0, .ref (g.2.2 (300 + x0))), (1, .ref (x1)), (2, .int (x2))] → va_P g.1 classes (wC g S) H → va_D A (wC g S) → va_S A s.heap H locs → W p l e (rmA 0 0 mc ms) s m args below meth c H locs c0 z0 Q (F0 m 9 ls []) := by
    intro n9
    induction n9 with
    | zero => intro S x0 x1 x2 c0 z0 H locs ls hcm hzm hw; exact hw.elim
    | succ n9 ih9 =>
      intro S x0 x1 x2 c0 z0 H locs ls hcm hzm hw hl hP hD hS
      unfold wq_La_equalsC_9 at hw
      refine lv_iload_n hx hb d_La_equals_9 rfl (lv_at hl 2 rfl) ?_
      refine lv_aload_n hx hb d_La_equals_10 rfl (lv_at hl 0 rfl) ?_
      obtain ⟨hk1, hw⟩ := hw
      refine va_tlen (v := (Int32.ofNat (lenJ.getD x0 0))) hx hb (hC.2.1.1 x0 hk1).2.2.2 hS rfl d_La_equals_11 ?_
      refine lv_icmp_ge hx hb d_La_equals_12 (tgt := 32) (by decide) (fun hc => ?_) (fun hc => ?_)
      · have hw := hw.1 hc
        refine lv_iconst (v := 1) hx hb d_La_equals_32 (by decide) ?_
        exact kr (1) S _ _ _ _ _ _ hcm hzm rfl hw hP hD hS d_La_equals_33
      · have hw := hw.2 hc
        refine lv_aload_n hx hb d_La_equals_15 rfl (lv_at hl 0 rfl) ?_
        refine lv_iload_n hx hb d_La_equals_16 rfl (lv_at hl 2 rfl) ?_
        obtain ⟨hk2, hi, hw⟩ := hw
        refine va_tb (v := .int ((bytJ.getD x0 []).getD (Int32.toNatClampNeg (x2)) 0)) hx hb (hC.2.1.1 x0 hk2).2.2.2 hS hi rfl d_La_equals_17 ?_
        refine lv_aload_n hx hb d_La_equals_18 rfl (lv_at hl 1 rfl) ?_
        refine lv_iload_n hx hb d_La_equals_19 rfl (lv_at hl 2 rfl) ?_
        obtain ⟨n3, f4, ha5, hf6, hi7, hw⟩ := hw
        refine pbl_C (S := S) hx hb hK hP ha5 hf6 hi7 d_La_equals_20 ?_
        refine lv_icmp_eq hx hb d_La_equals_21 (tgt := 26) (by decide) (fun hc => ?_) (fun hc => ?_)
        · have hw := hw.1 hc
          refine lv_iinc (k := 2) (v := (x2 + 1)) (lv' := [(2, .int ((x2 + 1))), (0, .ref (g.2.2 (300 + x0))), (1, .ref (x1))]) hx hb d_La_equals_26 hl rfl rfl (by decide) rfl (fun ls hl => ?_)
          refine lv_goto hx hb d_La_equals_29 (tgt := 9) (by decide) ?_
          exact ih9 S (x0) (x1) ((x2 + 1)) (c0) (z0) _ _ _ hcm hzm hw (lv_sub hl [1, 2, 0] rfl) hP hD hS
        · have hw := hw.2 hc
          refine lv_iconst (v := 0) hx hb d_La_equals_24 (by decide) ?_
          exact kr (0) S _ _ _ _ _ _ hcm hzm rfl hw hP hD hS d_La_equals_25
  refine lv_aload_n hx hb d_La_equals_0 rfl (lv_at hl 0 rfl) ?_
  obtain ⟨hk8, hw⟩ := hw
  refine va_tlen (v := (Int32.ofNat (lenJ.getD a0 0))) hx hb (hC.2.1.1 a0 hk8).2.2.2 hS rfl d_La_equals_1 ?_
  refine lv_aload_n hx hb d_La_equals_2 rfl (lv_at hl 1 rfl) ?_
  obtain ⟨n9, f10, ha11, hf12, hw⟩ := hw
  refine pal_C (S := S) hx hb hK hP ha11 hf12 d_La_equals_3 ?_
  refine lv_icmp_ne hx hb d_La_equals_4 (tgt := 34) (by decide) (fun hc => ?_) (fun hc => ?_)
  · have hw := hw.2 hc
    refine lv_iconst (v := 0) hx hb d_La_equals_34 (by decide) ?_
    exact kr (0) S _ _ _ _ _ _ hcm hzm rfl hw hP hD hS d_La_equals_35
  · have hw := hw.1 hc
    refine lv_iconst (v := 0) hx hb d_La_equals_7 (by decide) ?_
    refine lv_istore_n (lv' := [(2, .int (0)), (0, .ref (g.2.2 (300 + a0))), (1, .ref (a1))]) hx hb d_La_equals_8 rfl hl (by decide) rfl (fun ls hl => ?_)
    obtain ⟨nn, hw⟩ := hw
    exact J9 nn S (a0) (a1) (0) (0) (0) _ _ _ hcm hzm hw (lv_sub hl [1, 2, 0] rfl) hP hD hS
theorem qA_33 {R : Room} {s : State} {args : Array Value} {mc1 ms1 : Nat} (hts : ∀ w ∈ w_C, w.before args s = true) (hR : (rmA 0 0 mc1 ms1).frames + 1 ≤ R.frames ∧ 8 + (3 + 11) + (rmA 0 0 mc1 ms1).locals ≤ R.locals) : CallB R s args "java/lang/String" 541 y_La_equals b_La_equals 3 (some .boolean) (.code y_La_equals b_La_equals 3 (some .boolean) :: w_C) (rmA 0 0 mc1 ms1) mc1 ms1 2 ∧ (Cond.static y_La_equals).before args s = true := ⟨callB_of 2 hts (good_C k_C_437) rfl rfl rfl (hts _ k_C_16) (hts _ k_C_435) ⟨by decide +kernel, by decide +kernel, by decide +kernel⟩ hR, hts _ k_C_436⟩
def wq_St_equalsC_55 (g : Gm) (post : Int32 → StC → Prop) (mc ms : Nat)  (S : StC) (t0 : Int32) (c0 : Nat) (z0 : Nat) : Prop :=
  (narrow .boolean (.int (t0)) = .int (t0)) ∧ (post (t0) S)
def wq_St_equalsC_54 (g : Gm) (post : Int32 → StC → Prop) (mc ms : Nat)  (S : StC) (c0 : Nat) (z0 : Nat) : Prop :=
  wq_St_equalsC_55 g post mc ms  S (0) (c0) (z0)
def wq_St_equalsC_36 (g : Gm) (post : Int32 → StC → Prop) (mc ms : Nat)  (S : StC) (x0 : Nat) (x2 : Nat) (c0 : Nat) (z0 : Nat) : Prop :=
  (x0 < 53) ∧ (∃ (vs2 : List Value) (z6 : Nat), (x2 ∈ S.2.2.2.2.2.1) ∧ (S.2.2.2.2.2.2 x2 = .inr (3, vs2)) ∧ (vs2[0]? = some (.ref (z6))) ∧ (∃ (mc7 : Nat) (ms8 : Nat), (c0 + mc7 ≤ mc) ∧ (z0 + ms8 ≤ ms) ∧ (wp_La_equalsC g (fun (r10 : Int32) (S9 : StC) => (((r10 = 0) → wq_St_equalsC_54 g post mc ms  S9 ((c0 + mc7)) ((z0 + ms8))) ∧ (¬ (r10 = 0) → wq_St_equalsC_55 g post mc ms  S9 (1) ((c0 + mc7)) ((z0 + ms8))))) mc7 ms8 S (x0) (z6))))
theorem noeq_C {g : Gm} {A : Nat → Prop} {s : State} {S : StC} {a i : Nat} (hC : SC g A s s.heap) (hD : va_D A (wC g S)) (ha : a ∈ S.2.2.2.2.2.1) (hi : i < 53) : ¬ (some (g.2.2 (200 + i)) = some a) := by
  intro z
  obtain ⟨q0, hq⟩ := va_pl_get (X := xC g S) (f := S.2.2.2.2.2.2) ha
  obtain ⟨cell, -, -, -, hn⟩ := (hC.2.1.1 i hi).1
  refine hn ?_
  have h1 : A a := hD.2 q0 _ hq
  have h2 : g.2.2 (200 + i) = a := Option.some.inj z
  show A (g.2.2 (200 + i))
  rw [h2]
  exact h1
def wp_St_equalsC (g : Gm) (post : Int32 → StC → Prop) (mc ms : Nat) (S : StC) (h0 : Nat) (a0 : Nat) : Prop :=
  ((h0 < 53) ∧ (a0 ∈ S.2.2.2.2.2.1)) ∧ (¬ ((some (g.2.2 (200 + h0))) = (some (a0))) → ∃ (vs11 : List Value), (a0 ∈ S.2.2.2.2.2.1) ∧ (S.2.2.2.2.2.2 a0 = .inr (3, vs11)) ∧ ((¬ ((1 : Int32) = 0)) ∧ (∃ (vs14 : List Value), (a0 ∈ S.2.2.2.2.2.1) ∧ (S.2.2.2.2.2.2 a0 = .inr (3, vs14)) ∧ ((¬ ((1 : Int32) = 0)) ∧ ((h0 < 53) ∧ (∃ (vs18 : List Value) (z22 : Int32), (a0 ∈ S.2.2.2.2.2.1) ∧ (S.2.2.2.2.2.2 a0 = .inr (3, vs18)) ∧ (vs18[1]? = some (.int (z22))) ∧ (((0 : Int32) = z22) ∧ (wq_St_equalsC_36 g post mc ms  S (h0) (a0) (0) (0)))))))))
set_option maxRecDepth 100000 in
set_option maxHeartbeats 4000000 in
theorem c_St_equalsC (l : Launch) (g : Gm) (sz : Nat) (S : StC) (h0 : Nat) (a0 : Nat) (post : Int32 → StC → Prop) (mc ms : Nat) (hw : wp_St_equalsC g post mc ms S h0 a0) : Met l y_St_equals (.code y_St_equals b_St_equals 3 (some .boolean) :: w_C) (rmA 1 22 mc ms) (va_Pc [.ref (g.2.2 (200 + h0)), .ref (a0)] (PC g sz S)) (va_Qi post (BC g (AC g sz S)) (AC g sz S)) mc ms (AC g sz S) := by
  refine ofA_z (by decide) (Nat.le_of_ble_eq_true rfl) (fun p e s m args below meth c Q A H locs ls hx hb hml hts hown hK hA hC hN hmn kr hl hP hD hS => ?_)
  have hl : lv_has ls 3 [(0, .ref (g.2.2 (200 + h0))), (1, .ref (a0))] := hl
  unfold wp_St_equalsC at hw
  have hcm : 0 ≤ mc := Nat.zero_le _
  have hzm : 0 ≤ ms := Nat.zero_le _
  have J55 : ∀ (S : StC) (t0 : Int32) (c0 : Nat) (z0 : Nat) (H : Heap) (locs : List Loc) (ls : Array Slot), c0 ≤ mc → z0 ≤ ms → wq_St_equalsC_55 g post mc ms  S t0 c0 z0 → lv_has ls 3 [] → va_P g.1 classes (wC g S) H → va_D A (wC g S) → va_S A s.heap H locs → W p l e (rmA 1 22 mc ms) s m args below meth c H locs c0 z0 Q (F0 m 55 ls [.int (t0)]) := by
    intro S t0 c0 z0 H locs ls hcm hzm hw hl hP hD hS
    unfold wq_St_equalsC_55 at hw
    obtain ⟨hnz, hw⟩ := hw
    exact kr (t0) S _ _ _ _ _ _ hcm hzm hnz hw hP hD hS d_St_equals_55
  have J54 : ∀ (S : StC) (c0 : Nat) (z0 : Nat) (H : Heap) (locs : List Loc) (ls : Array Slot), c0 ≤ mc → z0 ≤ ms → wq_St_equalsC_54 g post mc ms  S c0 z0 → lv_has ls 3 [] → va_P g.1 classes (wC g S) H → va_D A (wC g S) → va_S A s.heap H locs → W p l e (rmA 1 22 mc ms) s m args below meth c H locs c0 z0 Q (F0 m 54 ls []) := by
    intro S c0 z0 H locs ls hcm hzm hw hl hP hD hS
    unfold wq_St_equalsC_54 at hw
    refine lv_iconst (v := 0) hx hb d_St_equals_54 (by decide) ?_
    exact J55 S (0) (c0) (z0) _ _ _ hcm hzm hw (lv_sub hl [] rfl) hP hD hS
  have J36 : ∀ (S : StC) (x0 : Nat) (x2 : Nat) (c0 : Nat) (z0 : Nat) (H : Heap) (locs : List Loc) (ls : Array Slot), c0 ≤ mc → z0 ≤ ms → wq_St_equalsC_36 g post mc ms  S x0 x2 c0 z0 → lv_has ls 3 [(0, .ref (g.2.2 (200 + x0))), (2, .ref (x2))] → va_P g.1 classes (wC g S) H → va_D A (wC g S) → va_S A s.heap H locs → W p l e (rmA 1 22 mc ms) s m args below meth c H locs c0 z0 Q (F0 m 36 ls []) := by
    intro S x0 x2 c0 z0 H locs ls hcm hzm hw hl hP hD hS
    unfold wq_St_equalsC_36 at hw
    refine lv_aload_n hx hb d_St_equals_36 rfl (lv_at hl 0 rfl) ?_
    obtain ⟨hk1, hw⟩ := hw
    refine vk_getf (q := g.2.2 (200 + x0)) (v := .ref (g.2.2 (300 + x0))) hx hb (hC.2.1.1 x0 hk1).2.2.1 hS hown (hts _ k_C_283) (fun _ h9 => h9) d_St_equals_37 ?_
    refine lv_aload_n hx hb d_St_equals_40 rfl (lv_at hl 1 rfl) ?_
    obtain ⟨vs2, z6, ha3, hf4, hv5, hw⟩ := hw
    refine pg_C (S := S) (vs := vs2) (v := .ref (z6)) (C := R_St) (F := F_St) (N := 4) hx hb hts hin_St hown hK hP ha3 hf4 rfl 0 (by decide) hv5 k_C_283 d_St_equals_41 ?_
    obtain ⟨mc7, ms8, hcm, hzm, hw⟩ := hw
    refine cA_iS (As := [.ref (g.2.2 (300 + x0)), .ref (z6)]) (rest := []) hx hb hml hown hts hK hC hN hP hD hS hA hcm hzm hl.1  (qA_33 hts ⟨Nat.le_of_ble_eq_true rfl, Nat.le_of_ble_eq_true rfl⟩) (c_La_equalsC l g H.size _ (x0) (z6) _ _ _ hw) rfl rfl (Nat.le_of_ble_eq_true rfl) d_St_equals_44 (fun r10 S9 H locs hw hP hD hS => ?_)
    refine lv_if_eq hx hb d_St_equals_47 (tgt := 54) (by decide) (fun hc => ?_) (fun hc => ?_)
    · have hw := hw.1 hc
      exact J54 S9 ((c0 + mc7)) ((z0 + ms8)) _ _ _ hcm hzm hw (lv_sub hl [] rfl) hP hD hS
    · have hw := hw.2 hc
      refine lv_iconst (v := 1) hx hb d_St_equals_50 (by decide) ?_
      refine lv_goto hx hb d_St_equals_51 (tgt := 55) (by decide) ?_
      exact J55 S9 (1) ((c0 + mc7)) ((z0 + ms8)) _ _ _ hcm hzm hw (lv_sub hl [] rfl) hP hD hS
  refine lv_aload_n hx hb d_St_equals_0 rfl (lv_at hl 0 rfl) ?_
  refine lv_aload_n hx hb d_St_equals_1 rfl (lv_at hl 1 rfl) ?_
  refine lv_acmp_ne (rx := (some (g.2.2 (200 + h0)))) (ry := (some (a0))) hx hb d_St_equals_2 (tgt := 7) (by decide) (fun hc => ?_) (fun hc => ?_)
  · have hw := hw.2 hc
    refine lv_aload_n hx hb d_St_equals_7 rfl (lv_at hl 1 rfl) ?_
    obtain ⟨vs11, ha12, hf13, hw⟩ := hw
    refine va_instE (nm := R_St) hx hb hown (hts _ k_C_434) (precv_C (C := R_St) (F := F_St) (N := 4) hK hP ha12 hf13 rfl) d_St_equals_8 ?_
    obtain ⟨hc9, hw⟩ := hw
    refine lv_if_eq hx hb d_St_equals_11 (tgt := 54) (by decide) (fun hc => absurd hc hc9) (fun hc => ?_)
    refine lv_aload_n hx hb d_St_equals_14 rfl (lv_at hl 1 rfl) ?_
    obtain ⟨vs14, ha15, hf16, hw⟩ := hw
    refine va_castE (nm := R_St) hx hb hown (hts _ k_C_434) (precv_C (C := R_St) (F := F_St) (N := 4) hK hP ha15 hf16 rfl) d_St_equals_15 ?_
    refine lv_astore_n (lv' := [(2, .ref (a0)), (0, .ref (g.2.2 (200 + h0))), (1, .ref (a0))]) hx hb d_St_equals_18 rfl hl (by decide) rfl (fun ls hl => ?_)
    refine va_gets (C := "java/lang/String") (n := "COMPACT_STRINGS") (d := "Z") (v := .int (1)) hx hb hC.2.2.2.1 hS hown (hts _ k_C_269) (fun _ h9 => h9) d_St_equals_19 ?_
    obtain ⟨hc9, hw⟩ := hw
    refine lv_if_eq hx hb d_St_equals_22 (tgt := 36) (by decide) (fun hc => absurd hc hc9) (fun hc => ?_)
    refine lv_aload_n hx hb d_St_equals_25 rfl (lv_at hl 1 rfl) ?_
    obtain ⟨hk17, hw⟩ := hw
    refine vk_getf (q := g.2.2 (200 + h0)) (v := .int (0)) hx hb (hC.2.1.1 h0 hk17).2.1 hS hown (hts _ k_C_284) (fun _ h9 => h9) d_St_equals_26 ?_
    refine lv_aload_n hx hb d_St_equals_29 rfl (lv_at hl 0 rfl) ?_
    obtain ⟨vs18, z22, ha19, hf20, hv21, hw⟩ := hw
    refine pg_C (S := S) (vs := vs18) (v := .int (z22)) (C := R_St) (F := F_St) (N := 4) hx hb hts hin_St hown hK hP ha19 hf20 rfl 1 (by decide) hv21 k_C_284 d_St_equals_30 ?_
    obtain ⟨hc9, hw⟩ := hw
    refine lv_icmp_ne hx hb d_St_equals_33 (tgt := 54) (by decide) (fun hc => absurd hc9 hc) (fun hc => ?_)
    exact J36 S (h0) (a0) (0) (0) _ _ _ hcm hzm hw (lv_sub hl [1, 0] rfl) hP hD hS
  · exact absurd hc (noeq_C hC hD hw.1.2 hw.1.1)
theorem qA_34 {R : Room} {s : State} {args : Array Value} {mc1 ms1 : Nat} (hts : ∀ w ∈ w_C, w.before args s = true) (hR : (rmA 1 22 mc1 ms1).frames + 1 ≤ R.frames ∧ 8 + (3 + 11) + (rmA 1 22 mc1 ms1).locals ≤ R.locals) : CallW R s args "WordSmith$BuiltIn" R_St 201 y_St_equals b_St_equals 3 (some .boolean) (.code y_St_equals b_St_equals 3 (some .boolean) :: w_C) (rmA 1 22 mc1 ms1) mc1 ms1 1 := ⟨callB_of 1 hts (good_C k_C_433) rfl rfl rfl (hts _ k_C_3) (hts _ k_C_442) ⟨by decide +kernel, by decide +kernel, by decide +kernel⟩ hR, hts _ k_C_431, hts _ k_C_432⟩
theorem d_Bi_find_0 : decode b_Bi_find 0 = .ok (.iconst 0, 1) := by decide +kernel
theorem d_Bi_find_1 : decode b_Bi_find 1 = .ok (.istore_n 1, 1) := by decide +kernel
theorem d_Bi_find_2 : decode b_Bi_find 2 = .ok (.iload_n 1, 1) := by decide +kernel
theorem d_Bi_find_3 : decode b_Bi_find 3 = .ok (.getstatic 198, 3) := by decide +kernel
theorem d_Bi_find_6 : decode b_Bi_find 6 = .ok (.arraylength, 1) := by decide +kernel
theorem d_Bi_find_7 : decode b_Bi_find 7 = .ok (.if_icmp .ge 33, 3) := by decide +kernel
theorem d_Bi_find_10 : decode b_Bi_find 10 = .ok (.getstatic 198, 3) := by decide +kernel
theorem d_Bi_find_13 : decode b_Bi_find 13 = .ok (.iload_n 1, 1) := by decide +kernel
theorem d_Bi_find_14 : decode b_Bi_find 14 = .ok (.aaload, 1) := by decide +kernel
theorem d_Bi_find_15 : decode b_Bi_find 15 = .ok (.getfield 188, 3) := by decide +kernel
theorem d_Bi_find_18 : decode b_Bi_find 18 = .ok (.aload_n 0, 1) := by decide +kernel
theorem d_Bi_find_19 : decode b_Bi_find 19 = .ok (.invokevirtual 201, 3) := by decide +kernel
theorem d_Bi_find_22 : decode b_Bi_find 22 = .ok (.ifCond .eq 12, 3) := by decide +kernel
theorem d_Bi_find_25 : decode b_Bi_find 25 = .ok (.getstatic 198, 3) := by decide +kernel
theorem d_Bi_find_28 : decode b_Bi_find 28 = .ok (.iload_n 1, 1) := by decide +kernel
theorem d_Bi_find_29 : decode b_Bi_find 29 = .ok (.aaload, 1) := by decide +kernel
theorem d_Bi_find_30 : decode b_Bi_find 30 = .ok (.getfield 184, 3) := by decide +kernel
theorem d_Bi_find_33 : decode b_Bi_find 33 = .ok (.ireturn, 1) := by decide +kernel
theorem d_Bi_find_34 : decode b_Bi_find 34 = .ok (.iinc 1 1, 3) := by decide +kernel
theorem d_Bi_find_37 : decode b_Bi_find 37 = .ok (.goto (-35), 3) := by decide +kernel
theorem d_Bi_find_40 : decode b_Bi_find 40 = .ok (.iconst (-1), 1) := by decide +kernel
theorem d_Bi_find_41 : decode b_Bi_find 41 = .ok (.ireturn, 1) := by decide +kernel
def wq_Bi_find_2 (g : Gm) (post : Int32 → StC → Prop) (mc ms : Nat)  : Nat → StC → Nat → Int32 → Nat → Nat → Prop
  | 0, _, _, _, _, _ => False
  | n2 + 1, S, x0, x1, c0, z0 =>
    ((52 ≤ x1) → post ((-1)) S) ∧ (¬ (52 ≤ x1) → (vp_in x1 52) ∧ (∃ (i1 : Nat), (i1 < 52) ∧ ((g.2.2 (100 + (Int32.toNatClampNeg (x1)))) = g.2.2 (100 + i1)) ∧ ((i1 < 53) ∧ (∃ (mc5 : Nat) (ms6 : Nat), (c0 + mc5 ≤ mc) ∧ (z0 + ms6 ≤ ms) ∧ (wp_St_equalsC g (fun (r8 : Int32) (S7 : StC) => (((r8 = 0) → (wq_Bi_find_2 g post mc ms  n2) S7 (x0) ((x1 + 1)) ((c0 + mc5)) ((z0 + ms6))) ∧ (¬ (r8 = 0) → (vp_in x1 52) ∧ (∃ (i9 : Nat), (i9 < 52) ∧ ((g.2.2 (100 + (Int32.toNatClampNeg (x1)))) = g.2.2 (100 + i9)) ∧ (post ((numE.getD i9 0)) S7))))) mc5 ms6 S (i1) (x0))))))
def wp_Bi_find (g : Gm) (post : Int32 → StC → Prop) (mc ms : Nat) (S : StC) (a0 : Nat) : Prop :=
  ∃ nn : Nat, wq_Bi_find_2 g post mc ms  nn S (a0) (0) (0) (0)
set_option maxRecDepth 100000 in
set_option maxHeartbeats 4000000 in
theorem c_Bi_find (l : Launch) (g : Gm) (sz : Nat) (S : StC) (a0 : Nat) (post : Int32 → StC → Prop) (mc ms : Nat) (hw : wp_Bi_find g post mc ms S a0) : Met l y_Bi_find (.code y_Bi_find b_Bi_find 2 (some .int) :: w_C) (rmA 2 44 mc ms) (va_Pc [.ref (a0)] (PC g sz S)) (va_Qi post (BC g (AC g sz S)) (AC g sz S)) mc ms (AC g sz S) := by
  refine ofA_i (by decide) (Nat.le_of_ble_eq_true rfl) (fun p e s m args below meth c Q A H locs ls hx hb hml hts hown hK hA hC hN hmn kr hl hP hD hS => ?_)
  have hl : lv_has ls 2 [(0, .ref (a0))] := hl
  unfold wp_Bi_find at hw
  have hcm : 0 ≤ mc := Nat.zero_le _
  have hzm : 0 ≤ ms := Nat.zero_le _
  have J2 : ∀ (n2 : Nat), ∀ (S : StC) (x0 : Nat) (x1 : Int32) (c0 : Nat) (z0 : Nat) (H : Heap) (locs : List Loc) (ls : Array Slot), c0 ≤ mc → z0 ≤ ms → wq_Bi_find_2 g post mc ms  n2 S x0 x1 c0 z0 → lv_has ls 2 [(0, .ref (x0)), (1, .int (x1))] → va_P g.1 classes (wC g S) H → va_D A (wC g S) → va_S A s.heap H locs → W p l e (rmA 2 44 mc ms) s m args below meth c H locs c0 z0 Q (F0 m 2 ls []) := by
    intro n2
    induction n2 with
    | zero => intro S x0 x1 c0 z0 H locs ls hcm hzm hw; exact hw.elim
    | succ n2 ih2 =>
      intro S x0 x1 c0 z0 H locs ls hcm hzm hw hl hP hD hS
      unfold wq_Bi_find_2 at hw
      refine lv_iload_n hx hb d_Bi_find_2 rfl (lv_at hl 1 rfl) ?_
      refine va_gets (C := "WordSmith$BuiltIn") (n := "ALL") (d := "[LWordSmith$BuiltIn;") (v := .ref (g.2.2 92)) hx hb hC.1.2.2.2.2.2.1 hS hown (hts _ k_C_441) (fun _ h9 => h9) d_Bi_find_3 ?_
      refine va_tlen (v := 52) hx hb hC.1.2.2.2.2.2.2 hS rfl d_Bi_find_6 ?_
      refine lv_icmp_ge hx hb d_Bi_find_7 (tgt := 40) (by decide) (fun hc => ?_) (fun hc => ?_)
      · have hw := hw.1 hc
        refine lv_iconst (v := -1) hx hb d_Bi_find_40 (by decide) ?_
        exact kr ((-1)) S _ _ _ _ _ _ hcm hzm hw hP hD hS d_Bi_find_41
      · have hw := hw.2 hc
        refine va_gets (C := "WordSmith$BuiltIn") (n := "ALL") (d := "[LWordSmith$BuiltIn;") (v := .ref (g.2.2 92)) hx hb hC.1.2.2.2.2.2.1 hS hown (hts _ k_C_441) (fun _ h9 => h9) d_Bi_find_10 ?_
        refine lv_iload_n hx hb d_Bi_find_13 rfl (lv_at hl 1 rfl) ?_
        obtain ⟨hi, hw⟩ := hw
        refine vb_tq (v := .ref ((g.2.2 (100 + (Int32.toNatClampNeg (x1)))))) hx hb hC.1.2.2.2.2.2.2 hS hi rfl d_Bi_find_14 ?_
        obtain ⟨i1, hi2, he3, hw⟩ := hw
        refine gsp_C (i := i1) hx hb hts hC hS hown he3 hi2 k_C_772 d_Bi_find_15 ?_
        refine lv_aload_n hx hb d_Bi_find_18 rfl (lv_at hl 0 rfl) ?_
        obtain ⟨hk4, hw⟩ := hw
        obtain ⟨mc5, ms6, hcm, hzm, hw⟩ := hw
        refine cA_iV (As := [.ref (x0)]) (rest := []) hx hb hml hown hts hK hC hN hP hD hS hA hcm hzm hl.1 (srecv_C hC hS rfl hk4) (qA_34 hts ⟨Nat.le_of_ble_eq_true rfl, Nat.le_of_ble_eq_true rfl⟩) (c_St_equalsC l g H.size _ (i1) (x0) _ _ _ hw) rfl rfl (Nat.le_of_ble_eq_true rfl) d_Bi_find_19 (fun r8 S7 H locs hw hP hD hS => ?_)
        refine lv_if_eq hx hb d_Bi_find_22 (tgt := 34) (by decide) (fun hc => ?_) (fun hc => ?_)
        · have hw := hw.1 hc
          refine lv_iinc (k := 1) (v := (x1 + 1)) (lv' := [(1, .int ((x1 + 1))), (0, .ref (x0))]) hx hb d_Bi_find_34 hl rfl rfl (by decide) rfl (fun ls hl => ?_)
          refine lv_goto hx hb d_Bi_find_37 (tgt := 2) (by decide) ?_
          exact ih2 S7 (x0) ((x1 + 1)) ((c0 + mc5)) ((z0 + ms6)) _ _ _ hcm hzm hw (lv_sub hl [1, 0] rfl) hP hD hS
        · have hw := hw.2 hc
          refine va_gets (C := "WordSmith$BuiltIn") (n := "ALL") (d := "[LWordSmith$BuiltIn;") (v := .ref (g.2.2 92)) hx hb hC.1.2.2.2.2.2.1 hS hown (hts _ k_C_441) (fun _ h9 => h9) d_Bi_find_25 ?_
          refine lv_iload_n hx hb d_Bi_find_28 rfl (lv_at hl 1 rfl) ?_
          obtain ⟨hi, hw⟩ := hw
          refine vb_tq (v := .ref ((g.2.2 (100 + (Int32.toNatClampNeg (x1)))))) hx hb hC.1.2.2.2.2.2.2 hS hi rfl d_Bi_find_29 ?_
          obtain ⟨i9, hi10, he11, hw⟩ := hw
          refine ge_C (i := i9) (q := fe_number) hx hb hts hC hS hown he11 hi10 fe_number_in k_C_773 d_Bi_find_30 ?_
          exact kr ((numE.getD i9 0)) S7 _ _ _ _ _ _ hcm hzm hw hP hD hS d_Bi_find_33
  refine lv_iconst (v := 0) hx hb d_Bi_find_0 (by decide) ?_
  refine lv_istore_n (lv' := [(1, .int (0)), (0, .ref (a0))]) hx hb d_Bi_find_1 rfl hl (by decide) rfl (fun ls hl => ?_)
  obtain ⟨nn, hw⟩ := hw
  exact J2 nn S (a0) (0) (0) (0) _ _ _ hcm hzm hw (lv_sub hl [1, 0] rfl) hP hD hS
theorem qA_35 {R : Room} {s : State} {args : Array Value} {mc1 ms1 : Nat} (hts : ∀ w ∈ w_C, w.before args s = true) (hR : (rmA 2 44 mc1 ms1).frames + 1 ≤ R.frames ∧ 8 + (2 + 11) + (rmA 2 44 mc1 ms1).locals ≤ R.locals) : CallB R s args "WordSmith$Dictionary" 31 y_Bi_find b_Bi_find 2 (some .int) (.code y_Bi_find b_Bi_find 2 (some .int) :: w_C) (rmA 2 44 mc1 ms1) mc1 ms1 1 ∧ (Cond.static y_Bi_find).before args s = true := ⟨callB_of 1 hts (good_C k_C_440) rfl rfl rfl (hts _ k_C_19) (hts _ k_C_438) ⟨by decide +kernel, by decide +kernel, by decide +kernel⟩ hR, hts _ k_C_439⟩
theorem qA_36 {R : Room} {s : State} {args : Array Value} {mc1 ms1 : Nat} (hts : ∀ w ∈ w_C, w.before args s = true) (hR : (rmA 1 22 mc1 ms1).frames + 1 ≤ R.frames ∧ 8 + (3 + 11) + (rmA 1 22 mc1 ms1).locals ≤ R.locals) : CallW R s args "WordSmith$Dictionary" R_St 25 y_St_equals b_St_equals 3 (some .boolean) (.code y_St_equals b_St_equals 3 (some .boolean) :: w_C) (rmA 1 22 mc1 ms1) mc1 ms1 1 := ⟨callB_of 1 hts (good_C k_C_433) rfl rfl rfl (hts _ k_C_3) (hts _ k_C_430) ⟨by decide +kernel, by decide +kernel, by decide +kernel⟩ hR, hts _ k_C_431, hts _ k_C_432⟩
theorem d_Di_find_0 : decode b_Di_find 0 = .ok (.aload_n 0, 1) := by decide +kernel
theorem d_Di_find_1 : decode b_Di_find 1 = .ok (.getfield 17, 3) := by decide +kernel
theorem d_Di_find_4 : decode b_Di_find 4 = .ok (.iconst 1, 1) := by decide +kernel
theorem d_Di_find_5 : decode b_Di_find 5 = .ok (.isub, 1) := by decide +kernel
theorem d_Di_find_6 : decode b_Di_find 6 = .ok (.istore_n 2, 1) := by decide +kernel
theorem d_Di_find_7 : decode b_Di_find 7 = .ok (.iload_n 2, 1) := by decide +kernel
theorem d_Di_find_8 : decode b_Di_find 8 = .ok (.ifCond .lt 36, 3) := by decide +kernel
theorem d_Di_find_11 : decode b_Di_find 11 = .ok (.aload_n 0, 1) := by decide +kernel
theorem d_Di_find_12 : decode b_Di_find 12 = .ok (.getfield 11, 3) := by decide +kernel
theorem d_Di_find_15 : decode b_Di_find 15 = .ok (.iload_n 2, 1) := by decide +kernel
theorem d_Di_find_16 : decode b_Di_find 16 = .ok (.aaload, 1) := by decide +kernel
theorem d_Di_find_17 : decode b_Di_find 17 = .ok (.astore_n 3, 1) := by decide +kernel
theorem d_Di_find_18 : decode b_Di_find 18 = .ok (.aload_n 3, 1) := by decide +kernel
theorem d_Di_find_19 : decode b_Di_find 19 = .ok (.ifnull 19, 3) := by decide +kernel
theorem d_Di_find_22 : decode b_Di_find 22 = .ok (.aload_n 3, 1) := by decide +kernel
theorem d_Di_find_23 : decode b_Di_find 23 = .ok (.getfield 21, 3) := by decide +kernel
theorem d_Di_find_26 : decode b_Di_find 26 = .ok (.aload_n 1, 1) := by decide +kernel
theorem d_Di_find_27 : decode b_Di_find 27 = .ok (.invokevirtual 25, 3) := by decide +kernel
theorem d_Di_find_30 : decode b_Di_find 30 = .ok (.ifCond .eq 8, 3) := by decide +kernel
theorem d_Di_find_33 : decode b_Di_find 33 = .ok (.bipush 100, 2) := by decide +kernel
theorem d_Di_find_35 : decode b_Di_find 35 = .ok (.iload_n 2, 1) := by decide +kernel
theorem d_Di_find_36 : decode b_Di_find 36 = .ok (.iadd, 1) := by decide +kernel
theorem d_Di_find_37 : decode b_Di_find 37 = .ok (.ireturn, 1) := by decide +kernel
theorem d_Di_find_38 : decode b_Di_find 38 = .ok (.iinc 2 (-1), 3) := by decide +kernel
theorem d_Di_find_41 : decode b_Di_find 41 = .ok (.goto (-34), 3) := by decide +kernel
theorem d_Di_find_44 : decode b_Di_find 44 = .ok (.aload_n 1, 1) := by decide +kernel
theorem d_Di_find_45 : decode b_Di_find 45 = .ok (.invokestatic 31, 3) := by decide +kernel
theorem d_Di_find_48 : decode b_Di_find 48 = .ok (.ireturn, 1) := by decide +kernel
def wq_Di_find_38 (g : Gm) (post : Int32 → StC → Prop) (mc ms : Nat) (k7 : StC → Nat → Int32 → Nat → Nat → Prop) (S : StC) (x1 : Nat) (x2 : Int32) (c0 : Nat) (z0 : Nat) : Prop :=
  k7 S (x1) ((x2 + (-1))) (c0) (z0)
def wq_Di_find_7 (g : Gm) (post : Int32 → StC → Prop) (mc ms : Nat)  : Nat → StC → Nat → Int32 → Nat → Nat → Prop
  | 0, _, _, _, _, _ => False
  | n7 + 1, S, x1, x2, c0, z0 =>
    ((x2 < 0) → ∃ (mc1 : Nat) (ms2 : Nat), (c0 + mc1 ≤ mc) ∧ (z0 + ms2 ≤ ms) ∧ (wp_Bi_find g (fun (r4 : Int32) (S3 : StC) => (post (r4) S3)) mc1 ms2 S (x1))) ∧ (¬ (x2 < 0) → (vp_in x2 24) ∧ (((((S.2.2.2.2.1 0) (Int32.toNatClampNeg (x2)))) = none → wq_Di_find_38 g post mc ms (wq_Di_find_7 g post mc ms  n7) S (x1) (x2) (c0) (z0)) ∧ (∀ y5 : Nat, (((S.2.2.2.2.1 0) (Int32.toNatClampNeg (x2)))) = some y5 → ∃ (vs7 : List Value) (z11 : Nat), (y5 ∈ S.2.2.2.2.2.1) ∧ (S.2.2.2.2.2.2 y5 = .inr (11, vs7)) ∧ (vs7[0]? = some (.ref (z11))) ∧ ((isStr g S (z11)) ∧ (∃ (mc13 : Nat) (ms14 : Nat), (c0 + mc13 ≤ mc) ∧ (z0 + ms14 ≤ ms) ∧ (wp_St_equals g (fun (r16 : Int32) (S15 : StC) => (((r16 = 0) → wq_Di_find_38 g post mc ms (wq_Di_find_7 g post mc ms  n7) S15 (x1) (x2) ((c0 + mc13)) ((z0 + ms14))) ∧ (¬ (r16 = 0) → post ((100 + x2)) S15))) mc13 ms14 S (z11) (x1)))))))
def wp_Di_find (g : Gm) (post : Int32 → StC → Prop) (mc ms : Nat) (S : StC) (a0 : Nat) : Prop :=
  ∃ nn : Nat, wq_Di_find_7 g post mc ms  nn S (a0) (((S.1 12) - 1)) (0) (0)
set_option maxRecDepth 100000 in
set_option maxHeartbeats 4000000 in
theorem c_Di_find (l : Launch) (g : Gm) (sz : Nat) (S : StC) (a0 : Nat) (post : Int32 → StC → Prop) (mc ms : Nat) (hw : wp_Di_find g post mc ms S a0) : Met l y_Di_find (.code y_Di_find b_Di_find 4 (some .int) :: w_C) (rmA 3 65 mc ms) (va_Pc [.ref (g.2.2 13), .ref (a0)] (PC g sz S)) (va_Qi post (BC g (AC g sz S)) (AC g sz S)) mc ms (AC g sz S) := by
  refine ofA_i (by decide) (Nat.le_of_ble_eq_true rfl) (fun p e s m args below meth c Q A H locs ls hx hb hml hts hown hK hA hC hN hmn kr hl hP hD hS => ?_)
  have hl : lv_has ls 4 [(0, .ref (g.2.2 13)), (1, .ref (a0))] := hl
  unfold wp_Di_find at hw
  have hcm : 0 ≤ mc := Nat.zero_le _
  have hzm : 0 ≤ ms := Nat.zero_le _
  have J7 : ∀ (n7 : Nat), ∀ (S : StC) (x1 : Nat) (x2 : Int32) (c0 : Nat) (z0 : Nat) (H : Heap) (locs : List Loc) (ls : Array Slot), c0 ≤ mc → z0 ≤ ms → wq_Di_find_7 g post mc ms  n7 S x1 x2 c0 z0 → lv_has ls 4 [(0, .ref (g.2.2 13)), (1, .ref (x1)), (2, .int (x2))] → va_P g.1 classes (wC g S) H → va_D A (wC g S) → va_S A s.heap H locs → W p l e (rmA 3 65 mc ms) s m args below meth c H locs c0 z0 Q (F0 m 7 ls []) := by
    intro n7
    induction n7 with
    | zero => intro S x1 x2 c0 z0 H locs ls hcm hzm hw; exact hw.elim
    | succ n7 ih7 =>
      have J38 : ∀ (S : StC) (x1 : Nat) (x2 : Int32) (c0 : Nat) (z0 : Nat) (H : Heap) (locs : List Loc) (ls : Array Slot), c0 ≤ mc → z0 ≤ ms → wq_Di_find_38 g post mc ms (wq_Di_find_7 g post mc ms  n7) S x1 x2 c0 z0 → lv_has ls 4 [(0, .ref (g.2.2 13)), (1, .ref (x1)), (2, .int (x2))] → va_P g.1 classes (wC g S) H → va_D A (wC g S) → va_S A s.heap H locs → W p l e (rmA 3 65 mc ms) s m args below meth c H locs c0 z0 Q (F0 m 38 ls []) := by
        intro S x1 x2 c0 z0 H locs ls hcm hzm hw hl hP hD hS
        unfold wq_Di_find_38 at hw
        refine lv_iinc (k := 2) (v := (x2 + (-1))) (lv' := [(2, .int ((x2 + (-1)))), (0, .ref (g.2.2 13)), (1, .ref (x1))]) hx hb d_Di_find_38 hl rfl rfl (by decide) rfl (fun ls hl => ?_)
        refine lv_goto hx hb d_Di_find_41 (tgt := 7) (by decide) ?_
        exact ih7 S (x1) ((x2 + (-1))) (c0) (z0) _ _ _ hcm hzm hw (lv_sub hl [1, 2, 0] rfl) hP hD hS
      intro S x1 x2 c0 z0 H locs ls hcm hzm hw hl hP hD hS
      unfold wq_Di_find_7 at hw
      refine lv_iload_n hx hb d_Di_find_7 rfl (lv_at hl 2 rfl) ?_
      refine lv_if_lt hx hb d_Di_find_8 (tgt := 44) (by decide) (fun hc => ?_) (fun hc => ?_)
      · have hw := hw.1 hc
        refine lv_aload_n hx hb d_Di_find_44 rfl (lv_at hl 1 rfl) ?_
        obtain ⟨mc1, ms2, hcm, hzm, hw⟩ := hw
        refine cA_iS (As := [.ref (x1)]) (rest := []) hx hb hml hown hts hK hC hN hP hD hS hA hcm hzm hl.1  (qA_35 hts ⟨Nat.le_of_ble_eq_true rfl, Nat.le_of_ble_eq_true rfl⟩) (c_Bi_find l g H.size _ (x1) _ _ _ hw) rfl rfl (Nat.le_of_ble_eq_true rfl) d_Di_find_45 (fun r4 S3 H locs hw hP hD hS => ?_)
        exact kr (r4) S3 _ _ _ _ _ _ hcm hzm hw hP hD hS d_Di_find_48
      · have hw := hw.2 hc
        refine lv_aload_n hx hb d_Di_find_11 rfl (lv_at hl 0 rfl) ?_
        refine va_get (D := g.1) (ci := 8) (v := .ref (g.2.2 14)) (C := R_Di) (T := F_Di) (N := 2) hx hb hts hin_Di hown hK hP 13 rfl rfl 0 (by decide) (hts _ k_C_92) (fun _ h9 => h9) rfl d_Di_find_12 ?_
        refine lv_iload_n hx hb d_Di_find_15 rfl (lv_at hl 2 rfl) ?_
        obtain ⟨hi, hw⟩ := hw
        refine va_aldq (f := (S.2.2.2.2.1 0)) hx hb hK hP 14 3 rfl rfl hi d_Di_find_16 ?_
        refine lv_astore_nq (lv' := [(3, va_rf (((S.2.2.2.2.1 0) (Int32.toNatClampNeg (x2))))), (0, .ref (g.2.2 13)), (1, .ref (x1)), (2, .int (x2))]) hx hb d_Di_find_17 rfl hl (by decide) rfl (fun ls hl => ?_)
        refine lv_aload_nq hx hb d_Di_find_18 rfl (lv_at hl 0 rfl) ?_
        refine lv_ifnullq hx hb d_Di_find_19 (tgt := 38) (by decide) (fun hq6 => ?_) (fun y5 hq6 => ?_)
        · have hw := hw.1 hq6
          have hl : lv_has ls 4 [(3, .null), (0, .ref (g.2.2 13)), (1, .ref (x1)), (2, .int (x2))] := by rw [hq6] at hl; exact hl
          exact J38 S (x1) (x2) (c0) (z0) _ _ _ hcm hzm hw (lv_sub hl [1, 2, 3] rfl) hP hD hS
        · have hw := hw.2 y5 hq6
          have hl : lv_has ls 4 [(3, .ref (y5)), (0, .ref (g.2.2 13)), (1, .ref (x1)), (2, .int (x2))] := by rw [hq6] at hl; exact hl
          refine lv_aload_n hx hb d_Di_find_22 rfl (lv_at hl 0 rfl) ?_
          obtain ⟨vs7, z11, ha8, hf9, hv10, hw⟩ := hw
          refine pgN_C (S := S) (vs := vs7) (v := .ref (z11)) (C := R_Mw) (F := F_Mw) (N := 5) hx hb hts hin_Mw hown hK hP ha8 hf9 rfl 0 (by decide) hv10 (va_Nw.use rfl (hN.1 _ kn_C_29)) d_Di_find_23 ?_
          refine lv_aload_n hx hb d_Di_find_26 rfl (lv_at hl 2 rfl) ?_
          obtain ⟨hsr12, hw⟩ := hw
          obtain ⟨mc13, ms14, hcm, hzm, hw⟩ := hw
          refine cA_iV (As := [.ref (x1)]) (rest := []) hx hb hml hown hts hK hC hN hP hD hS hA hcm hzm hl.1 (strv_C hK hC hP hS hsr12) (qA_36 hts ⟨Nat.le_of_ble_eq_true rfl, Nat.le_of_ble_eq_true rfl⟩) (c_St_equals l g H.size _ (z11) (x1) _ _ _ hw) rfl rfl (Nat.le_of_ble_eq_true rfl) d_Di_find_27 (fun r16 S15 H locs hw hP hD hS => ?_)
          refine lv_if_eq hx hb d_Di_find_30 (tgt := 38) (by decide) (fun hc => ?_) (fun hc => ?_)
          · have hw := hw.1 hc
            exact J38 S15 (x1) (x2) ((c0 + mc13)) ((z0 + ms14)) _ _ _ hcm hzm hw (lv_sub hl [1, 2, 3] rfl) hP hD hS
          · have hw := hw.2 hc
            refine lv_bipush (v := 100) hx hb d_Di_find_33 (by decide) ?_
            refine lv_iload_n hx hb d_Di_find_35 rfl (lv_at hl 3 rfl) ?_
            refine lv_iadd hx hb d_Di_find_36 ?_
            exact kr ((100 + x2)) S15 _ _ _ _ _ _ hcm hzm hw hP hD hS d_Di_find_37
  refine lv_aload_n hx hb d_Di_find_0 rfl (lv_at hl 0 rfl) ?_
  refine va_get (D := g.1) (ci := 8) (v := .int ((S.1 12))) (C := R_Di) (T := F_Di) (N := 2) hx hb hts hin_Di hown hK hP 13 rfl rfl 1 (by decide) (hts _ k_C_93) (fun _ h9 => h9) rfl d_Di_find_1 ?_
  refine lv_iconst (v := 1) hx hb d_Di_find_4 (by decide) ?_
  refine lv_isub hx hb d_Di_find_5 ?_
  refine lv_istore_n (lv' := [(2, .int (((S.1 12) - 1))), (0, .ref (g.2.2 13)), (1, .ref (a0))]) hx hb d_Di_find_6 rfl hl (by decide) rfl (fun ls hl => ?_)
  obtain ⟨nn, hw⟩ := hw
  exact J7 nn S (a0) (((S.1 12) - 1)) (0) (0) _ _ _ hcm hzm hw (lv_sub hl [1, 2, 0] rfl) hP hD hS
theorem qA_37 {R : Room} {s : State} {args : Array Value} {mc1 ms1 : Nat} (hts : ∀ w ∈ w_C, w.before args s = true) (hR : (rmA 3 65 mc1 ms1).frames + 1 ≤ R.frames ∧ 8 + (4 + 11) + (rmA 3 65 mc1 ms1).locals ≤ R.locals) : CallW R s args "WordSmith$Reader" R_Di 98 y_Di_find b_Di_find 4 (some .int) (.code y_Di_find b_Di_find 4 (some .int) :: w_C) (rmA 3 65 mc1 ms1) mc1 ms1 1 := ⟨callB_of 1 hts (good_C k_C_429) rfl rfl rfl (hts _ k_C_9) (hts _ k_C_426) ⟨by decide +kernel, by decide +kernel, by decide +kernel⟩ hR, hts _ k_C_427, hts _ k_C_428⟩
theorem d_Rd_putNumberOfWord_0 : decode b_Rd_putNumberOfWord 0 = .ok (.aload_n 0, 1) := by decide +kernel
theorem d_Rd_putNumberOfWord_1 : decode b_Rd_putNumberOfWord 1 = .ok (.getfield 12, 3) := by decide +kernel
theorem d_Rd_putNumberOfWord_4 : decode b_Rd_putNumberOfWord 4 = .ok (.getfield 94, 3) := by decide +kernel
theorem d_Rd_putNumberOfWord_7 : decode b_Rd_putNumberOfWord 7 = .ok (.aload_n 1, 1) := by decide +kernel
theorem d_Rd_putNumberOfWord_8 : decode b_Rd_putNumberOfWord 8 = .ok (.invokevirtual 98, 3) := by decide +kernel
theorem d_Rd_putNumberOfWord_11 : decode b_Rd_putNumberOfWord 11 = .ok (.istore_n 2, 1) := by decide +kernel
theorem d_Rd_putNumberOfWord_12 : decode b_Rd_putNumberOfWord 12 = .ok (.iload_n 2, 1) := by decide +kernel
theorem d_Rd_putNumberOfWord_13 : decode b_Rd_putNumberOfWord 13 = .ok (.iconst (-1), 1) := by decide +kernel
theorem d_Rd_putNumberOfWord_14 : decode b_Rd_putNumberOfWord 14 = .ok (.if_icmp .ne 7, 3) := by decide +kernel
theorem d_Rd_putNumberOfWord_17 : decode b_Rd_putNumberOfWord 17 = .ok (.iconst 1, 1) := by decide +kernel
theorem d_Rd_putNumberOfWord_18 : decode b_Rd_putNumberOfWord 18 = .ok (.goto 11, 3) := by decide +kernel
theorem d_Rd_putNumberOfWord_21 : decode b_Rd_putNumberOfWord 21 = .ok (.aload_n 0, 1) := by decide +kernel
theorem d_Rd_putNumberOfWord_22 : decode b_Rd_putNumberOfWord 22 = .ok (.getfield 12, 3) := by decide +kernel
theorem d_Rd_putNumberOfWord_25 : decode b_Rd_putNumberOfWord 25 = .ok (.iload_n 2, 1) := by decide +kernel
theorem d_Rd_putNumberOfWord_26 : decode b_Rd_putNumberOfWord 26 = .ok (.invokevirtual 134, 3) := by decide +kernel
theorem d_Rd_putNumberOfWord_29 : decode b_Rd_putNumberOfWord 29 = .ok (.ireturn, 1) := by decide +kernel
def wq_Rd_putNumberOfWord_29 (g : Gm) (post : Int32 → StC → Prop) (mc ms : Nat)  (S : StC) (t0 : Int32) (c0 : Nat) (z0 : Nat) : Prop :=
  post (t0) S
def wp_Rd_putNumberOfWord (g : Gm) (post : Int32 → StC → Prop) (mc ms : Nat) (S : StC) (a0 : Nat) : Prop :=
  ∃ (mc1 : Nat) (ms2 : Nat), (0 + mc1 ≤ mc) ∧ (0 + ms2 ≤ ms) ∧ (wp_Di_find g (fun (r4 : Int32) (S3 : StC) => (((r4 = (-1)) → wq_Rd_putNumberOfWord_29 g post mc ms  S3 (1) ((0 + mc1)) ((0 + ms2))) ∧ (¬ (r4 = (-1)) → wp_Ma_putNumber g (fun (r6 : Int32) (S5 : StC) => (wq_Rd_putNumberOfWord_29 g post mc ms  S5 (r6) ((0 + mc1)) ((0 + ms2)))) S3 (r4)))) mc1 ms2 S (a0))
set_option maxRecDepth 100000 in
set_option maxHeartbeats 4000000 in
theorem c_Rd_putNumberOfWord (l : Launch) (g : Gm) (sz : Nat) (S : StC) (a0 : Nat) (post : Int32 → StC → Prop) (mc ms : Nat) (hw : wp_Rd_putNumberOfWord g post mc ms S a0) : Met l y_Rd_putNumberOfWord (.code y_Rd_putNumberOfWord b_Rd_putNumberOfWord 3 (some .int) :: w_C) (rmA 4 88 mc ms) (va_Pc [.ref (g.2.2 2), .ref (a0)] (PC g sz S)) (va_Qi post (BC g (AC g sz S)) (AC g sz S)) mc ms (AC g sz S) := by
  refine ofA_i (by decide) (Nat.le_of_ble_eq_true rfl) (fun p e s m args below meth c Q A H locs ls hx hb hml hts hown hK hA hC hN hmn kr hl hP hD hS => ?_)
  have hl : lv_has ls 3 [(0, .ref (g.2.2 2)), (1, .ref (a0))] := hl
  unfold wp_Rd_putNumberOfWord at hw
  have hcm : 0 ≤ mc := Nat.zero_le _
  have hzm : 0 ≤ ms := Nat.zero_le _
  have J29 : ∀ (S : StC) (t0 : Int32) (c0 : Nat) (z0 : Nat) (H : Heap) (locs : List Loc) (ls : Array Slot), c0 ≤ mc → z0 ≤ ms → wq_Rd_putNumberOfWord_29 g post mc ms  S t0 c0 z0 → lv_has ls 3 [] → va_P g.1 classes (wC g S) H → va_D A (wC g S) → va_S A s.heap H locs → W p l e (rmA 4 88 mc ms) s m args below meth c H locs c0 z0 Q (F0 m 29 ls [.int (t0)]) := by
    intro S t0 c0 z0 H locs ls hcm hzm hw hl hP hD hS
    unfold wq_Rd_putNumberOfWord_29 at hw
    exact kr (t0) S _ _ _ _ _ _ hcm hzm hw hP hD hS d_Rd_putNumberOfWord_29
  refine lv_aload_n hx hb d_Rd_putNumberOfWord_0 rfl (lv_at hl 0 rfl) ?_
  refine va_get (D := g.1) (ci := 4) (v := .ref (g.2.2 3)) (C := R_Rd) (T := F_Rd) (N := 6) hx hb hts hin_Rd hown hK hP 2 rfl rfl 0 (by decide) (hts _ k_C_127) (fun _ h9 => h9) rfl d_Rd_putNumberOfWord_1 ?_
  refine va_getN (D := g.1) (ci := 5) (v := .ref (g.2.2 13)) (C := R_Ma) (T := F_Ma) (N := 9) hx hb hts hin_Ma hown hK hP 3 rfl rfl 3 (by decide) (va_Nw.use rfl (hN.1 _ kn_C_21)) (fun _ h9 => h9) rfl d_Rd_putNumberOfWord_4 ?_
  refine lv_aload_n hx hb d_Rd_putNumberOfWord_7 rfl (lv_at hl 1 rfl) ?_
  obtain ⟨mc1, ms2, hcm, hzm, hw⟩ := hw
  refine cA_iV (As := [.ref (a0)]) (rest := []) hx hb hml hown hts hK hC hN hP hD hS hA hcm hzm hl.1 (va_recv (q0 := 13) (ci := 8) (q := (R_Di, F_Di, 2)) hK hP rfl rfl) (qA_37 hts ⟨Nat.le_of_ble_eq_true rfl, Nat.le_of_ble_eq_true rfl⟩) (c_Di_find l g H.size _ (a0) _ _ _ hw) rfl rfl (Nat.le_of_ble_eq_true rfl) d_Rd_putNumberOfWord_8 (fun r4 S3 H locs hw hP hD hS => ?_)
  refine lv_istore_n (lv' := [(2, .int (r4)), (0, .ref (g.2.2 2)), (1, .ref (a0))]) hx hb d_Rd_putNumberOfWord_11 rfl hl (by decide) rfl (fun ls hl => ?_)
  refine lv_iload_n hx hb d_Rd_putNumberOfWord_12 rfl (lv_at hl 0 rfl) ?_
  refine lv_iconst (v := -1) hx hb d_Rd_putNumberOfWord_13 (by decide) ?_
  refine lv_icmp_ne hx hb d_Rd_putNumberOfWord_14 (tgt := 21) (by decide) (fun hc => ?_) (fun hc => ?_)
  · have hw := hw.2 hc
    refine lv_aload_n hx hb d_Rd_putNumberOfWord_21 rfl (lv_at hl 1 rfl) ?_
    refine va_get (D := g.1) (ci := 4) (v := .ref (g.2.2 3)) (C := R_Rd) (T := F_Rd) (N := 6) hx hb hts hin_Rd hown hK hP 2 rfl rfl 0 (by decide) (hts _ k_C_127) (fun _ h9 => h9) rfl d_Rd_putNumberOfWord_22 ?_
    refine lv_iload_n hx hb d_Rd_putNumberOfWord_25 rfl (lv_at hl 0 rfl) ?_
    refine cC_iV (As := [.int (r4)]) (rest := []) hx hb hml hown hts hK hC hN hP hD hS hA hcm hzm hl.1 (va_recv (q0 := 3) (ci := 5) (q := (R_Ma, F_Ma, 9)) hK hP rfl rfl) (qC_69 hts ⟨Nat.le_of_ble_eq_true rfl, Nat.le_of_ble_eq_true rfl⟩) (c_Ma_putNumber l g H.size _ (r4) _ hw) rfl rfl (Nat.le_of_ble_eq_true rfl) d_Rd_putNumberOfWord_26 (fun r6 S5 H locs hw hP hD hS => ?_)
    exact J29 S5 (r6) ((0 + mc1)) ((0 + ms2)) _ _ _ hcm hzm hw (lv_sub hl [] rfl) hP hD hS
  · have hw := hw.1 hc
    refine lv_iconst (v := 1) hx hb d_Rd_putNumberOfWord_17 (by decide) ?_
    refine lv_goto hx hb d_Rd_putNumberOfWord_18 (tgt := 29) (by decide) ?_
    exact J29 S3 (1) ((0 + mc1)) ((0 + ms2)) _ _ _ hcm hzm hw (lv_sub hl [] rfl) hP hD hS
theorem d_Mw_init_0 : decode b_Mw_init 0 = .ok (.aload_n 0, 1) := by decide +kernel
theorem d_Mw_init_1 : decode b_Mw_init 1 = .ok (.invokespecial 3, 3) := by decide +kernel
theorem d_Mw_init_4 : decode b_Mw_init 4 = .ok (.aload_n 0, 1) := by decide +kernel
theorem d_Mw_init_5 : decode b_Mw_init 5 = .ok (.bipush 60, 2) := by decide +kernel
theorem d_Mw_init_7 : decode b_Mw_init 7 = .ok (.newarray .int, 2) := by decide +kernel
theorem d_Mw_init_9 : decode b_Mw_init 9 = .ok (.putfield 9, 3) := by decide +kernel
theorem d_Mw_init_12 : decode b_Mw_init 12 = .ok (.aload_n 0, 1) := by decide +kernel
theorem d_Mw_init_13 : decode b_Mw_init 13 = .ok (.bipush 60, 2) := by decide +kernel
theorem d_Mw_init_15 : decode b_Mw_init 15 = .ok (.newarray .int, 2) := by decide +kernel
theorem d_Mw_init_17 : decode b_Mw_init 17 = .ok (.putfield 15, 3) := by decide +kernel
theorem d_Mw_init_20 : decode b_Mw_init 20 = .ok (.aload_n 0, 1) := by decide +kernel
theorem d_Mw_init_21 : decode b_Mw_init 21 = .ok (.aload_n 1, 1) := by decide +kernel
theorem d_Mw_init_22 : decode b_Mw_init 22 = .ok (.putfield 18, 3) := by decide +kernel
theorem d_Mw_init_25 : decode b_Mw_init 25 = .ok (.return_, 1) := by decide +kernel
def wp_Mw_init (g : Gm) (post : StC → Prop) (mc ms : Nat) (S : StC) (h0 : Nat) (a0 : Nat) : Prop :=
  (¬ (60 : Int32) < 0) ∧ ((Int32.toNatClampNeg (60)) * 4 ≤ 536870912) ∧ (0 + 1 ≤ mc) ∧ (0 + (Int32.toNatClampNeg (60)) ≤ ms) ∧ (∀ q1 : Nat, q1 ∉ S.2.2.2.2.2.1 → ∃ (vs3 : List Value), (h0 ∈ (S.2.2.2.2.2.1 ++ [q1])) ∧ ((va_up S.2.2.2.2.2.2 q1 (.inl (g.2.1 0, (Int32.toNatClampNeg (60)), .inl (fun _ => 0)))) h0 = .inr (11, vs3)) ∧ (1 < vs3.length) ∧ ((¬ (60 : Int32) < 0) ∧ ((Int32.toNatClampNeg (60)) * 4 ≤ 536870912) ∧ ((0 + 1) + 1 ≤ mc) ∧ ((0 + (Int32.toNatClampNeg (60))) + (Int32.toNatClampNeg (60)) ≤ ms) ∧ (∀ q7 : Nat, q7 ∉ (S.2.2.2.2.2.1 ++ [q1]) → ∃ (vs9 : List Value), (h0 ∈ ((S.2.2.2.2.2.1 ++ [q1]) ++ [q7])) ∧ ((va_up (va_up (va_up S.2.2.2.2.2.2 q1 (.inl (g.2.1 0, (Int32.toNatClampNeg (60)), .inl (fun _ => 0)))) h0 (.inr (11, vs3.set 1 (.ref (q1))))) q7 (.inl (g.2.1 0, (Int32.toNatClampNeg (60)), .inl (fun _ => 0)))) h0 = .inr (11, vs9)) ∧ (2 < vs9.length) ∧ (∃ (vs13 : List Value), (h0 ∈ ((S.2.2.2.2.2.1 ++ [q1]) ++ [q7])) ∧ ((va_up (va_up (va_up (va_up S.2.2.2.2.2.2 q1 (.inl (g.2.1 0, (Int32.toNatClampNeg (60)), .inl (fun _ => 0)))) h0 (.inr (11, vs3.set 1 (.ref (q1))))) q7 (.inl (g.2.1 0, (Int32.toNatClampNeg (60)), .inl (fun _ => 0)))) h0 (.inr (11, vs9.set 2 (.ref (q7))))) h0 = .inr (11, vs13)) ∧ (0 < vs13.length) ∧ (post (S.1, S.2.1, S.2.2.1, S.2.2.2.1, S.2.2.2.2.1, ((S.2.2.2.2.2.1 ++ [q1]) ++ [q7]), (va_up (va_up (va_up (va_up (va_up S.2.2.2.2.2.2 q1 (.inl (g.2.1 0, (Int32.toNatClampNeg (60)), .inl (fun _ => 0)))) h0 (.inr (11, vs3.set 1 (.ref (q1))))) q7 (.inl (g.2.1 0, (Int32.toNatClampNeg (60)), .inl (fun _ => 0)))) h0 (.inr (11, vs9.set 2 (.ref (q7))))) h0 (.inr (11, vs13.set 0 (.ref (a0)))))))))))
set_option maxRecDepth 100000 in
set_option maxHeartbeats 4000000 in
theorem c_Mw_init (l : Launch) (g : Gm) (sz : Nat) (S : StC) (h0 : Nat) (a0 : Nat) (post : StC → Prop) (mc ms : Nat) (hw : wp_Mw_init g post mc ms S h0 a0) : Met l y_Mw_init (.code y_Mw_init b_Mw_init 2 none :: w_C) (rmA 1 20 mc ms) (va_Pc [.ref (h0), .ref (a0)] (PC g sz S)) (va_Qv post (BC g (AC g sz S)) (AC g sz S)) mc ms (AC g sz S) := by
  refine ofA_v (by decide) (Nat.le_of_ble_eq_true rfl) (fun p e s m args below meth c Q A H locs ls hx hb hml hts hown hK hA hC hN hmn kr hl hP hD hS => ?_)
  have hl : lv_has ls 2 [(0, .ref (h0)), (1, .ref (a0))] := hl
  unfold wp_Mw_init at hw
  have hcm : 0 ≤ mc := Nat.zero_le _
  have hzm : 0 ≤ ms := Nat.zero_le _
  refine lv_aload_n hx hb d_Mw_init_0 rfl (lv_at hl 0 rfl) ?_
  refine W.objInit hx hb hown (hts _ k_C_497) (hts _ k_C_26) (hts _ k_C_27) rfl (by rw [hml]; exact hl.1) rfl d_Mw_init_1 (Nat.le_of_ble_eq_true rfl) (Nat.le_of_ble_eq_true rfl) ?_
  refine W.eq (g2 := F0 m 4 ls []) rfl ?_
  refine lv_aload_n hx hb d_Mw_init_4 rfl (lv_at hl 0 rfl) ?_
  refine lv_bipush (v := 60) hx hb d_Mw_init_5 (by decide) ?_
  obtain ⟨hn9, hb9, hcm, hzm, hw⟩ := hw
  refine pni_C (S := S) hx hb hts k_C_71 hK hP hD hS hA hn9 hb9 hcm hzm d_Mw_init_7 (fun q1 H hq2 hP hD hS => ?_)
  have hP : va_P g.1 classes (wC g (S.1, S.2.1, S.2.2.1, S.2.2.2.1, S.2.2.2.2.1, (S.2.2.2.2.2.1 ++ [q1]), (va_up S.2.2.2.2.2.2 q1 (.inl (g.2.1 0, (Int32.toNatClampNeg (60)), .inl (fun _ => 0)))))) H := hP
  have hD : va_D A (wC g (S.1, S.2.1, S.2.2.1, S.2.2.2.1, S.2.2.2.2.1, (S.2.2.2.2.2.1 ++ [q1]), (va_up S.2.2.2.2.2.2 q1 (.inl (g.2.1 0, (Int32.toNatClampNeg (60)), .inl (fun _ => 0)))))) := hD
  have hw := hw q1 hq2
  obtain ⟨vs3, ha4, hf5, hk6, hw⟩ := hw
  refine ppF_C (S := (S.1, S.2.1, S.2.2.1, S.2.2.2.1, S.2.2.2.2.1, (S.2.2.2.2.2.1 ++ [q1]), (va_up S.2.2.2.2.2.2 q1 (.inl (g.2.1 0, (Int32.toNatClampNeg (60)), .inl (fun _ => 0)))))) (vs := vs3) (v := .ref (q1)) (C := R_Mw) (F := F_Mw) (N := 5) hx hb hts hin_Mw t_Mw t_Mw_ok n_Mw hown hK hP hD hS ha4 hf5 rfl 1 (by decide) rfl hmn rfl rfl rfl hk6 k_C_499 d_Mw_init_9 (fun H locs hP hD hS => ?_)
  have hP : va_P g.1 classes (wC g (S.1, S.2.1, S.2.2.1, S.2.2.2.1, S.2.2.2.2.1, (S.2.2.2.2.2.1 ++ [q1]), (va_up (va_up S.2.2.2.2.2.2 q1 (.inl (g.2.1 0, (Int32.toNatClampNeg (60)), .inl (fun _ => 0)))) h0 (.inr (11, vs3.set 1 (.ref (q1))))))) H := hP
  have hD : va_D A (wC g (S.1, S.2.1, S.2.2.1, S.2.2.2.1, S.2.2.2.2.1, (S.2.2.2.2.2.1 ++ [q1]), (va_up (va_up S.2.2.2.2.2.2 q1 (.inl (g.2.1 0, (Int32.toNatClampNeg (60)), .inl (fun _ => 0)))) h0 (.inr (11, vs3.set 1 (.ref (q1))))))) := hD
  refine lv_aload_n hx hb d_Mw_init_12 rfl (lv_at hl 0 rfl) ?_
  refine lv_bipush (v := 60) hx hb d_Mw_init_13 (by decide) ?_
  obtain ⟨hn9, hb9, hcm, hzm, hw⟩ := hw
  refine pni_C (S := (S.1, S.2.1, S.2.2.1, S.2.2.2.1, S.2.2.2.2.1, (S.2.2.2.2.2.1 ++ [q1]), (va_up (va_up S.2.2.2.2.2.2 q1 (.inl (g.2.1 0, (Int32.toNatClampNeg (60)), .inl (fun _ => 0)))) h0 (.inr (11, vs3.set 1 (.ref (q1))))))) hx hb hts k_C_71 hK hP hD hS hA hn9 hb9 hcm hzm d_Mw_init_15 (fun q7 H hq8 hP hD hS => ?_)
  have hP : va_P g.1 classes (wC g (S.1, S.2.1, S.2.2.1, S.2.2.2.1, S.2.2.2.2.1, ((S.2.2.2.2.2.1 ++ [q1]) ++ [q7]), (va_up (va_up (va_up S.2.2.2.2.2.2 q1 (.inl (g.2.1 0, (Int32.toNatClampNeg (60)), .inl (fun _ => 0)))) h0 (.inr (11, vs3.set 1 (.ref (q1))))) q7 (.inl (g.2.1 0, (Int32.toNatClampNeg (60)), .inl (fun _ => 0)))))) H := hP
  have hD : va_D A (wC g (S.1, S.2.1, S.2.2.1, S.2.2.2.1, S.2.2.2.2.1, ((S.2.2.2.2.2.1 ++ [q1]) ++ [q7]), (va_up (va_up (va_up S.2.2.2.2.2.2 q1 (.inl (g.2.1 0, (Int32.toNatClampNeg (60)), .inl (fun _ => 0)))) h0 (.inr (11, vs3.set 1 (.ref (q1))))) q7 (.inl (g.2.1 0, (Int32.toNatClampNeg (60)), .inl (fun _ => 0)))))) := hD
  have hw := hw q7 hq8
  obtain ⟨vs9, ha10, hf11, hk12, hw⟩ := hw
  refine ppF_C (S := (S.1, S.2.1, S.2.2.1, S.2.2.2.1, S.2.2.2.2.1, ((S.2.2.2.2.2.1 ++ [q1]) ++ [q7]), (va_up (va_up (va_up S.2.2.2.2.2.2 q1 (.inl (g.2.1 0, (Int32.toNatClampNeg (60)), .inl (fun _ => 0)))) h0 (.inr (11, vs3.set 1 (.ref (q1))))) q7 (.inl (g.2.1 0, (Int32.toNatClampNeg (60)), .inl (fun _ => 0)))))) (vs := vs9) (v := .ref (q7)) (C := R_Mw) (F := F_Mw) (N := 5) hx hb hts hin_Mw t_Mw t_Mw_ok n_Mw hown hK hP hD hS ha10 hf11 rfl 2 (by decide) rfl hmn rfl rfl rfl hk12 k_C_500 d_Mw_init_17 (fun H locs hP hD hS => ?_)
  have hP : va_P g.1 classes (wC g (S.1, S.2.1, S.2.2.1, S.2.2.2.1, S.2.2.2.2.1, ((S.2.2.2.2.2.1 ++ [q1]) ++ [q7]), (va_up (va_up (va_up (va_up S.2.2.2.2.2.2 q1 (.inl (g.2.1 0, (Int32.toNatClampNeg (60)), .inl (fun _ => 0)))) h0 (.inr (11, vs3.set 1 (.ref (q1))))) q7 (.inl (g.2.1 0, (Int32.toNatClampNeg (60)), .inl (fun _ => 0)))) h0 (.inr (11, vs9.set 2 (.ref (q7))))))) H := hP
  have hD : va_D A (wC g (S.1, S.2.1, S.2.2.1, S.2.2.2.1, S.2.2.2.2.1, ((S.2.2.2.2.2.1 ++ [q1]) ++ [q7]), (va_up (va_up (va_up (va_up S.2.2.2.2.2.2 q1 (.inl (g.2.1 0, (Int32.toNatClampNeg (60)), .inl (fun _ => 0)))) h0 (.inr (11, vs3.set 1 (.ref (q1))))) q7 (.inl (g.2.1 0, (Int32.toNatClampNeg (60)), .inl (fun _ => 0)))) h0 (.inr (11, vs9.set 2 (.ref (q7))))))) := hD
  refine lv_aload_n hx hb d_Mw_init_20 rfl (lv_at hl 0 rfl) ?_
  refine lv_aload_n hx hb d_Mw_init_21 rfl (lv_at hl 1 rfl) ?_
  obtain ⟨vs13, ha14, hf15, hk16, hw⟩ := hw
  refine ppF_C (S := (S.1, S.2.1, S.2.2.1, S.2.2.2.1, S.2.2.2.2.1, ((S.2.2.2.2.2.1 ++ [q1]) ++ [q7]), (va_up (va_up (va_up (va_up S.2.2.2.2.2.2 q1 (.inl (g.2.1 0, (Int32.toNatClampNeg (60)), .inl (fun _ => 0)))) h0 (.inr (11, vs3.set 1 (.ref (q1))))) q7 (.inl (g.2.1 0, (Int32.toNatClampNeg (60)), .inl (fun _ => 0)))) h0 (.inr (11, vs9.set 2 (.ref (q7))))))) (vs := vs13) (v := .ref (a0)) (C := R_Mw) (F := F_Mw) (N := 5) hx hb hts hin_Mw t_Mw t_Mw_ok n_Mw hown hK hP hD hS ha14 hf15 rfl 0 (by decide) rfl hmn rfl rfl rfl hk16 k_C_498 d_Mw_init_22 (fun H locs hP hD hS => ?_)
  have hP : va_P g.1 classes (wC g (S.1, S.2.1, S.2.2.1, S.2.2.2.1, S.2.2.2.2.1, ((S.2.2.2.2.2.1 ++ [q1]) ++ [q7]), (va_up (va_up (va_up (va_up (va_up S.2.2.2.2.2.2 q1 (.inl (g.2.1 0, (Int32.toNatClampNeg (60)), .inl (fun _ => 0)))) h0 (.inr (11, vs3.set 1 (.ref (q1))))) q7 (.inl (g.2.1 0, (Int32.toNatClampNeg (60)), .inl (fun _ => 0)))) h0 (.inr (11, vs9.set 2 (.ref (q7))))) h0 (.inr (11, vs13.set 0 (.ref (a0))))))) H := hP
  have hD : va_D A (wC g (S.1, S.2.1, S.2.2.1, S.2.2.2.1, S.2.2.2.2.1, ((S.2.2.2.2.2.1 ++ [q1]) ++ [q7]), (va_up (va_up (va_up (va_up (va_up S.2.2.2.2.2.2 q1 (.inl (g.2.1 0, (Int32.toNatClampNeg (60)), .inl (fun _ => 0)))) h0 (.inr (11, vs3.set 1 (.ref (q1))))) q7 (.inl (g.2.1 0, (Int32.toNatClampNeg (60)), .inl (fun _ => 0)))) h0 (.inr (11, vs9.set 2 (.ref (q7))))) h0 (.inr (11, vs13.set 0 (.ref (a0))))))) := hD
  exact kr (S.1, S.2.1, S.2.2.1, S.2.2.2.1, S.2.2.2.2.1, ((S.2.2.2.2.2.1 ++ [q1]) ++ [q7]), (va_up (va_up (va_up (va_up (va_up S.2.2.2.2.2.2 q1 (.inl (g.2.1 0, (Int32.toNatClampNeg (60)), .inl (fun _ => 0)))) h0 (.inr (11, vs3.set 1 (.ref (q1))))) q7 (.inl (g.2.1 0, (Int32.toNatClampNeg (60)), .inl (fun _ => 0)))) h0 (.inr (11, vs9.set 2 (.ref (q7))))) h0 (.inr (11, vs13.set 0 (.ref (a0)))))) _ _ _ _ _ _ hcm hzm hw hP hD hS d_Mw_init_25
theorem qA_38 {R : Room} {s : State} {args : Array Value} {mc1 ms1 : Nat} (hts : ∀ w ∈ w_C, w.before args s = true) (hR : (rmA 1 20 mc1 ms1).frames + 1 ≤ R.frames ∧ 8 + (2 + 11) + (rmA 1 20 mc1 ms1).locals ≤ R.locals) : CallB R s args "WordSmith$Reader" 234 y_Mw_init b_Mw_init 2 none (.code y_Mw_init b_Mw_init 2 none :: w_C) (rmA 1 20 mc1 ms1) mc1 ms1 1 ∧ y_Mw_init.name = "<init>" ∧ (Cond.instanceMethod y_Mw_init).before args s = true := ⟨callB_of 1 hts (good_C k_C_496) rfl rfl rfl (hts _ k_C_21) (hts _ k_C_494) ⟨by decide +kernel, by decide +kernel, by decide +kernel⟩ hR, rfl, hts _ k_C_495⟩
theorem qC_82 {R : Room} {s : State} {args : Array Value} (hts : ∀ w ∈ w_C, w.before args s = true) (hR : (rmM 0 0).frames + 1 ≤ R.frames ∧ 8 + (3 + 11) + (rmM 0 0).locals ≤ R.locals) : CallW R s args "WordSmith$Reader" R_Mw 236 y_Mw_add b_Mw_add 3 none (.code y_Mw_add b_Mw_add 3 none :: w_C) (rmM 0 0) 0 0 2 := ⟨callB_of 2 hts (good_C k_C_410) rfl rfl rfl (hts _ k_C_21) (hts _ k_C_503) ⟨by decide +kernel, by decide +kernel, by decide +kernel⟩ hR, hts _ k_C_408, hts _ k_C_409⟩
theorem d_Rd_makeNumberWord_0 : decode b_Rd_makeNumberWord 0 = .ok (.new 178, 3) := by decide +kernel
theorem d_Rd_makeNumberWord_3 : decode b_Rd_makeNumberWord 3 = .ok (.dup, 1) := by decide +kernel
theorem d_Rd_makeNumberWord_4 : decode b_Rd_makeNumberWord 4 = .ok (.aload_n 1, 1) := by decide +kernel
theorem d_Rd_makeNumberWord_5 : decode b_Rd_makeNumberWord 5 = .ok (.invokespecial 234, 3) := by decide +kernel
theorem d_Rd_makeNumberWord_8 : decode b_Rd_makeNumberWord 8 = .ok (.astore_n 3, 1) := by decide +kernel
theorem d_Rd_makeNumberWord_9 : decode b_Rd_makeNumberWord 9 = .ok (.aload_n 3, 1) := by decide +kernel
theorem d_Rd_makeNumberWord_10 : decode b_Rd_makeNumberWord 10 = .ok (.iconst 0, 1) := by decide +kernel
theorem d_Rd_makeNumberWord_11 : decode b_Rd_makeNumberWord 11 = .ok (.iload_n 2, 1) := by decide +kernel
theorem d_Rd_makeNumberWord_12 : decode b_Rd_makeNumberWord 12 = .ok (.invokevirtual 236, 3) := by decide +kernel
theorem d_Rd_makeNumberWord_15 : decode b_Rd_makeNumberWord 15 = .ok (.aload_n 0, 1) := by decide +kernel
theorem d_Rd_makeNumberWord_16 : decode b_Rd_makeNumberWord 16 = .ok (.getfield 12, 3) := by decide +kernel
theorem d_Rd_makeNumberWord_19 : decode b_Rd_makeNumberWord 19 = .ok (.getfield 94, 3) := by decide +kernel
theorem d_Rd_makeNumberWord_22 : decode b_Rd_makeNumberWord 22 = .ok (.aload_n 3, 1) := by decide +kernel
theorem d_Rd_makeNumberWord_23 : decode b_Rd_makeNumberWord 23 = .ok (.invokevirtual 144, 3) := by decide +kernel
theorem d_Rd_makeNumberWord_26 : decode b_Rd_makeNumberWord 26 = .ok (.return_, 1) := by decide +kernel
def wp_Rd_makeNumberWord (g : Gm) (post : StC → Prop) (mc ms : Nat) (S : StC) (a0 : Nat) (a1 : Int32) : Prop :=
  (0 + 1 ≤ mc) ∧ (0 + 5 ≤ ms) ∧ (∀ q1 : Nat, q1 ∉ S.2.2.2.2.2.1 → ∃ (mc3 : Nat) (ms4 : Nat), ((0 + 1) + mc3 ≤ mc) ∧ ((0 + 5) + ms4 ≤ ms) ∧ (wp_Mw_init g (fun S5 : StC => (∃ (vs6 : List Value), (q1 ∈ S5.2.2.2.2.2.1) ∧ (S5.2.2.2.2.2.2 q1 = .inr (11, vs6)) ∧ (wp_Mw_add g (fun S9 : StC => (wp_Di_add g (fun S10 : StC => (post S10)) S9 (some (q1)))) S5 (q1) (0) (a1)))) mc3 ms4 (S.1, S.2.1, S.2.2.1, S.2.2.2.1, S.2.2.2.2.1, (S.2.2.2.2.2.1 ++ [q1]), (va_up S.2.2.2.2.2.2 q1 (.inr (11, [.null, .null, .null, .int 0, .int 0])))) (q1) (a0)))
set_option maxRecDepth 100000 in
set_option maxHeartbeats 4000000 in
theorem c_Rd_makeNumberWord (l : Launch) (g : Gm) (sz : Nat) (S : StC) (a0 : Nat) (a1 : Int32) (post : StC → Prop) (mc ms : Nat) (hw : wp_Rd_makeNumberWord g post mc ms S a0 a1) : Met l y_Rd_makeNumberWord (.code y_Rd_makeNumberWord b_Rd_makeNumberWord 4 none :: w_C) (rmA 2 41 mc ms) (va_Pc [.ref (g.2.2 2), .ref (a0), .int (a1)] (PC g sz S)) (va_Qv post (BC g (AC g sz S)) (AC g sz S)) mc ms (AC g sz S) := by
  refine ofA_v (by decide) (Nat.le_of_ble_eq_true rfl) (fun p e s m args below meth c Q A H locs ls hx hb hml hts hown hK hA hC hN hmn kr hl hP hD hS => ?_)
  have hl : lv_has ls 4 [(0, .ref (g.2.2 2)), (1, .ref (a0)), (2, .int (a1))] := hl
  unfold wp_Rd_makeNumberWord at hw
  have hcm : 0 ≤ mc := Nat.zero_le _
  have hzm : 0 ≤ ms := Nat.zero_le _
  obtain ⟨hcm, hzm, hw⟩ := hw
  refine pn_C (S := S) (fs := [.null, .null, .null, .int 0, .int 0]) (C := R_Mw) (F := F_Mw) (N := 5) (ci := 11) hx hb hts hin_Mw t_Mw t_Mw_ok hown k_C_492 k_C_493 k_C_21 hK hP hD hS hA rfl (fun j hj => by rcases (show j = 0 ∨ j = 1 ∨ j = 2 ∨ j = 3 ∨ j = 4 by omega) with rfl | rfl | rfl | rfl | rfl <;> rfl) hcm hzm d_Rd_makeNumberWord_0 (fun q1 H hq2 hP hD hS => ?_)
  have hP : va_P g.1 classes (wC g (S.1, S.2.1, S.2.2.1, S.2.2.2.1, S.2.2.2.2.1, (S.2.2.2.2.2.1 ++ [q1]), (va_up S.2.2.2.2.2.2 q1 (.inr (11, [.null, .null, .null, .int 0, .int 0]))))) H := hP
  have hD : va_D A (wC g (S.1, S.2.1, S.2.2.1, S.2.2.2.1, S.2.2.2.2.1, (S.2.2.2.2.2.1 ++ [q1]), (va_up S.2.2.2.2.2.2 q1 (.inr (11, [.null, .null, .null, .int 0, .int 0]))))) := hD
  have hw := hw q1 hq2
  refine lv_dup hx hb d_Rd_makeNumberWord_3 rfl ?_
  refine lv_aload_n hx hb d_Rd_makeNumberWord_4 rfl (lv_at hl 1 rfl) ?_
  obtain ⟨mc3, ms4, hcm, hzm, hw⟩ := hw
  refine cA_vI (As := [.ref (a0)]) (rest := [.ref (q1)]) hx hb hml hown hts hK hC hN hP hD hS hA hcm hzm hl.1  (qA_38 hts ⟨Nat.le_of_ble_eq_true rfl, Nat.le_of_ble_eq_true rfl⟩) (c_Mw_init l g H.size _ (q1) (a0) _ _ _ hw) rfl rfl (Nat.le_of_ble_eq_true rfl) d_Rd_makeNumberWord_5 (fun S5 H locs hw hP hD hS => ?_)
  refine lv_astore_n (lv' := [(3, .ref (q1)), (0, .ref (g.2.2 2)), (1, .ref (a0)), (2, .int (a1))]) hx hb d_Rd_makeNumberWord_8 rfl hl (by decide) rfl (fun ls hl => ?_)
  refine lv_aload_n hx hb d_Rd_makeNumberWord_9 rfl (lv_at hl 0 rfl) ?_
  refine lv_iconst (v := 0) hx hb d_Rd_makeNumberWord_10 (by decide) ?_
  refine lv_iload_n hx hb d_Rd_makeNumberWord_11 rfl (lv_at hl 3 rfl) ?_
  obtain ⟨vs6, ha7, hf8, hw⟩ := hw
  refine cC_vV (As := [.int (0), .int (a1)]) (rest := []) hx hb hml hown hts hK hC hN hP hD hS hA hcm hzm hl.1 (precv_C (C := R_Mw) (F := F_Mw) (N := 5) hK hP ha7 hf8 rfl) (qC_82 hts ⟨Nat.le_of_ble_eq_true rfl, Nat.le_of_ble_eq_true rfl⟩) (c_Mw_add l g H.size _ (q1) (0) (a1) _ hw) rfl rfl (Nat.le_of_ble_eq_true rfl) d_Rd_makeNumberWord_12 (fun S9 H locs hw hP hD hS => ?_)
  refine lv_aload_n hx hb d_Rd_makeNumberWord_15 rfl (lv_at hl 1 rfl) ?_
  refine va_get (D := g.1) (ci := 4) (v := .ref (g.2.2 3)) (C := R_Rd) (T := F_Rd) (N := 6) hx hb hts hin_Rd hown hK hP 2 rfl rfl 0 (by decide) (hts _ k_C_127) (fun _ h9 => h9) rfl d_Rd_makeNumberWord_16 ?_
  refine va_getN (D := g.1) (ci := 5) (v := .ref (g.2.2 13)) (C := R_Ma) (T := F_Ma) (N := 9) hx hb hts hin_Ma hown hK hP 3 rfl rfl 3 (by decide) (va_Nw.use rfl (hN.1 _ kn_C_21)) (fun _ h9 => h9) rfl d_Rd_makeNumberWord_19 ?_
  refine lv_aload_n hx hb d_Rd_makeNumberWord_22 rfl (lv_at hl 0 rfl) ?_
  refine cC_vV (As := [va_rf (some (q1))]) (rest := []) hx hb hml hown hts hK hC hN hP hD hS hA hcm hzm hl.1 (va_recv (q0 := 13) (ci := 8) (q := (R_Di, F_Di, 2)) hK hP rfl rfl) (qC_74 hts ⟨Nat.le_of_ble_eq_true rfl, Nat.le_of_ble_eq_true rfl⟩) (c_Di_add l g H.size _ (some (q1)) _ hw) rfl rfl (Nat.le_of_ble_eq_true rfl) d_Rd_makeNumberWord_23 (fun S10 H locs hw hP hD hS => ?_)
  exact kr S10 _ _ _ _ _ _ hcm hzm hw hP hD hS d_Rd_makeNumberWord_26
theorem qA_39 {R : Room} {s : State} {args : Array Value} {mc1 ms1 : Nat} (hts : ∀ w ∈ w_C, w.before args s = true) (hR : (rmA 1 20 mc1 ms1).frames + 1 ≤ R.frames ∧ 8 + (2 + 11) + (rmA 1 20 mc1 ms1).locals ≤ R.locals) : CallB R s args "WordSmith$Compiler" 27 y_Mw_init b_Mw_init 2 none (.code y_Mw_init b_Mw_init 2 none :: w_C) (rmA 1 20 mc1 ms1) mc1 ms1 1 ∧ y_Mw_init.name = "<init>" ∧ (Cond.instanceMethod y_Mw_init).before args s = true := ⟨callB_of 1 hts (good_C k_C_496) rfl rfl rfl (hts _ k_C_21) (hts _ k_C_522) ⟨by decide +kernel, by decide +kernel, by decide +kernel⟩ hR, rfl, hts _ k_C_495⟩
theorem d_Co_begin_0 : decode b_Co_begin 0 = .ok (.aload_n 0, 1) := by decide +kernel
theorem d_Co_begin_1 : decode b_Co_begin 1 = .ok (.new 25, 3) := by decide +kernel
theorem d_Co_begin_4 : decode b_Co_begin 4 = .ok (.dup, 1) := by decide +kernel
theorem d_Co_begin_5 : decode b_Co_begin 5 = .ok (.aload_n 1, 1) := by decide +kernel
theorem d_Co_begin_6 : decode b_Co_begin 6 = .ok (.invokespecial 27, 3) := by decide +kernel
theorem d_Co_begin_9 : decode b_Co_begin 9 = .ok (.putfield 21, 3) := by decide +kernel
theorem d_Co_begin_12 : decode b_Co_begin 12 = .ok (.aload_n 0, 1) := by decide +kernel
theorem d_Co_begin_13 : decode b_Co_begin 13 = .ok (.iconst 0, 1) := by decide +kernel
theorem d_Co_begin_14 : decode b_Co_begin 14 = .ok (.putfield 30, 3) := by decide +kernel
theorem d_Co_begin_17 : decode b_Co_begin 17 = .ok (.return_, 1) := by decide +kernel
def wp_Co_begin (g : Gm) (post : StC → Prop) (mc ms : Nat) (S : StC) (a0 : Nat) : Prop :=
  (0 + 1 ≤ mc) ∧ (0 + 5 ≤ ms) ∧ (∀ q1 : Nat, q1 ∉ S.2.2.2.2.2.1 → ∃ (mc3 : Nat) (ms4 : Nat), ((0 + 1) + mc3 ≤ mc) ∧ ((0 + 5) + ms4 ≤ ms) ∧ (wp_Mw_init g (fun S5 : StC => (post ((upd S5.1 13 (0)), S5.2.1, S5.2.2.1, (va_up S5.2.2.2.1 0 (some (q1))), S5.2.2.2.2))) mc3 ms4 (S.1, S.2.1, S.2.2.1, S.2.2.2.1, S.2.2.2.2.1, (S.2.2.2.2.2.1 ++ [q1]), (va_up S.2.2.2.2.2.2 q1 (.inr (11, [.null, .null, .null, .int 0, .int 0])))) (q1) (a0)))
set_option maxRecDepth 100000 in
set_option maxHeartbeats 4000000 in
theorem c_Co_begin (l : Launch) (g : Gm) (sz : Nat) (S : StC) (a0 : Nat) (post : StC → Prop) (mc ms : Nat) (hw : wp_Co_begin g post mc ms S a0) : Met l y_Co_begin (.code y_Co_begin b_Co_begin 2 none :: w_C) (rmA 2 41 mc ms) (va_Pc [.ref (g.2.2 17), .ref (a0)] (PC g sz S)) (va_Qv post (BC g (AC g sz S)) (AC g sz S)) mc ms (AC g sz S) := by
  refine ofA_v (by decide) (Nat.le_of_ble_eq_true rfl) (fun p e s m args below meth c Q A H locs ls hx hb hml hts hown hK hA hC hN hmn kr hl hP hD hS => ?_)
  have hl : lv_has ls 2 [(0, .ref (g.2.2 17)), (1, .ref (a0))] := hl
  unfold wp_Co_begin at hw
  have hcm : 0 ≤ mc := Nat.zero_le _
  have hzm : 0 ≤ ms := Nat.zero_le _
  refine lv_aload_n hx hb d_Co_begin_0 rfl (lv_at hl 0 rfl) ?_
  obtain ⟨hcm, hzm, hw⟩ := hw
  refine pn_C (S := S) (fs := [.null, .null, .null, .int 0, .int 0]) (C := R_Mw) (F := F_Mw) (N := 5) (ci := 11) hx hb hts hin_Mw t_Mw t_Mw_ok hown k_C_521 k_C_493 k_C_21 hK hP hD hS hA rfl (fun j hj => by rcases (show j = 0 ∨ j = 1 ∨ j = 2 ∨ j = 3 ∨ j = 4 by omega) with rfl | rfl | rfl | rfl | rfl <;> rfl) hcm hzm d_Co_begin_1 (fun q1 H hq2 hP hD hS => ?_)
  have hP : va_P g.1 classes (wC g (S.1, S.2.1, S.2.2.1, S.2.2.2.1, S.2.2.2.2.1, (S.2.2.2.2.2.1 ++ [q1]), (va_up S.2.2.2.2.2.2 q1 (.inr (11, [.null, .null, .null, .int 0, .int 0]))))) H := hP
  have hD : va_D A (wC g (S.1, S.2.1, S.2.2.1, S.2.2.2.1, S.2.2.2.2.1, (S.2.2.2.2.2.1 ++ [q1]), (va_up S.2.2.2.2.2.2 q1 (.inr (11, [.null, .null, .null, .int 0, .int 0]))))) := hD
  have hw := hw q1 hq2
  refine lv_dup hx hb d_Co_begin_4 rfl ?_
  refine lv_aload_n hx hb d_Co_begin_5 rfl (lv_at hl 1 rfl) ?_
  obtain ⟨mc3, ms4, hcm, hzm, hw⟩ := hw
  refine cA_vI (As := [.ref (a0)]) (rest := [.ref (q1), .ref (g.2.2 17)]) hx hb hml hown hts hK hC hN hP hD hS hA hcm hzm hl.1  (qA_39 hts ⟨Nat.le_of_ble_eq_true rfl, Nat.le_of_ble_eq_true rfl⟩) (c_Mw_init l g H.size _ (q1) (a0) _ _ _ hw) rfl rfl (Nat.le_of_ble_eq_true rfl) d_Co_begin_6 (fun S5 H locs hw hP hD hS => ?_)
  refine pt_C (S2 := (S5.1, S5.2.1, S5.2.2.1, (va_up S5.2.2.2.1 0 (some (q1))), S5.2.2.2.2)) (v := va_rf (some (q1))) (C := R_Co) (F := F_Co) (N := 4) (ci := 10) hx hb hts hin_Co t_Co t_Co_ok n_Co hown hK hP hD hS 17 rfl rfl 0 (by decide) rfl (rf_nar _ _) (rf_fit _ _) (Nat.le_of_ble_eq_true rfl) (sR_C_0 g _ _) k_C_122 d_Co_begin_9 (fun H locs hP hD hS => ?_)
  refine lv_aload_n hx hb d_Co_begin_12 rfl (lv_at hl 0 rfl) ?_
  refine lv_iconst (v := 0) hx hb d_Co_begin_13 (by decide) ?_
  refine pt_C (S2 := ((upd S5.1 13 (0)), S5.2.1, S5.2.2.1, (va_up S5.2.2.2.1 0 (some (q1))), S5.2.2.2.2)) (v := .int (0)) (C := R_Co) (F := F_Co) (N := 4) (ci := 10) hx hb hts hin_Co t_Co t_Co_ok n_Co hown hK hP hD hS 17 rfl rfl 3 (by decide) rfl rfl rfl (Nat.le_of_ble_eq_true rfl) (sI_C_13 g _ _) k_C_125 d_Co_begin_14 (fun H locs hP hD hS => ?_)
  exact kr ((upd S5.1 13 (0)), S5.2.1, S5.2.2.1, (va_up S5.2.2.2.1 0 (some (q1))), S5.2.2.2.2) _ _ _ _ _ _ hcm hzm hw hP hD hS d_Co_begin_17
