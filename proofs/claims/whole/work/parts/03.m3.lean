theorem d_M_name_0 : decode b_M_name 0 = .ok (.lconst 0, 1) := by decide +kernel
theorem d_M_name_1 : decode b_M_name 1 = .ok (.lstore 4, 2) := by decide +kernel
theorem d_M_name_3 : decode b_M_name 3 = .ok (.bipush 56, 2) := by decide +kernel
theorem d_M_name_5 : decode b_M_name 5 = .ok (.istore 6, 2) := by decide +kernel
theorem d_M_name_7 : decode b_M_name 7 = .ok (.iload 6, 2) := by decide +kernel
theorem d_M_name_9 : decode b_M_name 9 = .ok (.ifCond .lt 46, 3) := by decide +kernel
theorem d_M_name_12 : decode b_M_name 12 = .ok (.lload_n 2, 1) := by decide +kernel
theorem d_M_name_13 : decode b_M_name 13 = .ok (.iload 6, 2) := by decide +kernel
theorem d_M_name_15 : decode b_M_name 15 = .ok (.lshr, 1) := by decide +kernel
theorem d_M_name_16 : decode b_M_name 16 = .ok (.ldc2_w 188, 3) := by decide +kernel
theorem d_M_name_19 : decode b_M_name 19 = .ok (.land, 1) := by decide +kernel
theorem d_M_name_20 : decode b_M_name 20 = .ok (.lstore 7, 2) := by decide +kernel
theorem d_M_name_22 : decode b_M_name 22 = .ok (.lload 7, 2) := by decide +kernel
theorem d_M_name_24 : decode b_M_name 24 = .ok (.lconst 0, 1) := by decide +kernel
theorem d_M_name_25 : decode b_M_name 25 = .ok (.lcmp, 1) := by decide +kernel
theorem d_M_name_26 : decode b_M_name 26 = .ok (.ifCond .le 15, 3) := by decide +kernel
theorem d_M_name_29 : decode b_M_name 29 = .ok (.lload 4, 2) := by decide +kernel
theorem d_M_name_31 : decode b_M_name 31 = .ok (.ldc2_w 184, 3) := by decide +kernel
theorem d_M_name_34 : decode b_M_name 34 = .ok (.lmul, 1) := by decide +kernel
theorem d_M_name_35 : decode b_M_name 35 = .ok (.lload 7, 2) := by decide +kernel
theorem d_M_name_37 : decode b_M_name 37 = .ok (.ladd, 1) := by decide +kernel
theorem d_M_name_38 : decode b_M_name 38 = .ok (.goto 5, 3) := by decide +kernel
theorem d_M_name_41 : decode b_M_name 41 = .ok (.lload 4, 2) := by decide +kernel
theorem d_M_name_43 : decode b_M_name 43 = .ok (.lstore 4, 2) := by decide +kernel
theorem d_M_name_45 : decode b_M_name 45 = .ok (.iload 6, 2) := by decide +kernel
theorem d_M_name_47 : decode b_M_name 47 = .ok (.bipush 8, 2) := by decide +kernel
theorem d_M_name_49 : decode b_M_name 49 = .ok (.isub, 1) := by decide +kernel
theorem d_M_name_50 : decode b_M_name 50 = .ok (.istore 6, 2) := by decide +kernel
theorem d_M_name_52 : decode b_M_name 52 = .ok (.goto (-45), 3) := by decide +kernel
theorem d_M_name_55 : decode b_M_name 55 = .ok (.aload_n 0, 1) := by decide +kernel
theorem d_M_name_56 : decode b_M_name 56 = .ok (.getfield 25, 3) := by decide +kernel
theorem d_M_name_59 : decode b_M_name 59 = .ok (.iload_n 1, 1) := by decide +kernel
theorem d_M_name_60 : decode b_M_name 60 = .ok (.lload 4, 2) := by decide +kernel
theorem d_M_name_62 : decode b_M_name 62 = .ok (.lastore, 1) := by decide +kernel
theorem d_M_name_63 : decode b_M_name 63 = .ok (.return_, 1) := by decide +kernel
def wq_M_name_43 (post : StM → Prop) (k7 : StM → Int32 → Int64 → Int64 → Int32 → Prop) (S : StM) (x1 : Int32) (x2 : Int64) (x6 : Int32) (t0 : Int64) : Prop :=
  k7 S (x1) (x2) (t0) ((x6 - 8))
def wq_M_name_7 (post : StM → Prop)  : Nat → StM → Int32 → Int64 → Int64 → Int32 → Prop
  | 0, _, _, _, _, _ => False
  | n7 + 1, S, x1, x2, x4, x6 =>
    ((x6 < 0) → (vp_in x1 77) ∧ (post (S.1, S.2.1, (vp_updL S.2.2 (Int32.toNatClampNeg (x1)) (x4))))) ∧ (¬ (x6 < 0) → (((lg_cmp ((x2 >>> (Int32.toInt64 x6 &&& 63)) &&& 127) 0) ≤ 0) → wq_M_name_43 post (wq_M_name_7 post  n7) S (x1) (x2) (x6) (x4)) ∧ (¬ ((lg_cmp ((x2 >>> (Int32.toInt64 x6 &&& 63)) &&& 127) 0) ≤ 0) → wq_M_name_43 post (wq_M_name_7 post  n7) S (x1) (x2) (x6) (((x4 * 128) + ((x2 >>> (Int32.toInt64 x6 &&& 63)) &&& 127)))))
def wp_M_name (post : StM → Prop) (S : StM) (a0 : Int32) (a1 : Int64) : Prop :=
  ∃ nn : Nat, wq_M_name_7 post  nn S (a0) (a1) (0) (56)
set_option maxRecDepth 100000 in
set_option maxHeartbeats 4000000 in
theorem c_M_name (l : Launch) (g : Gm) (sz : Nat) (S : StM) (a0 : Int32) (a1 : Int64) (post : StM → Prop) (hw : wp_M_name post S a0 a1) : Met l y_M_name (.code y_M_name b_M_name 9 none :: w_M) (rmM 0 0) (va_Pc [.ref (g.2.2 0), .int (a0), .long (a1)] (PM g sz S)) (va_Qv post (BM g sz) (AM g sz)) 0 0 (AM g sz) := by
  refine ofM_v (by decide) (Nat.le_of_ble_eq_true rfl) (fun p e s m args below meth c Q H locs ls hx hb hml hts hown hK hA kr hl hP hD hS => ?_)
  have hl : lv_has ls 9 [(0, .ref (g.2.2 0)), (1, .int (a0)), (2, .long (a1))] := hl
  unfold wp_M_name at hw
  have J7 : ∀ (n7 : Nat), ∀ (S : StM) (x1 : Int32) (x2 : Int64) (x4 : Int64) (x6 : Int32) (H : Heap) (locs : List Loc) (ls : Array Slot), wq_M_name_7 post  n7 S x1 x2 x4 x6 → lv_has ls 9 [(0, .ref (g.2.2 0)), (1, .int (x1)), (2, .long (x2)), (4, .long (x4)), (6, .int (x6))] → va_P g.1 classes (wM g S) H → va_D (AM g s.heap.size) (wM g S) → va_S (AM g s.heap.size) s.heap H locs → W p l e (rmM 0 0) s m args below meth c H locs 0 0 Q (F0 m 7 ls []) := by
    intro n7
    induction n7 with
    | zero => intro S x1 x2 x4 x6 H locs ls hw; exact hw.elim
    | succ n7 ih7 =>
      have J43 : ∀ (S : StM) (x1 : Int32) (x2 : Int64) (x6 : Int32) (t0 : Int64) (H : Heap) (locs : List Loc) (ls : Array Slot), wq_M_name_43 post (wq_M_name_7 post  n7) S x1 x2 x6 t0 → lv_has ls 9 [(0, .ref (g.2.2 0)), (1, .int (x1)), (2, .long (x2)), (6, .int (x6))] → va_P g.1 classes (wM g S) H → va_D (AM g s.heap.size) (wM g S) → va_S (AM g s.heap.size) s.heap H locs → W p l e (rmM 0 0) s m args below meth c H locs 0 0 Q (F0 m 43 ls [.long (t0)]) := by
        intro S x1 x2 x6 t0 H locs ls hw hl hP hD hS
        unfold wq_M_name_43 at hw
        refine lv_lstore (lv' := [(4, .long (t0)), (0, .ref (g.2.2 0)), (1, .int (x1)), (2, .long (x2)), (6, .int (x6))]) hx hb d_M_name_43 hl (by decide) rfl (fun ls hl => ?_)
        refine lv_iload hx hb d_M_name_45 (lv_at hl 4 rfl) ?_
        refine lv_bipush (v := 8) hx hb d_M_name_47 (by decide) ?_
        refine lv_isub hx hb d_M_name_49 ?_
        refine lv_istore (lv' := [(6, .int ((x6 - 8))), (4, .long (t0)), (0, .ref (g.2.2 0)), (1, .int (x1)), (2, .long (x2))]) hx hb d_M_name_50 hl (by decide) rfl (fun ls hl => ?_)
        refine lv_goto hx hb d_M_name_52 (tgt := 7) (by decide) ?_
        exact ih7 S (x1) (x2) (t0) ((x6 - 8)) _ _ _ hw (lv_sub hl [2, 3, 4, 1, 0] rfl) hP hD hS
      intro S x1 x2 x4 x6 H locs ls hw hl hP hD hS
      unfold wq_M_name_7 at hw
      refine lv_iload hx hb d_M_name_7 (lv_at hl 4 rfl) ?_
      refine lv_if_lt hx hb d_M_name_9 (tgt := 55) (by decide) (fun hc => ?_) (fun hc => ?_)
      · have hw := hw.1 hc
        refine lv_aload_n hx hb d_M_name_55 rfl (lv_at hl 0 rfl) ?_
        refine gt_M (v := .ref (g.2.2 16)) hx hb hown hts hK hP 15 (by decide) rfl k_M_121 d_M_name_56 ?_
        refine lv_iload_n hx hb d_M_name_59 rfl (lv_at hl 1 rfl) ?_
        refine lv_lload hx hb d_M_name_60 (lv_at hl 3 rfl) ?_
        obtain ⟨hi, hw⟩ := hw
        refine la_M (S2 := (S.1, S.2.1, (vp_updL S.2.2 (Int32.toNatClampNeg (x1)) (x4)))) (f := S.2.2) hx hb hK hP hD hS 6 rfl hi d_M_name_62 (sA_M_15 g _ _) (fun H locs hP hD hS => ?_)
        exact kr (S.1, S.2.1, (vp_updL S.2.2 (Int32.toNatClampNeg (x1)) (x4))) _ _ _ _ hw hP hD hS d_M_name_63
      · have hw := hw.2 hc
        refine lv_lload_n hx hb d_M_name_12 rfl (lv_at hl 2 rfl) ?_
        refine lv_iload hx hb d_M_name_13 (lv_at hl 4 rfl) ?_
        refine lv_lshr (v := (x2 >>> (Int32.toInt64 x6 &&& 63))) hx hb d_M_name_15 rfl ?_
        refine lv_ldc2 (v := 127) hx hb hown (hts _ k_M_52) d_M_name_16 ?_
        refine lv_land hx hb d_M_name_19 ?_
        refine lv_lstore (lv' := [(7, .long (((x2 >>> (Int32.toInt64 x6 &&& 63)) &&& 127))), (0, .ref (g.2.2 0)), (1, .int (x1)), (2, .long (x2)), (4, .long (x4)), (6, .int (x6))]) hx hb d_M_name_20 hl (by decide) rfl (fun ls hl => ?_)
        refine lv_lload hx hb d_M_name_22 (lv_at hl 0 rfl) ?_
        refine lv_lconst (v := 0) hx hb d_M_name_24 (by decide) ?_
        refine W.lcmp hx hb d_M_name_25 ?_
        refine lv_if_le hx hb d_M_name_26 (tgt := 41) (by decide) (fun hc => ?_) (fun hc => ?_)
        · have hw := hw.1 hc
          refine lv_lload hx hb d_M_name_41 (lv_at hl 4 rfl) ?_
          exact J43 S (x1) (x2) (x6) (x4) _ _ _ hw (lv_sub hl [1, 2, 3, 5] rfl) hP hD hS
        · have hw := hw.2 hc
          refine lv_lload hx hb d_M_name_29 (lv_at hl 4 rfl) ?_
          refine lv_ldc2 (v := 128) hx hb hown (hts _ k_M_53) d_M_name_31 ?_
          refine lv_lmul hx hb d_M_name_34 ?_
          refine lv_lload hx hb d_M_name_35 (lv_at hl 0 rfl) ?_
          refine lv_ladd hx hb d_M_name_37 ?_
          refine lv_goto hx hb d_M_name_38 (tgt := 43) (by decide) ?_
          exact J43 S (x1) (x2) (x6) (((x4 * 128) + ((x2 >>> (Int32.toInt64 x6 &&& 63)) &&& 127))) _ _ _ hw (lv_sub hl [1, 2, 3, 5] rfl) hP hD hS
  refine lv_lconst (v := 0) hx hb d_M_name_0 (by decide) ?_
  refine lv_lstore (lv' := [(4, .long (0)), (0, .ref (g.2.2 0)), (1, .int (a0)), (2, .long (a1))]) hx hb d_M_name_1 hl (by decide) rfl (fun ls hl => ?_)
  refine lv_bipush (v := 56) hx hb d_M_name_3 (by decide) ?_
  refine lv_istore (lv' := [(6, .int (56)), (4, .long (0)), (0, .ref (g.2.2 0)), (1, .int (a0)), (2, .long (a1))]) hx hb d_M_name_5 hl (by decide) rfl (fun ls hl => ?_)
  obtain ⟨nn, hw⟩ := hw
  exact J7 nn S (a0) (a1) (0) (56) _ _ _ hw (lv_sub hl [2, 3, 4, 1, 0] rfl) hP hD hS
theorem d_M_in_0 : decode b_M_in 0 = .ok (.iload_n 0, 1) := by decide +kernel
theorem d_M_in_1 : decode b_M_in 1 = .ok (.iload_n 1, 1) := by decide +kernel
theorem d_M_in_2 : decode b_M_in 2 = .ok (.if_icmp .lt 12, 3) := by decide +kernel
theorem d_M_in_5 : decode b_M_in 5 = .ok (.iload_n 0, 1) := by decide +kernel
theorem d_M_in_6 : decode b_M_in 6 = .ok (.iload_n 2, 1) := by decide +kernel
theorem d_M_in_7 : decode b_M_in 7 = .ok (.if_icmp .gt 7, 3) := by decide +kernel
theorem d_M_in_10 : decode b_M_in 10 = .ok (.iconst 1, 1) := by decide +kernel
theorem d_M_in_11 : decode b_M_in 11 = .ok (.goto 4, 3) := by decide +kernel
theorem d_M_in_14 : decode b_M_in 14 = .ok (.iconst 0, 1) := by decide +kernel
theorem d_M_in_15 : decode b_M_in 15 = .ok (.ireturn, 1) := by decide +kernel
def wq_M_in_15 (post : Int32 → StM → Prop)  (S : StM) (t0 : Int32) : Prop :=
  (narrow .boolean (.int (t0)) = .int (t0)) ∧ (post (t0) S)
def wq_M_in_14 (post : Int32 → StM → Prop)  (S : StM)  : Prop :=
  wq_M_in_15 post  S (0)
def wp_M_in (post : Int32 → StM → Prop) (S : StM) (a0 : Int32) (a1 : Int32) (a2 : Int32) : Prop :=
  ((a0 < a1) → wq_M_in_14 post  S ) ∧ (¬ (a0 < a1) → ((a2 < a0) → wq_M_in_14 post  S ) ∧ (¬ (a2 < a0) → wq_M_in_15 post  S (1)))
set_option maxRecDepth 100000 in
set_option maxHeartbeats 4000000 in
theorem c_M_in (l : Launch) (g : Gm) (sz : Nat) (S : StM) (a0 : Int32) (a1 : Int32) (a2 : Int32) (post : Int32 → StM → Prop) (hw : wp_M_in post S a0 a1 a2) : Met l y_M_in (.code y_M_in b_M_in 3 (some .boolean) :: w_M) (rmM 0 0) (va_Pc [.int (a0), .int (a1), .int (a2)] (PM g sz S)) (va_Qi post (BM g sz) (AM g sz)) 0 0 (AM g sz) := by
  refine ofM_z (by decide) (Nat.le_of_ble_eq_true rfl) (fun p e s m args below meth c Q H locs ls hx hb hml hts hown hK hA kr hl hP hD hS => ?_)
  have hl : lv_has ls 3 [(0, .int (a0)), (1, .int (a1)), (2, .int (a2))] := hl
  unfold wp_M_in at hw
  have J15 : ∀ (S : StM) (t0 : Int32) (H : Heap) (locs : List Loc) (ls : Array Slot), wq_M_in_15 post  S t0 → lv_has ls 3 [] → va_P g.1 classes (wM g S) H → va_D (AM g s.heap.size) (wM g S) → va_S (AM g s.heap.size) s.heap H locs → W p l e (rmM 0 0) s m args below meth c H locs 0 0 Q (F0 m 15 ls [.int (t0)]) := by
    intro S t0 H locs ls hw hl hP hD hS
    unfold wq_M_in_15 at hw
    obtain ⟨hnz, hw⟩ := hw
    exact kr (t0) S _ _ _ _ hnz hw hP hD hS d_M_in_15
  have J14 : ∀ (S : StM)  (H : Heap) (locs : List Loc) (ls : Array Slot), wq_M_in_14 post  S  → lv_has ls 3 [] → va_P g.1 classes (wM g S) H → va_D (AM g s.heap.size) (wM g S) → va_S (AM g s.heap.size) s.heap H locs → W p l e (rmM 0 0) s m args below meth c H locs 0 0 Q (F0 m 14 ls []) := by
    intro S  H locs ls hw hl hP hD hS
    unfold wq_M_in_14 at hw
    refine lv_iconst (v := 0) hx hb d_M_in_14 (by decide) ?_
    exact J15 S (0) _ _ _ hw (lv_sub hl [] rfl) hP hD hS
  refine lv_iload_n hx hb d_M_in_0 rfl (lv_at hl 0 rfl) ?_
  refine lv_iload_n hx hb d_M_in_1 rfl (lv_at hl 1 rfl) ?_
  refine lv_icmp_lt hx hb d_M_in_2 (tgt := 14) (by decide) (fun hc => ?_) (fun hc => ?_)
  · have hw := hw.1 hc
    exact J14 S  _ _ _ hw (lv_sub hl [] rfl) hP hD hS
  · have hw := hw.2 hc
    refine lv_iload_n hx hb d_M_in_5 rfl (lv_at hl 0 rfl) ?_
    refine lv_iload_n hx hb d_M_in_6 rfl (lv_at hl 2 rfl) ?_
    refine lv_icmp_gt hx hb d_M_in_7 (tgt := 14) (by decide) (fun hc => ?_) (fun hc => ?_)
    · have hw := hw.1 hc
      exact J14 S  _ _ _ hw (lv_sub hl [] rfl) hP hD hS
    · have hw := hw.2 hc
      refine lv_iconst (v := 1) hx hb d_M_in_10 (by decide) ?_
      refine lv_goto hx hb d_M_in_11 (tgt := 15) (by decide) ?_
      exact J15 S (1) _ _ _ hw (lv_sub hl [] rfl) hP hD hS
theorem d_M_fail_0 : decode b_M_fail 0 = .ok (.aload_n 0, 1) := by decide +kernel
theorem d_M_fail_1 : decode b_M_fail 1 = .ok (.aload_n 0, 1) := by decide +kernel
theorem d_M_fail_2 : decode b_M_fail 2 = .ok (.getfield 190, 3) := by decide +kernel
theorem d_M_fail_5 : decode b_M_fail 5 = .ok (.ifCond .ne 7, 3) := by decide +kernel
theorem d_M_fail_8 : decode b_M_fail 8 = .ok (.iload_n 1, 1) := by decide +kernel
theorem d_M_fail_9 : decode b_M_fail 9 = .ok (.goto 7, 3) := by decide +kernel
theorem d_M_fail_12 : decode b_M_fail 12 = .ok (.aload_n 0, 1) := by decide +kernel
theorem d_M_fail_13 : decode b_M_fail 13 = .ok (.getfield 190, 3) := by decide +kernel
theorem d_M_fail_16 : decode b_M_fail 16 = .ok (.putfield 190, 3) := by decide +kernel
theorem d_M_fail_19 : decode b_M_fail 19 = .ok (.return_, 1) := by decide +kernel
def wq_M_fail_16 (post : StM → Prop)  (S : StM) (t0 : Int32) : Prop :=
  post ((upd S.1 14 (t0)), S.2)
def wp_M_fail (post : StM → Prop) (S : StM) (a0 : Int32) : Prop :=
  (((S.1 14) = 0) → wq_M_fail_16 post  S (a0)) ∧ (¬ ((S.1 14) = 0) → wq_M_fail_16 post  S ((S.1 14)))
set_option maxRecDepth 100000 in
set_option maxHeartbeats 4000000 in
theorem c_M_fail (l : Launch) (g : Gm) (sz : Nat) (S : StM) (a0 : Int32) (post : StM → Prop) (hw : wp_M_fail post S a0) : Met l y_M_fail (.code y_M_fail b_M_fail 2 none :: w_M) (rmM 0 0) (va_Pc [.ref (g.2.2 0), .int (a0)] (PM g sz S)) (va_Qv post (BM g sz) (AM g sz)) 0 0 (AM g sz) := by
  refine ofM_v (by decide) (Nat.le_of_ble_eq_true rfl) (fun p e s m args below meth c Q H locs ls hx hb hml hts hown hK hA kr hl hP hD hS => ?_)
  have hl : lv_has ls 2 [(0, .ref (g.2.2 0)), (1, .int (a0))] := hl
  unfold wp_M_fail at hw
  have J16 : ∀ (S : StM) (t0 : Int32) (H : Heap) (locs : List Loc) (ls : Array Slot), wq_M_fail_16 post  S t0 → lv_has ls 2 [] → va_P g.1 classes (wM g S) H → va_D (AM g s.heap.size) (wM g S) → va_S (AM g s.heap.size) s.heap H locs → W p l e (rmM 0 0) s m args below meth c H locs 0 0 Q (F0 m 16 ls [.int (t0), .ref (g.2.2 0)]) := by
    intro S t0 H locs ls hw hl hP hD hS
    unfold wq_M_fail_16 at hw
    refine pt_M (S2 := ((upd S.1 14 (t0)), S.2)) (v := .int (t0)) hx hb hown hts hK hP hD hS 14 (by decide) rfl rfl rfl (sI_M_14 g _ _) k_M_120 d_M_fail_16 (fun H locs hP hD hS => ?_)
    exact kr ((upd S.1 14 (t0)), S.2) _ _ _ _ hw hP hD hS d_M_fail_19
  refine lv_aload_n hx hb d_M_fail_0 rfl (lv_at hl 0 rfl) ?_
  refine lv_aload_n hx hb d_M_fail_1 rfl (lv_at hl 0 rfl) ?_
  refine gt_M (v := .int ((S.1 14))) hx hb hown hts hK hP 14 (by decide) rfl k_M_120 d_M_fail_2 ?_
  refine lv_if_ne hx hb d_M_fail_5 (tgt := 12) (by decide) (fun hc => ?_) (fun hc => ?_)
  · have hw := hw.2 hc
    refine lv_aload_n hx hb d_M_fail_12 rfl (lv_at hl 0 rfl) ?_
    refine gt_M (v := .int ((S.1 14))) hx hb hown hts hK hP 14 (by decide) rfl k_M_120 d_M_fail_13 ?_
    exact J16 S ((S.1 14)) _ _ _ hw (lv_sub hl [] rfl) hP hD hS
  · have hw := hw.1 hc
    refine lv_iload_n hx hb d_M_fail_8 rfl (lv_at hl 1 rfl) ?_
    refine lv_goto hx hb d_M_fail_9 (tgt := 16) (by decide) ?_
    exact J16 S (a0) _ _ _ hw (lv_sub hl [] rfl) hP hD hS
theorem d_M_needs_0 : decode b_M_needs 0 = .ok (.aload_n 0, 1) := by decide +kernel
theorem d_M_needs_1 : decode b_M_needs 1 = .ok (.getfield 193, 3) := by decide +kernel
theorem d_M_needs_4 : decode b_M_needs 4 = .ok (.iload_n 1, 1) := by decide +kernel
theorem d_M_needs_5 : decode b_M_needs 5 = .ok (.if_icmp .ge 8, 3) := by decide +kernel
theorem d_M_needs_8 : decode b_M_needs 8 = .ok (.aload_n 0, 1) := by decide +kernel
theorem d_M_needs_9 : decode b_M_needs 9 = .ok (.iconst 2, 1) := by decide +kernel
theorem d_M_needs_10 : decode b_M_needs 10 = .ok (.invokevirtual 196, 3) := by decide +kernel
theorem d_M_needs_13 : decode b_M_needs 13 = .ok (.aload_n 0, 1) := by decide +kernel
theorem d_M_needs_14 : decode b_M_needs 14 = .ok (.getfield 193, 3) := by decide +kernel
theorem d_M_needs_17 : decode b_M_needs 17 = .ok (.iload_n 1, 1) := by decide +kernel
theorem d_M_needs_18 : decode b_M_needs 18 = .ok (.if_icmp .lt 7, 3) := by decide +kernel
theorem d_M_needs_21 : decode b_M_needs 21 = .ok (.iconst 1, 1) := by decide +kernel
theorem d_M_needs_22 : decode b_M_needs 22 = .ok (.goto 4, 3) := by decide +kernel
theorem d_M_needs_25 : decode b_M_needs 25 = .ok (.iconst 0, 1) := by decide +kernel
theorem d_M_needs_26 : decode b_M_needs 26 = .ok (.ireturn, 1) := by decide +kernel
def wq_M_needs_26 (post : Int32 → StM → Prop)  (S : StM) (t0 : Int32) : Prop :=
  (narrow .boolean (.int (t0)) = .int (t0)) ∧ (post (t0) S)
def wq_M_needs_13 (post : Int32 → StM → Prop)  (S : StM) (x1 : Int32) : Prop :=
  (((S.1 6) < x1) → wq_M_needs_26 post  S (0)) ∧ (¬ ((S.1 6) < x1) → wq_M_needs_26 post  S (1))
def wp_M_needs (post : Int32 → StM → Prop) (S : StM) (a0 : Int32) : Prop :=
  ((a0 ≤ (S.1 6)) → wq_M_needs_13 post  S (a0)) ∧ (¬ (a0 ≤ (S.1 6)) → wp_M_fail (fun S1 : StM => (wq_M_needs_13 post  S1 (a0))) S (2))
set_option maxRecDepth 100000 in
set_option maxHeartbeats 4000000 in
theorem c_M_needs (l : Launch) (g : Gm) (sz : Nat) (S : StM) (a0 : Int32) (post : Int32 → StM → Prop) (hw : wp_M_needs post S a0) : Met l y_M_needs (.code y_M_needs b_M_needs 2 (some .boolean) :: w_M) (rmM 1 21) (va_Pc [.ref (g.2.2 0), .int (a0)] (PM g sz S)) (va_Qi post (BM g sz) (AM g sz)) 0 0 (AM g sz) := by
  refine ofM_z (by decide) (Nat.le_of_ble_eq_true rfl) (fun p e s m args below meth c Q H locs ls hx hb hml hts hown hK hA kr hl hP hD hS => ?_)
  have hl : lv_has ls 2 [(0, .ref (g.2.2 0)), (1, .int (a0))] := hl
  unfold wp_M_needs at hw
  have J26 : ∀ (S : StM) (t0 : Int32) (H : Heap) (locs : List Loc) (ls : Array Slot), wq_M_needs_26 post  S t0 → lv_has ls 2 [] → va_P g.1 classes (wM g S) H → va_D (AM g s.heap.size) (wM g S) → va_S (AM g s.heap.size) s.heap H locs → W p l e (rmM 1 21) s m args below meth c H locs 0 0 Q (F0 m 26 ls [.int (t0)]) := by
    intro S t0 H locs ls hw hl hP hD hS
    unfold wq_M_needs_26 at hw
    obtain ⟨hnz, hw⟩ := hw
    exact kr (t0) S _ _ _ _ hnz hw hP hD hS d_M_needs_26
  have J13 : ∀ (S : StM) (x1 : Int32) (H : Heap) (locs : List Loc) (ls : Array Slot), wq_M_needs_13 post  S x1 → lv_has ls 2 [(0, .ref (g.2.2 0)), (1, .int (x1))] → va_P g.1 classes (wM g S) H → va_D (AM g s.heap.size) (wM g S) → va_S (AM g s.heap.size) s.heap H locs → W p l e (rmM 1 21) s m args below meth c H locs 0 0 Q (F0 m 13 ls []) := by
    intro S x1 H locs ls hw hl hP hD hS
    unfold wq_M_needs_13 at hw
    refine lv_aload_n hx hb d_M_needs_13 rfl (lv_at hl 0 rfl) ?_
    refine gt_M (v := .int ((S.1 6))) hx hb hown hts hK hP 6 (by decide) rfl k_M_112 d_M_needs_14 ?_
    refine lv_iload_n hx hb d_M_needs_17 rfl (lv_at hl 1 rfl) ?_
    refine lv_icmp_lt hx hb d_M_needs_18 (tgt := 25) (by decide) (fun hc => ?_) (fun hc => ?_)
    · have hw := hw.1 hc
      refine lv_iconst (v := 0) hx hb d_M_needs_25 (by decide) ?_
      exact J26 S (0) _ _ _ hw (lv_sub hl [] rfl) hP hD hS
    · have hw := hw.2 hc
      refine lv_iconst (v := 1) hx hb d_M_needs_21 (by decide) ?_
      refine lv_goto hx hb d_M_needs_22 (tgt := 26) (by decide) ?_
      exact J26 S (1) _ _ _ hw (lv_sub hl [] rfl) hP hD hS
  refine lv_aload_n hx hb d_M_needs_0 rfl (lv_at hl 0 rfl) ?_
  refine gt_M (v := .int ((S.1 6))) hx hb hown hts hK hP 6 (by decide) rfl k_M_112 d_M_needs_1 ?_
  refine lv_iload_n hx hb d_M_needs_4 rfl (lv_at hl 1 rfl) ?_
  refine lv_icmp_ge hx hb d_M_needs_5 (tgt := 13) (by decide) (fun hc => ?_) (fun hc => ?_)
  · have hw := hw.1 hc
    exact J13 S (a0) _ _ _ hw (lv_sub hl [0, 1] rfl) hP hD hS
  · have hw := hw.2 hc
    refine lv_aload_n hx hb d_M_needs_8 rfl (lv_at hl 0 rfl) ?_
    refine lv_iconst (v := 2) hx hb d_M_needs_9 (by decide) ?_
    refine cM_v (As := [.int (2)]) (rest := []) hx hb hml hown hts hK hP hD hS hA (Nat.zero_le _) (Nat.zero_le _) hl.1 (q_M_fail hts ⟨Nat.le_of_ble_eq_true rfl, Nat.le_of_ble_eq_true rfl⟩) (c_M_fail l g H.size _ (2) _ hw) rfl rfl (Nat.le_of_ble_eq_true rfl) d_M_needs_10 (fun S1 H locs hw hP hD hS => ?_)
    exact J13 S1 (a0) _ _ _ hw (lv_sub hl [0, 1] rfl) hP hD hS
theorem d_M_push_0 : decode b_M_push 0 = .ok (.aload_n 0, 1) := by decide +kernel
theorem d_M_push_1 : decode b_M_push 1 = .ok (.getfield 193, 3) := by decide +kernel
theorem d_M_push_4 : decode b_M_push 4 = .ok (.bipush 24, 2) := by decide +kernel
theorem d_M_push_6 : decode b_M_push 6 = .ok (.if_icmp .lt 11, 3) := by decide +kernel
theorem d_M_push_9 : decode b_M_push 9 = .ok (.aload_n 0, 1) := by decide +kernel
theorem d_M_push_10 : decode b_M_push 10 = .ok (.iconst 3, 1) := by decide +kernel
theorem d_M_push_11 : decode b_M_push 11 = .ok (.invokevirtual 196, 3) := by decide +kernel
theorem d_M_push_14 : decode b_M_push 14 = .ok (.goto 23, 3) := by decide +kernel
theorem d_M_push_17 : decode b_M_push 17 = .ok (.aload_n 0, 1) := by decide +kernel
theorem d_M_push_18 : decode b_M_push 18 = .ok (.getfield 13, 3) := by decide +kernel
theorem d_M_push_21 : decode b_M_push 21 = .ok (.aload_n 0, 1) := by decide +kernel
theorem d_M_push_22 : decode b_M_push 22 = .ok (.getfield 193, 3) := by decide +kernel
theorem d_M_push_25 : decode b_M_push 25 = .ok (.iload_n 1, 1) := by decide +kernel
theorem d_M_push_26 : decode b_M_push 26 = .ok (.iastore, 1) := by decide +kernel
theorem d_M_push_27 : decode b_M_push 27 = .ok (.aload_n 0, 1) := by decide +kernel
theorem d_M_push_28 : decode b_M_push 28 = .ok (.aload_n 0, 1) := by decide +kernel
theorem d_M_push_29 : decode b_M_push 29 = .ok (.getfield 193, 3) := by decide +kernel
theorem d_M_push_32 : decode b_M_push 32 = .ok (.iconst 1, 1) := by decide +kernel
theorem d_M_push_33 : decode b_M_push 33 = .ok (.iadd, 1) := by decide +kernel
theorem d_M_push_34 : decode b_M_push 34 = .ok (.putfield 193, 3) := by decide +kernel
theorem d_M_push_37 : decode b_M_push 37 = .ok (.return_, 1) := by decide +kernel
def wq_M_push_37 (post : StM → Prop)  (S : StM)  : Prop :=
  post S
def wp_M_push (post : StM → Prop) (S : StM) (a0 : Int32) : Prop :=
  (((S.1 6) < 24) → (vp_in (S.1 6) 24) ∧ (wq_M_push_37 post  ((upd S.1 6 (((S.1 6) + 1))), (va_up S.2.1 5 (upd (S.2.1 5) (Int32.toNatClampNeg ((S.1 6))) (a0))), S.2.2) )) ∧ (¬ ((S.1 6) < 24) → wp_M_fail (fun S1 : StM => (wq_M_push_37 post  S1 )) S (3))
set_option maxRecDepth 100000 in
set_option maxHeartbeats 4000000 in
theorem c_M_push (l : Launch) (g : Gm) (sz : Nat) (S : StM) (a0 : Int32) (post : StM → Prop) (hw : wp_M_push post S a0) : Met l y_M_push (.code y_M_push b_M_push 2 none :: w_M) (rmM 1 21) (va_Pc [.ref (g.2.2 0), .int (a0)] (PM g sz S)) (va_Qv post (BM g sz) (AM g sz)) 0 0 (AM g sz) := by
  refine ofM_v (by decide) (Nat.le_of_ble_eq_true rfl) (fun p e s m args below meth c Q H locs ls hx hb hml hts hown hK hA kr hl hP hD hS => ?_)
  have hl : lv_has ls 2 [(0, .ref (g.2.2 0)), (1, .int (a0))] := hl
  unfold wp_M_push at hw
  have J37 : ∀ (S : StM)  (H : Heap) (locs : List Loc) (ls : Array Slot), wq_M_push_37 post  S  → lv_has ls 2 [] → va_P g.1 classes (wM g S) H → va_D (AM g s.heap.size) (wM g S) → va_S (AM g s.heap.size) s.heap H locs → W p l e (rmM 1 21) s m args below meth c H locs 0 0 Q (F0 m 37 ls []) := by
    intro S  H locs ls hw hl hP hD hS
    unfold wq_M_push_37 at hw
    exact kr S _ _ _ _ hw hP hD hS d_M_push_37
  refine lv_aload_n hx hb d_M_push_0 rfl (lv_at hl 0 rfl) ?_
  refine gt_M (v := .int ((S.1 6))) hx hb hown hts hK hP 6 (by decide) rfl k_M_112 d_M_push_1 ?_
  refine lv_bipush (v := 24) hx hb d_M_push_4 (by decide) ?_
  refine lv_icmp_lt hx hb d_M_push_6 (tgt := 17) (by decide) (fun hc => ?_) (fun hc => ?_)
  · have hw := hw.1 hc
    refine lv_aload_n hx hb d_M_push_17 rfl (lv_at hl 0 rfl) ?_
    refine gt_M (v := .ref (g.2.2 6)) hx hb hown hts hK hP 5 (by decide) rfl k_M_111 d_M_push_18 ?_
    refine lv_aload_n hx hb d_M_push_21 rfl (lv_at hl 0 rfl) ?_
    refine gt_M (v := .int ((S.1 6))) hx hb hown hts hK hP 6 (by decide) rfl k_M_112 d_M_push_22 ?_
    refine lv_iload_n hx hb d_M_push_25 rfl (lv_at hl 1 rfl) ?_
    obtain ⟨hi, hw⟩ := hw
    refine ia_M (S2 := (S.1, (va_up S.2.1 5 (upd (S.2.1 5) (Int32.toNatClampNeg ((S.1 6))) (a0))), S.2.2)) (f := (S.2.1 5)) hx hb hK hP hD hS 2 rfl hi d_M_push_26 (sA_M_5 g _ _) (fun H locs hP hD hS => ?_)
    refine lv_aload_n hx hb d_M_push_27 rfl (lv_at hl 0 rfl) ?_
    refine lv_aload_n hx hb d_M_push_28 rfl (lv_at hl 0 rfl) ?_
    refine gt_M (v := .int ((S.1 6))) hx hb hown hts hK hP 6 (by decide) rfl k_M_112 d_M_push_29 ?_
    refine lv_iconst (v := 1) hx hb d_M_push_32 (by decide) ?_
    refine lv_iadd hx hb d_M_push_33 ?_
    refine pt_M (S2 := ((upd S.1 6 (((S.1 6) + 1))), (va_up S.2.1 5 (upd (S.2.1 5) (Int32.toNatClampNeg ((S.1 6))) (a0))), S.2.2)) (v := .int (((S.1 6) + 1))) hx hb hown hts hK hP hD hS 6 (by decide) rfl rfl rfl (sI_M_6 g _ _) k_M_112 d_M_push_34 (fun H locs hP hD hS => ?_)
    exact J37 ((upd S.1 6 (((S.1 6) + 1))), (va_up S.2.1 5 (upd (S.2.1 5) (Int32.toNatClampNeg ((S.1 6))) (a0))), S.2.2)  _ _ _ hw (lv_sub hl [] rfl) hP hD hS
  · have hw := hw.2 hc
    refine lv_aload_n hx hb d_M_push_9 rfl (lv_at hl 0 rfl) ?_
    refine lv_iconst (v := 3) hx hb d_M_push_10 (by decide) ?_
    refine cM_v (As := [.int (3)]) (rest := []) hx hb hml hown hts hK hP hD hS hA (Nat.zero_le _) (Nat.zero_le _) hl.1 (q_M_fail hts ⟨Nat.le_of_ble_eq_true rfl, Nat.le_of_ble_eq_true rfl⟩) (c_M_fail l g H.size _ (3) _ hw) rfl rfl (Nat.le_of_ble_eq_true rfl) d_M_push_11 (fun S1 H locs hw hP hD hS => ?_)
    refine lv_goto hx hb d_M_push_14 (tgt := 37) (by decide) ?_
    exact J37 S1  _ _ _ hw (lv_sub hl [] rfl) hP hD hS
theorem d_M_pop_0 : decode b_M_pop 0 = .ok (.aload_n 0, 1) := by decide +kernel
theorem d_M_pop_1 : decode b_M_pop 1 = .ok (.aload_n 0, 1) := by decide +kernel
theorem d_M_pop_2 : decode b_M_pop 2 = .ok (.getfield 193, 3) := by decide +kernel
theorem d_M_pop_5 : decode b_M_pop 5 = .ok (.iconst 1, 1) := by decide +kernel
theorem d_M_pop_6 : decode b_M_pop 6 = .ok (.isub, 1) := by decide +kernel
theorem d_M_pop_7 : decode b_M_pop 7 = .ok (.putfield 193, 3) := by decide +kernel
theorem d_M_pop_10 : decode b_M_pop 10 = .ok (.aload_n 0, 1) := by decide +kernel
theorem d_M_pop_11 : decode b_M_pop 11 = .ok (.getfield 13, 3) := by decide +kernel
theorem d_M_pop_14 : decode b_M_pop 14 = .ok (.aload_n 0, 1) := by decide +kernel
theorem d_M_pop_15 : decode b_M_pop 15 = .ok (.getfield 193, 3) := by decide +kernel
theorem d_M_pop_18 : decode b_M_pop 18 = .ok (.iaload, 1) := by decide +kernel
theorem d_M_pop_19 : decode b_M_pop 19 = .ok (.ireturn, 1) := by decide +kernel
def wp_M_pop (post : Int32 → StM → Prop) (S : StM)  : Prop :=
  (vp_in ((S.1 6) - 1) 24) ∧ (post (((S.2.1 5) (Int32.toNatClampNeg (((S.1 6) - 1))))) ((upd S.1 6 (((S.1 6) - 1))), S.2))
set_option maxRecDepth 100000 in
set_option maxHeartbeats 4000000 in
theorem c_M_pop (l : Launch) (g : Gm) (sz : Nat) (S : StM)  (post : Int32 → StM → Prop) (hw : wp_M_pop post S ) : Met l y_M_pop (.code y_M_pop b_M_pop 1 (some .int) :: w_M) (rmM 0 0) (va_Pc [.ref (g.2.2 0)] (PM g sz S)) (va_Qi post (BM g sz) (AM g sz)) 0 0 (AM g sz) := by
  refine ofM_i (by decide) (Nat.le_of_ble_eq_true rfl) (fun p e s m args below meth c Q H locs ls hx hb hml hts hown hK hA kr hl hP hD hS => ?_)
  have hl : lv_has ls 1 [(0, .ref (g.2.2 0))] := hl
  unfold wp_M_pop at hw
  refine lv_aload_n hx hb d_M_pop_0 rfl (lv_at hl 0 rfl) ?_
  refine lv_aload_n hx hb d_M_pop_1 rfl (lv_at hl 0 rfl) ?_
  refine gt_M (v := .int ((S.1 6))) hx hb hown hts hK hP 6 (by decide) rfl k_M_112 d_M_pop_2 ?_
  refine lv_iconst (v := 1) hx hb d_M_pop_5 (by decide) ?_
  refine lv_isub hx hb d_M_pop_6 ?_
  refine pt_M (S2 := ((upd S.1 6 (((S.1 6) - 1))), S.2)) (v := .int (((S.1 6) - 1))) hx hb hown hts hK hP hD hS 6 (by decide) rfl rfl rfl (sI_M_6 g _ _) k_M_112 d_M_pop_7 (fun H locs hP hD hS => ?_)
  refine lv_aload_n hx hb d_M_pop_10 rfl (lv_at hl 0 rfl) ?_
  refine gt_M (v := .ref (g.2.2 6)) hx hb hown hts hK hP 5 (by decide) rfl k_M_111 d_M_pop_11 ?_
  refine lv_aload_n hx hb d_M_pop_14 rfl (lv_at hl 0 rfl) ?_
  refine gt_M (v := .int (((S.1 6) - 1))) hx hb hown hts hK hP 6 (by decide) rfl k_M_112 d_M_pop_15 ?_
  obtain ⟨hi, hw⟩ := hw
  refine va_iald (f := (S.2.1 5)) hx hb hK hP 2 0 rfl rfl hi d_M_pop_18 ?_
  exact kr (((S.2.1 5) (Int32.toNatClampNeg (((S.1 6) - 1))))) ((upd S.1 6 (((S.1 6) - 1))), S.2) _ _ _ _ hw hP hD hS d_M_pop_19
theorem d_M_top_0 : decode b_M_top 0 = .ok (.aload_n 0, 1) := by decide +kernel
theorem d_M_top_1 : decode b_M_top 1 = .ok (.getfield 13, 3) := by decide +kernel
theorem d_M_top_4 : decode b_M_top 4 = .ok (.aload_n 0, 1) := by decide +kernel
theorem d_M_top_5 : decode b_M_top 5 = .ok (.getfield 193, 3) := by decide +kernel
theorem d_M_top_8 : decode b_M_top 8 = .ok (.iconst 1, 1) := by decide +kernel
theorem d_M_top_9 : decode b_M_top 9 = .ok (.isub, 1) := by decide +kernel
theorem d_M_top_10 : decode b_M_top 10 = .ok (.iload_n 1, 1) := by decide +kernel
theorem d_M_top_11 : decode b_M_top 11 = .ok (.isub, 1) := by decide +kernel
theorem d_M_top_12 : decode b_M_top 12 = .ok (.iaload, 1) := by decide +kernel
theorem d_M_top_13 : decode b_M_top 13 = .ok (.ireturn, 1) := by decide +kernel
def wp_M_top (post : Int32 → StM → Prop) (S : StM) (a0 : Int32) : Prop :=
  (vp_in (((S.1 6) - 1) - a0) 24) ∧ (post (((S.2.1 5) (Int32.toNatClampNeg ((((S.1 6) - 1) - a0))))) S)
set_option maxRecDepth 100000 in
set_option maxHeartbeats 4000000 in
theorem c_M_top (l : Launch) (g : Gm) (sz : Nat) (S : StM) (a0 : Int32) (post : Int32 → StM → Prop) (hw : wp_M_top post S a0) : Met l y_M_top (.code y_M_top b_M_top 2 (some .int) :: w_M) (rmM 0 0) (va_Pc [.ref (g.2.2 0), .int (a0)] (PM g sz S)) (va_Qi post (BM g sz) (AM g sz)) 0 0 (AM g sz) := by
  refine ofM_i (by decide) (Nat.le_of_ble_eq_true rfl) (fun p e s m args below meth c Q H locs ls hx hb hml hts hown hK hA kr hl hP hD hS => ?_)
  have hl : lv_has ls 2 [(0, .ref (g.2.2 0)), (1, .int (a0))] := hl
  unfold wp_M_top at hw
  refine lv_aload_n hx hb d_M_top_0 rfl (lv_at hl 0 rfl) ?_
  refine gt_M (v := .ref (g.2.2 6)) hx hb hown hts hK hP 5 (by decide) rfl k_M_111 d_M_top_1 ?_
  refine lv_aload_n hx hb d_M_top_4 rfl (lv_at hl 0 rfl) ?_
  refine gt_M (v := .int ((S.1 6))) hx hb hown hts hK hP 6 (by decide) rfl k_M_112 d_M_top_5 ?_
  refine lv_iconst (v := 1) hx hb d_M_top_8 (by decide) ?_
  refine lv_isub hx hb d_M_top_9 ?_
  refine lv_iload_n hx hb d_M_top_10 rfl (lv_at hl 1 rfl) ?_
  refine lv_isub hx hb d_M_top_11 ?_
  obtain ⟨hi, hw⟩ := hw
  refine va_iald (f := (S.2.1 5)) hx hb hK hP 2 0 rfl rfl hi d_M_top_12 ?_
  exact kr (((S.2.1 5) (Int32.toNatClampNeg ((((S.1 6) - 1) - a0))))) S _ _ _ _ hw hP hD hS d_M_top_13
theorem d_M_nextToken_0 : decode b_M_nextToken 0 = .ok (.aload_n 0, 1) := by decide +kernel
theorem d_M_nextToken_1 : decode b_M_nextToken 1 = .ok (.getfield 200, 3) := by decide +kernel
theorem d_M_nextToken_4 : decode b_M_nextToken 4 = .ok (.aload_n 0, 1) := by decide +kernel
theorem d_M_nextToken_5 : decode b_M_nextToken 5 = .ok (.getfield 203, 3) := by decide +kernel
theorem d_M_nextToken_8 : decode b_M_nextToken 8 = .ok (.if_icmp .ge 30, 3) := by decide +kernel
theorem d_M_nextToken_11 : decode b_M_nextToken 11 = .ok (.aload_n 0, 1) := by decide +kernel
theorem d_M_nextToken_12 : decode b_M_nextToken 12 = .ok (.getfield 7, 3) := by decide +kernel
theorem d_M_nextToken_15 : decode b_M_nextToken 15 = .ok (.aload_n 0, 1) := by decide +kernel
theorem d_M_nextToken_16 : decode b_M_nextToken 16 = .ok (.getfield 200, 3) := by decide +kernel
theorem d_M_nextToken_19 : decode b_M_nextToken 19 = .ok (.iaload, 1) := by decide +kernel
theorem d_M_nextToken_20 : decode b_M_nextToken 20 = .ok (.bipush 32, 2) := by decide +kernel
theorem d_M_nextToken_22 : decode b_M_nextToken 22 = .ok (.if_icmp .ne 16, 3) := by decide +kernel
theorem d_M_nextToken_25 : decode b_M_nextToken 25 = .ok (.aload_n 0, 1) := by decide +kernel
theorem d_M_nextToken_26 : decode b_M_nextToken 26 = .ok (.aload_n 0, 1) := by decide +kernel
theorem d_M_nextToken_27 : decode b_M_nextToken 27 = .ok (.getfield 200, 3) := by decide +kernel
theorem d_M_nextToken_30 : decode b_M_nextToken 30 = .ok (.iconst 1, 1) := by decide +kernel
theorem d_M_nextToken_31 : decode b_M_nextToken 31 = .ok (.iadd, 1) := by decide +kernel
theorem d_M_nextToken_32 : decode b_M_nextToken 32 = .ok (.putfield 200, 3) := by decide +kernel
theorem d_M_nextToken_35 : decode b_M_nextToken 35 = .ok (.goto (-35), 3) := by decide +kernel
theorem d_M_nextToken_38 : decode b_M_nextToken 38 = .ok (.aload_n 0, 1) := by decide +kernel
theorem d_M_nextToken_39 : decode b_M_nextToken 39 = .ok (.aload_n 0, 1) := by decide +kernel
theorem d_M_nextToken_40 : decode b_M_nextToken 40 = .ok (.getfield 200, 3) := by decide +kernel
theorem d_M_nextToken_43 : decode b_M_nextToken 43 = .ok (.putfield 206, 3) := by decide +kernel
theorem d_M_nextToken_46 : decode b_M_nextToken 46 = .ok (.aload_n 0, 1) := by decide +kernel
theorem d_M_nextToken_47 : decode b_M_nextToken 47 = .ok (.getfield 200, 3) := by decide +kernel
theorem d_M_nextToken_50 : decode b_M_nextToken 50 = .ok (.aload_n 0, 1) := by decide +kernel
theorem d_M_nextToken_51 : decode b_M_nextToken 51 = .ok (.getfield 203, 3) := by decide +kernel
theorem d_M_nextToken_54 : decode b_M_nextToken 54 = .ok (.if_icmp .ge 30, 3) := by decide +kernel
theorem d_M_nextToken_57 : decode b_M_nextToken 57 = .ok (.aload_n 0, 1) := by decide +kernel
theorem d_M_nextToken_58 : decode b_M_nextToken 58 = .ok (.getfield 7, 3) := by decide +kernel
theorem d_M_nextToken_61 : decode b_M_nextToken 61 = .ok (.aload_n 0, 1) := by decide +kernel
theorem d_M_nextToken_62 : decode b_M_nextToken 62 = .ok (.getfield 200, 3) := by decide +kernel
theorem d_M_nextToken_65 : decode b_M_nextToken 65 = .ok (.iaload, 1) := by decide +kernel
theorem d_M_nextToken_66 : decode b_M_nextToken 66 = .ok (.bipush 32, 2) := by decide +kernel
theorem d_M_nextToken_68 : decode b_M_nextToken 68 = .ok (.if_icmp .eq 16, 3) := by decide +kernel
theorem d_M_nextToken_71 : decode b_M_nextToken 71 = .ok (.aload_n 0, 1) := by decide +kernel
theorem d_M_nextToken_72 : decode b_M_nextToken 72 = .ok (.aload_n 0, 1) := by decide +kernel
theorem d_M_nextToken_73 : decode b_M_nextToken 73 = .ok (.getfield 200, 3) := by decide +kernel
theorem d_M_nextToken_76 : decode b_M_nextToken 76 = .ok (.iconst 1, 1) := by decide +kernel
theorem d_M_nextToken_77 : decode b_M_nextToken 77 = .ok (.iadd, 1) := by decide +kernel
theorem d_M_nextToken_78 : decode b_M_nextToken 78 = .ok (.putfield 200, 3) := by decide +kernel
theorem d_M_nextToken_81 : decode b_M_nextToken 81 = .ok (.goto (-35), 3) := by decide +kernel
theorem d_M_nextToken_84 : decode b_M_nextToken 84 = .ok (.aload_n 0, 1) := by decide +kernel
theorem d_M_nextToken_85 : decode b_M_nextToken 85 = .ok (.aload_n 0, 1) := by decide +kernel
theorem d_M_nextToken_86 : decode b_M_nextToken 86 = .ok (.getfield 200, 3) := by decide +kernel
theorem d_M_nextToken_89 : decode b_M_nextToken 89 = .ok (.aload_n 0, 1) := by decide +kernel
theorem d_M_nextToken_90 : decode b_M_nextToken 90 = .ok (.getfield 206, 3) := by decide +kernel
theorem d_M_nextToken_93 : decode b_M_nextToken 93 = .ok (.isub, 1) := by decide +kernel
theorem d_M_nextToken_94 : decode b_M_nextToken 94 = .ok (.putfield 209, 3) := by decide +kernel
theorem d_M_nextToken_97 : decode b_M_nextToken 97 = .ok (.aload_n 0, 1) := by decide +kernel
theorem d_M_nextToken_98 : decode b_M_nextToken 98 = .ok (.getfield 209, 3) := by decide +kernel
theorem d_M_nextToken_101 : decode b_M_nextToken 101 = .ok (.ifCond .le 7, 3) := by decide +kernel
theorem d_M_nextToken_104 : decode b_M_nextToken 104 = .ok (.iconst 1, 1) := by decide +kernel
theorem d_M_nextToken_105 : decode b_M_nextToken 105 = .ok (.goto 4, 3) := by decide +kernel
theorem d_M_nextToken_108 : decode b_M_nextToken 108 = .ok (.iconst 0, 1) := by decide +kernel
theorem d_M_nextToken_109 : decode b_M_nextToken 109 = .ok (.ireturn, 1) := by decide +kernel
def wq_M_nextToken_109 (post : Int32 → StM → Prop)  (S : StM) (t0 : Int32) : Prop :=
  (narrow .boolean (.int (t0)) = .int (t0)) ∧ (post (t0) S)
def wq_M_nextToken_84 (post : Int32 → StM → Prop)  (S : StM)  : Prop :=
  ((((S.1 2) - (S.1 3)) ≤ 0) → wq_M_nextToken_109 post  ((upd S.1 4 (((S.1 2) - (S.1 3)))), S.2) (0)) ∧ (¬ (((S.1 2) - (S.1 3)) ≤ 0) → wq_M_nextToken_109 post  ((upd S.1 4 (((S.1 2) - (S.1 3)))), S.2) (1))
def wq_M_nextToken_46 (post : Int32 → StM → Prop)  : Nat → StM → Prop
  | 0, _ => False
  | n46 + 1, S =>
    (((S.1 1) ≤ (S.1 2)) → wq_M_nextToken_84 post  S ) ∧ (¬ ((S.1 1) ≤ (S.1 2)) → (vp_in (S.1 2) 120) ∧ (((((S.2.1 0) (Int32.toNatClampNeg ((S.1 2)))) = 32) → wq_M_nextToken_84 post  S ) ∧ (¬ (((S.2.1 0) (Int32.toNatClampNeg ((S.1 2)))) = 32) → (wq_M_nextToken_46 post  n46) ((upd S.1 2 (((S.1 2) + 1))), S.2) )))
def wq_M_nextToken_38 (post : Int32 → StM → Prop)  (S : StM)  : Prop :=
  ∃ nn : Nat, wq_M_nextToken_46 post  nn ((upd S.1 3 ((S.1 2))), S.2) 
def wq_M_nextToken_0 (post : Int32 → StM → Prop)  : Nat → StM → Prop
  | 0, _ => False
  | n0 + 1, S =>
    (((S.1 1) ≤ (S.1 2)) → wq_M_nextToken_38 post  S ) ∧ (¬ ((S.1 1) ≤ (S.1 2)) → (vp_in (S.1 2) 120) ∧ (((((S.2.1 0) (Int32.toNatClampNeg ((S.1 2)))) = 32) → (wq_M_nextToken_0 post  n0) ((upd S.1 2 (((S.1 2) + 1))), S.2) ) ∧ (¬ (((S.2.1 0) (Int32.toNatClampNeg ((S.1 2)))) = 32) → wq_M_nextToken_38 post  S )))
def wp_M_nextToken (post : Int32 → StM → Prop) (S : StM)  : Prop :=
  ∃ nn : Nat, wq_M_nextToken_0 post  nn S 
set_option maxRecDepth 100000 in
set_option maxHeartbeats 4000000 in
theorem c_M_nextToken (l : Launch) (g : Gm) (sz : Nat) (S : StM)  (post : Int32 → StM → Prop) (hw : wp_M_nextToken post S ) : Met l y_M_nextToken (.code y_M_nextToken b_M_nextToken 1 (some .boolean) :: w_M) (rmM 0 0) (va_Pc [.ref (g.2.2 0)] (PM g sz S)) (va_Qi post (BM g sz) (AM g sz)) 0 0 (AM g sz) := by
  refine ofM_z (by decide) (Nat.le_of_ble_eq_true rfl) (fun p e s m args below meth c Q H locs ls hx hb hml hts hown hK hA kr hl hP hD hS => ?_)
  have hl : lv_has ls 1 [(0, .ref (g.2.2 0))] := hl
  unfold wp_M_nextToken at hw
  have J109 : ∀ (S : StM) (t0 : Int32) (H : Heap) (locs : List Loc) (ls : Array Slot), wq_M_nextToken_109 post  S t0 → lv_has ls 1 [] → va_P g.1 classes (wM g S) H → va_D (AM g s.heap.size) (wM g S) → va_S (AM g s.heap.size) s.heap H locs → W p l e (rmM 0 0) s m args below meth c H locs 0 0 Q (F0 m 109 ls [.int (t0)]) := by
    intro S t0 H locs ls hw hl hP hD hS
    unfold wq_M_nextToken_109 at hw
    obtain ⟨hnz, hw⟩ := hw
    exact kr (t0) S _ _ _ _ hnz hw hP hD hS d_M_nextToken_109
  have J84 : ∀ (S : StM)  (H : Heap) (locs : List Loc) (ls : Array Slot), wq_M_nextToken_84 post  S  → lv_has ls 1 [(0, .ref (g.2.2 0))] → va_P g.1 classes (wM g S) H → va_D (AM g s.heap.size) (wM g S) → va_S (AM g s.heap.size) s.heap H locs → W p l e (rmM 0 0) s m args below meth c H locs 0 0 Q (F0 m 84 ls []) := by
    intro S  H locs ls hw hl hP hD hS
    unfold wq_M_nextToken_84 at hw
    refine lv_aload_n hx hb d_M_nextToken_84 rfl (lv_at hl 0 rfl) ?_
    refine lv_aload_n hx hb d_M_nextToken_85 rfl (lv_at hl 0 rfl) ?_
    refine gt_M (v := .int ((S.1 2))) hx hb hown hts hK hP 2 (by decide) rfl k_M_108 d_M_nextToken_86 ?_
    refine lv_aload_n hx hb d_M_nextToken_89 rfl (lv_at hl 0 rfl) ?_
    refine gt_M (v := .int ((S.1 3))) hx hb hown hts hK hP 3 (by decide) rfl k_M_109 d_M_nextToken_90 ?_
    refine lv_isub hx hb d_M_nextToken_93 ?_
    refine pt_M (S2 := ((upd S.1 4 (((S.1 2) - (S.1 3)))), S.2)) (v := .int (((S.1 2) - (S.1 3)))) hx hb hown hts hK hP hD hS 4 (by decide) rfl rfl rfl (sI_M_4 g _ _) k_M_110 d_M_nextToken_94 (fun H locs hP hD hS => ?_)
    refine lv_aload_n hx hb d_M_nextToken_97 rfl (lv_at hl 0 rfl) ?_
    refine gt_M (v := .int (((S.1 2) - (S.1 3)))) hx hb hown hts hK hP 4 (by decide) rfl k_M_110 d_M_nextToken_98 ?_
    refine lv_if_le hx hb d_M_nextToken_101 (tgt := 108) (by decide) (fun hc => ?_) (fun hc => ?_)
    · have hw := hw.1 hc
      refine lv_iconst (v := 0) hx hb d_M_nextToken_108 (by decide) ?_
      exact J109 ((upd S.1 4 (((S.1 2) - (S.1 3)))), S.2) (0) _ _ _ hw (lv_sub hl [] rfl) hP hD hS
    · have hw := hw.2 hc
      refine lv_iconst (v := 1) hx hb d_M_nextToken_104 (by decide) ?_
      refine lv_goto hx hb d_M_nextToken_105 (tgt := 109) (by decide) ?_
      exact J109 ((upd S.1 4 (((S.1 2) - (S.1 3)))), S.2) (1) _ _ _ hw (lv_sub hl [] rfl) hP hD hS
  have J46 : ∀ (n46 : Nat), ∀ (S : StM)  (H : Heap) (locs : List Loc) (ls : Array Slot), wq_M_nextToken_46 post  n46 S  → lv_has ls 1 [(0, .ref (g.2.2 0))] → va_P g.1 classes (wM g S) H → va_D (AM g s.heap.size) (wM g S) → va_S (AM g s.heap.size) s.heap H locs → W p l e (rmM 0 0) s m args below meth c H locs 0 0 Q (F0 m 46 ls []) := by
    intro n46
    induction n46 with
    | zero => intro S  H locs ls hw; exact hw.elim
    | succ n46 ih46 =>
      intro S  H locs ls hw hl hP hD hS
      unfold wq_M_nextToken_46 at hw
      refine lv_aload_n hx hb d_M_nextToken_46 rfl (lv_at hl 0 rfl) ?_
      refine gt_M (v := .int ((S.1 2))) hx hb hown hts hK hP 2 (by decide) rfl k_M_108 d_M_nextToken_47 ?_
      refine lv_aload_n hx hb d_M_nextToken_50 rfl (lv_at hl 0 rfl) ?_
      refine gt_M (v := .int ((S.1 1))) hx hb hown hts hK hP 1 (by decide) rfl k_M_107 d_M_nextToken_51 ?_
      refine lv_icmp_ge hx hb d_M_nextToken_54 (tgt := 84) (by decide) (fun hc => ?_) (fun hc => ?_)
      · have hw := hw.1 hc
        exact J84 S  _ _ _ hw (lv_sub hl [0] rfl) hP hD hS
      · have hw := hw.2 hc
        refine lv_aload_n hx hb d_M_nextToken_57 rfl (lv_at hl 0 rfl) ?_
        refine gt_M (v := .ref (g.2.2 1)) hx hb hown hts hK hP 0 (by decide) rfl k_M_106 d_M_nextToken_58 ?_
        refine lv_aload_n hx hb d_M_nextToken_61 rfl (lv_at hl 0 rfl) ?_
        refine gt_M (v := .int ((S.1 2))) hx hb hown hts hK hP 2 (by decide) rfl k_M_108 d_M_nextToken_62 ?_
        obtain ⟨hi, hw⟩ := hw
        refine va_iald (f := (S.2.1 0)) hx hb hK hP 1 0 rfl rfl hi d_M_nextToken_65 ?_
        refine lv_bipush (v := 32) hx hb d_M_nextToken_66 (by decide) ?_
        refine lv_icmp_eq hx hb d_M_nextToken_68 (tgt := 84) (by decide) (fun hc => ?_) (fun hc => ?_)
        · have hw := hw.1 hc
          exact J84 S  _ _ _ hw (lv_sub hl [0] rfl) hP hD hS
        · have hw := hw.2 hc
          refine lv_aload_n hx hb d_M_nextToken_71 rfl (lv_at hl 0 rfl) ?_
          refine lv_aload_n hx hb d_M_nextToken_72 rfl (lv_at hl 0 rfl) ?_
          refine gt_M (v := .int ((S.1 2))) hx hb hown hts hK hP 2 (by decide) rfl k_M_108 d_M_nextToken_73 ?_
          refine lv_iconst (v := 1) hx hb d_M_nextToken_76 (by decide) ?_
          refine lv_iadd hx hb d_M_nextToken_77 ?_
          refine pt_M (S2 := ((upd S.1 2 (((S.1 2) + 1))), S.2)) (v := .int (((S.1 2) + 1))) hx hb hown hts hK hP hD hS 2 (by decide) rfl rfl rfl (sI_M_2 g _ _) k_M_108 d_M_nextToken_78 (fun H locs hP hD hS => ?_)
          refine lv_goto hx hb d_M_nextToken_81 (tgt := 46) (by decide) ?_
          exact ih46 ((upd S.1 2 (((S.1 2) + 1))), S.2)  _ _ _ hw (lv_sub hl [0] rfl) hP hD hS
  have J38 : ∀ (S : StM)  (H : Heap) (locs : List Loc) (ls : Array Slot), wq_M_nextToken_38 post  S  → lv_has ls 1 [(0, .ref (g.2.2 0))] → va_P g.1 classes (wM g S) H → va_D (AM g s.heap.size) (wM g S) → va_S (AM g s.heap.size) s.heap H locs → W p l e (rmM 0 0) s m args below meth c H locs 0 0 Q (F0 m 38 ls []) := by
    intro S  H locs ls hw hl hP hD hS
    unfold wq_M_nextToken_38 at hw
    refine lv_aload_n hx hb d_M_nextToken_38 rfl (lv_at hl 0 rfl) ?_
    refine lv_aload_n hx hb d_M_nextToken_39 rfl (lv_at hl 0 rfl) ?_
    refine gt_M (v := .int ((S.1 2))) hx hb hown hts hK hP 2 (by decide) rfl k_M_108 d_M_nextToken_40 ?_
    refine pt_M (S2 := ((upd S.1 3 ((S.1 2))), S.2)) (v := .int ((S.1 2))) hx hb hown hts hK hP hD hS 3 (by decide) rfl rfl rfl (sI_M_3 g _ _) k_M_109 d_M_nextToken_43 (fun H locs hP hD hS => ?_)
    obtain ⟨nn, hw⟩ := hw
    exact J46 nn ((upd S.1 3 ((S.1 2))), S.2)  _ _ _ hw (lv_sub hl [0] rfl) hP hD hS
  have J0 : ∀ (n0 : Nat), ∀ (S : StM)  (H : Heap) (locs : List Loc) (ls : Array Slot), wq_M_nextToken_0 post  n0 S  → lv_has ls 1 [(0, .ref (g.2.2 0))] → va_P g.1 classes (wM g S) H → va_D (AM g s.heap.size) (wM g S) → va_S (AM g s.heap.size) s.heap H locs → W p l e (rmM 0 0) s m args below meth c H locs 0 0 Q (F0 m 0 ls []) := by
    intro n0
    induction n0 with
    | zero => intro S  H locs ls hw; exact hw.elim
    | succ n0 ih0 =>
      intro S  H locs ls hw hl hP hD hS
      unfold wq_M_nextToken_0 at hw
      refine lv_aload_n hx hb d_M_nextToken_0 rfl (lv_at hl 0 rfl) ?_
      refine gt_M (v := .int ((S.1 2))) hx hb hown hts hK hP 2 (by decide) rfl k_M_108 d_M_nextToken_1 ?_
      refine lv_aload_n hx hb d_M_nextToken_4 rfl (lv_at hl 0 rfl) ?_
      refine gt_M (v := .int ((S.1 1))) hx hb hown hts hK hP 1 (by decide) rfl k_M_107 d_M_nextToken_5 ?_
      refine lv_icmp_ge hx hb d_M_nextToken_8 (tgt := 38) (by decide) (fun hc => ?_) (fun hc => ?_)
      · have hw := hw.1 hc
        exact J38 S  _ _ _ hw (lv_sub hl [0] rfl) hP hD hS
      · have hw := hw.2 hc
        refine lv_aload_n hx hb d_M_nextToken_11 rfl (lv_at hl 0 rfl) ?_
        refine gt_M (v := .ref (g.2.2 1)) hx hb hown hts hK hP 0 (by decide) rfl k_M_106 d_M_nextToken_12 ?_
        refine lv_aload_n hx hb d_M_nextToken_15 rfl (lv_at hl 0 rfl) ?_
        refine gt_M (v := .int ((S.1 2))) hx hb hown hts hK hP 2 (by decide) rfl k_M_108 d_M_nextToken_16 ?_
        obtain ⟨hi, hw⟩ := hw
        refine va_iald (f := (S.2.1 0)) hx hb hK hP 1 0 rfl rfl hi d_M_nextToken_19 ?_
        refine lv_bipush (v := 32) hx hb d_M_nextToken_20 (by decide) ?_
        refine lv_icmp_ne hx hb d_M_nextToken_22 (tgt := 38) (by decide) (fun hc => ?_) (fun hc => ?_)
        · have hw := hw.2 hc
          exact J38 S  _ _ _ hw (lv_sub hl [0] rfl) hP hD hS
        · have hw := hw.1 hc
          refine lv_aload_n hx hb d_M_nextToken_25 rfl (lv_at hl 0 rfl) ?_
          refine lv_aload_n hx hb d_M_nextToken_26 rfl (lv_at hl 0 rfl) ?_
          refine gt_M (v := .int ((S.1 2))) hx hb hown hts hK hP 2 (by decide) rfl k_M_108 d_M_nextToken_27 ?_
          refine lv_iconst (v := 1) hx hb d_M_nextToken_30 (by decide) ?_
          refine lv_iadd hx hb d_M_nextToken_31 ?_
          refine pt_M (S2 := ((upd S.1 2 (((S.1 2) + 1))), S.2)) (v := .int (((S.1 2) + 1))) hx hb hown hts hK hP hD hS 2 (by decide) rfl rfl rfl (sI_M_2 g _ _) k_M_108 d_M_nextToken_32 (fun H locs hP hD hS => ?_)
          refine lv_goto hx hb d_M_nextToken_35 (tgt := 0) (by decide) ?_
          exact ih0 ((upd S.1 2 (((S.1 2) + 1))), S.2)  _ _ _ hw (lv_sub hl [0] rfl) hP hD hS
  obtain ⟨nn, hw⟩ := hw
  exact J0 nn S  _ _ _ hw (lv_sub hl [0] rfl) hP hD hS
theorem d_M_isNumber_0 : decode b_M_isNumber 0 = .ok (.aload_n 0, 1) := by decide +kernel
theorem d_M_isNumber_1 : decode b_M_isNumber 1 = .ok (.getfield 209, 3) := by decide +kernel
theorem d_M_isNumber_4 : decode b_M_isNumber 4 = .ok (.ifCond .le 21, 3) := by decide +kernel
theorem d_M_isNumber_7 : decode b_M_isNumber 7 = .ok (.aload_n 0, 1) := by decide +kernel
theorem d_M_isNumber_8 : decode b_M_isNumber 8 = .ok (.getfield 7, 3) := by decide +kernel
theorem d_M_isNumber_11 : decode b_M_isNumber 11 = .ok (.aload_n 0, 1) := by decide +kernel
theorem d_M_isNumber_12 : decode b_M_isNumber 12 = .ok (.getfield 206, 3) := by decide +kernel
theorem d_M_isNumber_15 : decode b_M_isNumber 15 = .ok (.iaload, 1) := by decide +kernel
theorem d_M_isNumber_16 : decode b_M_isNumber 16 = .ok (.bipush 45, 2) := by decide +kernel
theorem d_M_isNumber_18 : decode b_M_isNumber 18 = .ok (.if_icmp .ne 7, 3) := by decide +kernel
theorem d_M_isNumber_21 : decode b_M_isNumber 21 = .ok (.iconst 1, 1) := by decide +kernel
theorem d_M_isNumber_22 : decode b_M_isNumber 22 = .ok (.goto 4, 3) := by decide +kernel
theorem d_M_isNumber_25 : decode b_M_isNumber 25 = .ok (.iconst 0, 1) := by decide +kernel
theorem d_M_isNumber_26 : decode b_M_isNumber 26 = .ok (.istore_n 1, 1) := by decide +kernel
theorem d_M_isNumber_27 : decode b_M_isNumber 27 = .ok (.aload_n 0, 1) := by decide +kernel
theorem d_M_isNumber_28 : decode b_M_isNumber 28 = .ok (.getfield 209, 3) := by decide +kernel
theorem d_M_isNumber_31 : decode b_M_isNumber 31 = .ok (.iload_n 1, 1) := by decide +kernel
theorem d_M_isNumber_32 : decode b_M_isNumber 32 = .ok (.isub, 1) := by decide +kernel
theorem d_M_isNumber_33 : decode b_M_isNumber 33 = .ok (.iconst 1, 1) := by decide +kernel
theorem d_M_isNumber_34 : decode b_M_isNumber 34 = .ok (.bipush 6, 2) := by decide +kernel
theorem d_M_isNumber_36 : decode b_M_isNumber 36 = .ok (.invokestatic 212, 3) := by decide +kernel
theorem d_M_isNumber_39 : decode b_M_isNumber 39 = .ok (.istore_n 2, 1) := by decide +kernel
theorem d_M_isNumber_40 : decode b_M_isNumber 40 = .ok (.iload_n 1, 1) := by decide +kernel
theorem d_M_isNumber_41 : decode b_M_isNumber 41 = .ok (.istore_n 3, 1) := by decide +kernel
theorem d_M_isNumber_42 : decode b_M_isNumber 42 = .ok (.iload_n 3, 1) := by decide +kernel
theorem d_M_isNumber_43 : decode b_M_isNumber 43 = .ok (.aload_n 0, 1) := by decide +kernel
theorem d_M_isNumber_44 : decode b_M_isNumber 44 = .ok (.getfield 209, 3) := by decide +kernel
theorem d_M_isNumber_47 : decode b_M_isNumber 47 = .ok (.if_icmp .ge 40, 3) := by decide +kernel
theorem d_M_isNumber_50 : decode b_M_isNumber 50 = .ok (.iload_n 2, 1) := by decide +kernel
theorem d_M_isNumber_51 : decode b_M_isNumber 51 = .ok (.ifCond .eq 28, 3) := by decide +kernel
theorem d_M_isNumber_54 : decode b_M_isNumber 54 = .ok (.aload_n 0, 1) := by decide +kernel
theorem d_M_isNumber_55 : decode b_M_isNumber 55 = .ok (.getfield 7, 3) := by decide +kernel
theorem d_M_isNumber_58 : decode b_M_isNumber 58 = .ok (.aload_n 0, 1) := by decide +kernel
theorem d_M_isNumber_59 : decode b_M_isNumber 59 = .ok (.getfield 206, 3) := by decide +kernel
theorem d_M_isNumber_62 : decode b_M_isNumber 62 = .ok (.iload_n 3, 1) := by decide +kernel
theorem d_M_isNumber_63 : decode b_M_isNumber 63 = .ok (.iadd, 1) := by decide +kernel
theorem d_M_isNumber_64 : decode b_M_isNumber 64 = .ok (.iaload, 1) := by decide +kernel
theorem d_M_isNumber_65 : decode b_M_isNumber 65 = .ok (.bipush 48, 2) := by decide +kernel
theorem d_M_isNumber_67 : decode b_M_isNumber 67 = .ok (.bipush 57, 2) := by decide +kernel
theorem d_M_isNumber_69 : decode b_M_isNumber 69 = .ok (.invokestatic 212, 3) := by decide +kernel
theorem d_M_isNumber_72 : decode b_M_isNumber 72 = .ok (.ifCond .eq 7, 3) := by decide +kernel
theorem d_M_isNumber_75 : decode b_M_isNumber 75 = .ok (.iconst 1, 1) := by decide +kernel
theorem d_M_isNumber_76 : decode b_M_isNumber 76 = .ok (.goto 4, 3) := by decide +kernel
theorem d_M_isNumber_79 : decode b_M_isNumber 79 = .ok (.iconst 0, 1) := by decide +kernel
theorem d_M_isNumber_80 : decode b_M_isNumber 80 = .ok (.istore_n 2, 1) := by decide +kernel
theorem d_M_isNumber_81 : decode b_M_isNumber 81 = .ok (.iinc 3 1, 3) := by decide +kernel
theorem d_M_isNumber_84 : decode b_M_isNumber 84 = .ok (.goto (-42), 3) := by decide +kernel
theorem d_M_isNumber_87 : decode b_M_isNumber 87 = .ok (.iload_n 2, 1) := by decide +kernel
theorem d_M_isNumber_88 : decode b_M_isNumber 88 = .ok (.ireturn, 1) := by decide +kernel
def wq_M_isNumber_80 (post : Int32 → StM → Prop) (k42 : StM → Int32 → Int32 → Prop) (S : StM) (x3 : Int32) (t0 : Int32) : Prop :=
  k42 S (t0) ((x3 + 1))
def wq_M_isNumber_79 (post : Int32 → StM → Prop) (k42 : StM → Int32 → Int32 → Prop) (S : StM) (x3 : Int32) : Prop :=
  wq_M_isNumber_80 post k42 S (x3) (0)
def wq_M_isNumber_42 (post : Int32 → StM → Prop)  : Nat → StM → Int32 → Int32 → Prop
  | 0, _, _, _ => False
  | n42 + 1, S, x2, x3 =>
    (((S.1 4) ≤ x3) → (narrow .boolean (.int (x2)) = .int (x2)) ∧ (post (x2) S)) ∧ (¬ ((S.1 4) ≤ x3) → ((x2 = 0) → wq_M_isNumber_79 post (wq_M_isNumber_42 post  n42) S (x3)) ∧ (¬ (x2 = 0) → (vp_in ((S.1 3) + x3) 120) ∧ (wp_M_in (fun (r2 : Int32) (S1 : StM) => (((r2 = 0) → wq_M_isNumber_79 post (wq_M_isNumber_42 post  n42) S1 (x3)) ∧ (¬ (r2 = 0) → wq_M_isNumber_80 post (wq_M_isNumber_42 post  n42) S1 (x3) (1)))) S (((S.2.1 0) (Int32.toNatClampNeg (((S.1 3) + x3))))) (48) (57))))
def wq_M_isNumber_26 (post : Int32 → StM → Prop)  (S : StM) (t0 : Int32) : Prop :=
  wp_M_in (fun (r4 : Int32) (S3 : StM) => (∃ nn : Nat, wq_M_isNumber_42 post  nn S3 (r4) (t0))) S (((S.1 4) - t0)) (1) (6)
def wq_M_isNumber_25 (post : Int32 → StM → Prop)  (S : StM)  : Prop :=
  wq_M_isNumber_26 post  S (0)
def wp_M_isNumber (post : Int32 → StM → Prop) (S : StM)  : Prop :=
  (((S.1 4) ≤ 0) → wq_M_isNumber_25 post  S ) ∧ (¬ ((S.1 4) ≤ 0) → (vp_in (S.1 3) 120) ∧ (((((S.2.1 0) (Int32.toNatClampNeg ((S.1 3)))) = 45) → wq_M_isNumber_26 post  S (1)) ∧ (¬ (((S.2.1 0) (Int32.toNatClampNeg ((S.1 3)))) = 45) → wq_M_isNumber_25 post  S )))
set_option maxRecDepth 100000 in
set_option maxHeartbeats 4000000 in
theorem c_M_isNumber (l : Launch) (g : Gm) (sz : Nat) (S : StM)  (post : Int32 → StM → Prop) (hw : wp_M_isNumber post S ) : Met l y_M_isNumber (.code y_M_isNumber b_M_isNumber 4 (some .boolean) :: w_M) (rmM 1 22) (va_Pc [.ref (g.2.2 0)] (PM g sz S)) (va_Qi post (BM g sz) (AM g sz)) 0 0 (AM g sz) := by
  refine ofM_z (by decide) (Nat.le_of_ble_eq_true rfl) (fun p e s m args below meth c Q H locs ls hx hb hml hts hown hK hA kr hl hP hD hS => ?_)
  have hl : lv_has ls 4 [(0, .ref (g.2.2 0))] := hl
  unfold wp_M_isNumber at hw
  have J42 : ∀ (n42 : Nat), ∀ (S : StM) (x2 : Int32) (x3 : Int32) (H : Heap) (locs : List Loc) (ls : Array Slot), wq_M_isNumber_42 post  n42 S x2 x3 → lv_has ls 4 [(0, .ref (g.2.2 0)), (2, .int (x2)), (3, .int (x3))] → va_P g.1 classes (wM g S) H → va_D (AM g s.heap.size) (wM g S) → va_S (AM g s.heap.size) s.heap H locs → W p l e (rmM 1 22) s m args below meth c H locs 0 0 Q (F0 m 42 ls []) := by
    intro n42
    induction n42 with
    | zero => intro S x2 x3 H locs ls hw; exact hw.elim
    | succ n42 ih42 =>
      have J80 : ∀ (S : StM) (x3 : Int32) (t0 : Int32) (H : Heap) (locs : List Loc) (ls : Array Slot), wq_M_isNumber_80 post (wq_M_isNumber_42 post  n42) S x3 t0 → lv_has ls 4 [(0, .ref (g.2.2 0)), (3, .int (x3))] → va_P g.1 classes (wM g S) H → va_D (AM g s.heap.size) (wM g S) → va_S (AM g s.heap.size) s.heap H locs → W p l e (rmM 1 22) s m args below meth c H locs 0 0 Q (F0 m 80 ls [.int (t0)]) := by
        intro S x3 t0 H locs ls hw hl hP hD hS
        unfold wq_M_isNumber_80 at hw
        refine lv_istore_n (lv' := [(2, .int (t0)), (0, .ref (g.2.2 0)), (3, .int (x3))]) hx hb d_M_isNumber_80 rfl hl (by decide) rfl (fun ls hl => ?_)
        refine lv_iinc (k := 2) (v := (x3 + 1)) (lv' := [(3, .int ((x3 + 1))), (2, .int (t0)), (0, .ref (g.2.2 0))]) hx hb d_M_isNumber_81 hl rfl rfl (by decide) rfl (fun ls hl => ?_)
        refine lv_goto hx hb d_M_isNumber_84 (tgt := 42) (by decide) ?_
        exact ih42 S (t0) ((x3 + 1)) _ _ _ hw (lv_sub hl [2, 1, 0] rfl) hP hD hS
      have J79 : ∀ (S : StM) (x3 : Int32) (H : Heap) (locs : List Loc) (ls : Array Slot), wq_M_isNumber_79 post (wq_M_isNumber_42 post  n42) S x3 → lv_has ls 4 [(0, .ref (g.2.2 0)), (3, .int (x3))] → va_P g.1 classes (wM g S) H → va_D (AM g s.heap.size) (wM g S) → va_S (AM g s.heap.size) s.heap H locs → W p l e (rmM 1 22) s m args below meth c H locs 0 0 Q (F0 m 79 ls []) := by
        intro S x3 H locs ls hw hl hP hD hS
        unfold wq_M_isNumber_79 at hw
        refine lv_iconst (v := 0) hx hb d_M_isNumber_79 (by decide) ?_
        exact J80 S (x3) (0) _ _ _ hw (lv_sub hl [0, 1] rfl) hP hD hS
      intro S x2 x3 H locs ls hw hl hP hD hS
      unfold wq_M_isNumber_42 at hw
      refine lv_iload_n hx hb d_M_isNumber_42 rfl (lv_at hl 2 rfl) ?_
      refine lv_aload_n hx hb d_M_isNumber_43 rfl (lv_at hl 0 rfl) ?_
      refine gt_M (v := .int ((S.1 4))) hx hb hown hts hK hP 4 (by decide) rfl k_M_110 d_M_isNumber_44 ?_
      refine lv_icmp_ge hx hb d_M_isNumber_47 (tgt := 87) (by decide) (fun hc => ?_) (fun hc => ?_)
      · have hw := hw.1 hc
        refine lv_iload_n hx hb d_M_isNumber_87 rfl (lv_at hl 1 rfl) ?_
        obtain ⟨hnz, hw⟩ := hw
        exact kr (x2) S _ _ _ _ hnz hw hP hD hS d_M_isNumber_88
      · have hw := hw.2 hc
        refine lv_iload_n hx hb d_M_isNumber_50 rfl (lv_at hl 1 rfl) ?_
        refine lv_if_eq hx hb d_M_isNumber_51 (tgt := 79) (by decide) (fun hc => ?_) (fun hc => ?_)
        · have hw := hw.1 hc
          exact J79 S (x3) _ _ _ hw (lv_sub hl [0, 2] rfl) hP hD hS
        · have hw := hw.2 hc
          refine lv_aload_n hx hb d_M_isNumber_54 rfl (lv_at hl 0 rfl) ?_
          refine gt_M (v := .ref (g.2.2 1)) hx hb hown hts hK hP 0 (by decide) rfl k_M_106 d_M_isNumber_55 ?_
          refine lv_aload_n hx hb d_M_isNumber_58 rfl (lv_at hl 0 rfl) ?_
          refine gt_M (v := .int ((S.1 3))) hx hb hown hts hK hP 3 (by decide) rfl k_M_109 d_M_isNumber_59 ?_
          refine lv_iload_n hx hb d_M_isNumber_62 rfl (lv_at hl 2 rfl) ?_
          refine lv_iadd hx hb d_M_isNumber_63 ?_
          obtain ⟨hi, hw⟩ := hw
          refine va_iald (f := (S.2.1 0)) hx hb hK hP 1 0 rfl rfl hi d_M_isNumber_64 ?_
          refine lv_bipush (v := 48) hx hb d_M_isNumber_65 (by decide) ?_
          refine lv_bipush (v := 57) hx hb d_M_isNumber_67 (by decide) ?_
          refine cM_iS (As := [.int (((S.2.1 0) (Int32.toNatClampNeg (((S.1 3) + x3))))), .int (48), .int (57)]) (rest := []) hx hb hml hown hts hK hP hD hS hA (Nat.zero_le _) (Nat.zero_le _) hl.1 (q_M_in hts ⟨Nat.le_of_ble_eq_true rfl, Nat.le_of_ble_eq_true rfl⟩) (c_M_in l g H.size _ (((S.2.1 0) (Int32.toNatClampNeg (((S.1 3) + x3))))) (48) (57) _ hw) rfl rfl (Nat.le_of_ble_eq_true rfl) d_M_isNumber_69 (fun r2 S1 H locs hw hP hD hS => ?_)
          refine lv_if_eq hx hb d_M_isNumber_72 (tgt := 79) (by decide) (fun hc => ?_) (fun hc => ?_)
          · have hw := hw.1 hc
            exact J79 S1 (x3) _ _ _ hw (lv_sub hl [0, 2] rfl) hP hD hS
          · have hw := hw.2 hc
            refine lv_iconst (v := 1) hx hb d_M_isNumber_75 (by decide) ?_
            refine lv_goto hx hb d_M_isNumber_76 (tgt := 80) (by decide) ?_
            exact J80 S1 (x3) (1) _ _ _ hw (lv_sub hl [0, 2] rfl) hP hD hS
  have J26 : ∀ (S : StM) (t0 : Int32) (H : Heap) (locs : List Loc) (ls : Array Slot), wq_M_isNumber_26 post  S t0 → lv_has ls 4 [(0, .ref (g.2.2 0))] → va_P g.1 classes (wM g S) H → va_D (AM g s.heap.size) (wM g S) → va_S (AM g s.heap.size) s.heap H locs → W p l e (rmM 1 22) s m args below meth c H locs 0 0 Q (F0 m 26 ls [.int (t0)]) := by
    intro S t0 H locs ls hw hl hP hD hS
    unfold wq_M_isNumber_26 at hw
    refine lv_istore_n (lv' := [(1, .int (t0)), (0, .ref (g.2.2 0))]) hx hb d_M_isNumber_26 rfl hl (by decide) rfl (fun ls hl => ?_)
    refine lv_aload_n hx hb d_M_isNumber_27 rfl (lv_at hl 1 rfl) ?_
    refine gt_M (v := .int ((S.1 4))) hx hb hown hts hK hP 4 (by decide) rfl k_M_110 d_M_isNumber_28 ?_
    refine lv_iload_n hx hb d_M_isNumber_31 rfl (lv_at hl 0 rfl) ?_
    refine lv_isub hx hb d_M_isNumber_32 ?_
    refine lv_iconst (v := 1) hx hb d_M_isNumber_33 (by decide) ?_
    refine lv_bipush (v := 6) hx hb d_M_isNumber_34 (by decide) ?_
    refine cM_iS (As := [.int (((S.1 4) - t0)), .int (1), .int (6)]) (rest := []) hx hb hml hown hts hK hP hD hS hA (Nat.zero_le _) (Nat.zero_le _) hl.1 (q_M_in hts ⟨Nat.le_of_ble_eq_true rfl, Nat.le_of_ble_eq_true rfl⟩) (c_M_in l g H.size _ (((S.1 4) - t0)) (1) (6) _ hw) rfl rfl (Nat.le_of_ble_eq_true rfl) d_M_isNumber_36 (fun r4 S3 H locs hw hP hD hS => ?_)
    refine lv_istore_n (lv' := [(2, .int (r4)), (1, .int (t0)), (0, .ref (g.2.2 0))]) hx hb d_M_isNumber_39 rfl hl (by decide) rfl (fun ls hl => ?_)
    refine lv_iload_n hx hb d_M_isNumber_40 rfl (lv_at hl 1 rfl) ?_
    refine lv_istore_n (lv' := [(3, .int (t0)), (2, .int (r4)), (1, .int (t0)), (0, .ref (g.2.2 0))]) hx hb d_M_isNumber_41 rfl hl (by decide) rfl (fun ls hl => ?_)
    obtain ⟨nn, hw⟩ := hw
    exact J42 nn S3 (r4) (t0) _ _ _ hw (lv_sub hl [3, 1, 0] rfl) hP hD hS
  have J25 : ∀ (S : StM)  (H : Heap) (locs : List Loc) (ls : Array Slot), wq_M_isNumber_25 post  S  → lv_has ls 4 [(0, .ref (g.2.2 0))] → va_P g.1 classes (wM g S) H → va_D (AM g s.heap.size) (wM g S) → va_S (AM g s.heap.size) s.heap H locs → W p l e (rmM 1 22) s m args below meth c H locs 0 0 Q (F0 m 25 ls []) := by
    intro S  H locs ls hw hl hP hD hS
    unfold wq_M_isNumber_25 at hw
    refine lv_iconst (v := 0) hx hb d_M_isNumber_25 (by decide) ?_
    exact J26 S (0) _ _ _ hw (lv_sub hl [0] rfl) hP hD hS
  refine lv_aload_n hx hb d_M_isNumber_0 rfl (lv_at hl 0 rfl) ?_
  refine gt_M (v := .int ((S.1 4))) hx hb hown hts hK hP 4 (by decide) rfl k_M_110 d_M_isNumber_1 ?_
  refine lv_if_le hx hb d_M_isNumber_4 (tgt := 25) (by decide) (fun hc => ?_) (fun hc => ?_)
  · have hw := hw.1 hc
    exact J25 S  _ _ _ hw (lv_sub hl [0] rfl) hP hD hS
  · have hw := hw.2 hc
    refine lv_aload_n hx hb d_M_isNumber_7 rfl (lv_at hl 0 rfl) ?_
    refine gt_M (v := .ref (g.2.2 1)) hx hb hown hts hK hP 0 (by decide) rfl k_M_106 d_M_isNumber_8 ?_
    refine lv_aload_n hx hb d_M_isNumber_11 rfl (lv_at hl 0 rfl) ?_
    refine gt_M (v := .int ((S.1 3))) hx hb hown hts hK hP 3 (by decide) rfl k_M_109 d_M_isNumber_12 ?_
    obtain ⟨hi, hw⟩ := hw
    refine va_iald (f := (S.2.1 0)) hx hb hK hP 1 0 rfl rfl hi d_M_isNumber_15 ?_
    refine lv_bipush (v := 45) hx hb d_M_isNumber_16 (by decide) ?_
    refine lv_icmp_ne hx hb d_M_isNumber_18 (tgt := 25) (by decide) (fun hc => ?_) (fun hc => ?_)
    · have hw := hw.2 hc
      exact J25 S  _ _ _ hw (lv_sub hl [0] rfl) hP hD hS
    · have hw := hw.1 hc
      refine lv_iconst (v := 1) hx hb d_M_isNumber_21 (by decide) ?_
      refine lv_goto hx hb d_M_isNumber_22 (tgt := 26) (by decide) ?_
      exact J26 S (1) _ _ _ hw (lv_sub hl [0] rfl) hP hD hS
theorem d_M_number_0 : decode b_M_number 0 = .ok (.iconst 0, 1) := by decide +kernel
theorem d_M_number_1 : decode b_M_number 1 = .ok (.istore_n 1, 1) := by decide +kernel
theorem d_M_number_2 : decode b_M_number 2 = .ok (.iconst 0, 1) := by decide +kernel
theorem d_M_number_3 : decode b_M_number 3 = .ok (.istore_n 2, 1) := by decide +kernel
theorem d_M_number_4 : decode b_M_number 4 = .ok (.iload_n 2, 1) := by decide +kernel
theorem d_M_number_5 : decode b_M_number 5 = .ok (.aload_n 0, 1) := by decide +kernel
theorem d_M_number_6 : decode b_M_number 6 = .ok (.getfield 209, 3) := by decide +kernel
theorem d_M_number_9 : decode b_M_number 9 = .ok (.if_icmp .ge 49, 3) := by decide +kernel
theorem d_M_number_12 : decode b_M_number 12 = .ok (.aload_n 0, 1) := by decide +kernel
theorem d_M_number_13 : decode b_M_number 13 = .ok (.getfield 7, 3) := by decide +kernel
theorem d_M_number_16 : decode b_M_number 16 = .ok (.aload_n 0, 1) := by decide +kernel
theorem d_M_number_17 : decode b_M_number 17 = .ok (.getfield 206, 3) := by decide +kernel
theorem d_M_number_20 : decode b_M_number 20 = .ok (.iload_n 2, 1) := by decide +kernel
theorem d_M_number_21 : decode b_M_number 21 = .ok (.iadd, 1) := by decide +kernel
theorem d_M_number_22 : decode b_M_number 22 = .ok (.iaload, 1) := by decide +kernel
theorem d_M_number_23 : decode b_M_number 23 = .ok (.bipush 45, 2) := by decide +kernel
theorem d_M_number_25 : decode b_M_number 25 = .ok (.if_icmp .ne 7, 3) := by decide +kernel
theorem d_M_number_28 : decode b_M_number 28 = .ok (.iload_n 1, 1) := by decide +kernel
theorem d_M_number_29 : decode b_M_number 29 = .ok (.goto 22, 3) := by decide +kernel
theorem d_M_number_32 : decode b_M_number 32 = .ok (.bipush 10, 2) := by decide +kernel
theorem d_M_number_34 : decode b_M_number 34 = .ok (.iload_n 1, 1) := by decide +kernel
theorem d_M_number_35 : decode b_M_number 35 = .ok (.imul, 1) := by decide +kernel
theorem d_M_number_36 : decode b_M_number 36 = .ok (.aload_n 0, 1) := by decide +kernel
theorem d_M_number_37 : decode b_M_number 37 = .ok (.getfield 7, 3) := by decide +kernel
theorem d_M_number_40 : decode b_M_number 40 = .ok (.aload_n 0, 1) := by decide +kernel
theorem d_M_number_41 : decode b_M_number 41 = .ok (.getfield 206, 3) := by decide +kernel
theorem d_M_number_44 : decode b_M_number 44 = .ok (.iload_n 2, 1) := by decide +kernel
theorem d_M_number_45 : decode b_M_number 45 = .ok (.iadd, 1) := by decide +kernel
theorem d_M_number_46 : decode b_M_number 46 = .ok (.iaload, 1) := by decide +kernel
theorem d_M_number_47 : decode b_M_number 47 = .ok (.iadd, 1) := by decide +kernel
theorem d_M_number_48 : decode b_M_number 48 = .ok (.bipush 48, 2) := by decide +kernel
theorem d_M_number_50 : decode b_M_number 50 = .ok (.isub, 1) := by decide +kernel
theorem d_M_number_51 : decode b_M_number 51 = .ok (.istore_n 1, 1) := by decide +kernel
theorem d_M_number_52 : decode b_M_number 52 = .ok (.iinc 2 1, 3) := by decide +kernel
theorem d_M_number_55 : decode b_M_number 55 = .ok (.goto (-51), 3) := by decide +kernel
theorem d_M_number_58 : decode b_M_number 58 = .ok (.aload_n 0, 1) := by decide +kernel
theorem d_M_number_59 : decode b_M_number 59 = .ok (.getfield 7, 3) := by decide +kernel
theorem d_M_number_62 : decode b_M_number 62 = .ok (.aload_n 0, 1) := by decide +kernel
theorem d_M_number_63 : decode b_M_number 63 = .ok (.getfield 206, 3) := by decide +kernel
theorem d_M_number_66 : decode b_M_number 66 = .ok (.iaload, 1) := by decide +kernel
theorem d_M_number_67 : decode b_M_number 67 = .ok (.bipush 45, 2) := by decide +kernel
theorem d_M_number_69 : decode b_M_number 69 = .ok (.if_icmp .ne 8, 3) := by decide +kernel
theorem d_M_number_72 : decode b_M_number 72 = .ok (.iload_n 1, 1) := by decide +kernel
theorem d_M_number_73 : decode b_M_number 73 = .ok (.ineg, 1) := by decide +kernel
theorem d_M_number_74 : decode b_M_number 74 = .ok (.goto 4, 3) := by decide +kernel
theorem d_M_number_77 : decode b_M_number 77 = .ok (.iload_n 1, 1) := by decide +kernel
theorem d_M_number_78 : decode b_M_number 78 = .ok (.ireturn, 1) := by decide +kernel
def wq_M_number_78 (post : Int32 → StM → Prop)  (S : StM) (t0 : Int32) : Prop :=
  post (t0) S
def wq_M_number_51 (post : Int32 → StM → Prop) (k4 : StM → Int32 → Int32 → Prop) (S : StM) (x2 : Int32) (t0 : Int32) : Prop :=
  k4 S (t0) ((x2 + 1))
def wq_M_number_4 (post : Int32 → StM → Prop)  : Nat → StM → Int32 → Int32 → Prop
  | 0, _, _, _ => False
  | n4 + 1, S, x1, x2 =>
    (((S.1 4) ≤ x2) → (vp_in (S.1 3) 120) ∧ (((((S.2.1 0) (Int32.toNatClampNeg ((S.1 3)))) = 45) → wq_M_number_78 post  S ((-x1))) ∧ (¬ (((S.2.1 0) (Int32.toNatClampNeg ((S.1 3)))) = 45) → wq_M_number_78 post  S (x1)))) ∧ (¬ ((S.1 4) ≤ x2) → (vp_in ((S.1 3) + x2) 120) ∧ (((((S.2.1 0) (Int32.toNatClampNeg (((S.1 3) + x2)))) = 45) → wq_M_number_51 post (wq_M_number_4 post  n4) S (x2) (x1)) ∧ (¬ (((S.2.1 0) (Int32.toNatClampNeg (((S.1 3) + x2)))) = 45) → (vp_in ((S.1 3) + x2) 120) ∧ (wq_M_number_51 post (wq_M_number_4 post  n4) S (x2) ((((10 * x1) + ((S.2.1 0) (Int32.toNatClampNeg (((S.1 3) + x2))))) - 48))))))
def wp_M_number (post : Int32 → StM → Prop) (S : StM)  : Prop :=
  ∃ nn : Nat, wq_M_number_4 post  nn S (0) (0)
set_option maxRecDepth 100000 in
set_option maxHeartbeats 4000000 in
theorem c_M_number (l : Launch) (g : Gm) (sz : Nat) (S : StM)  (post : Int32 → StM → Prop) (hw : wp_M_number post S ) : Met l y_M_number (.code y_M_number b_M_number 3 (some .int) :: w_M) (rmM 0 0) (va_Pc [.ref (g.2.2 0)] (PM g sz S)) (va_Qi post (BM g sz) (AM g sz)) 0 0 (AM g sz) := by
  refine ofM_i (by decide) (Nat.le_of_ble_eq_true rfl) (fun p e s m args below meth c Q H locs ls hx hb hml hts hown hK hA kr hl hP hD hS => ?_)
  have hl : lv_has ls 3 [(0, .ref (g.2.2 0))] := hl
  unfold wp_M_number at hw
  have J78 : ∀ (S : StM) (t0 : Int32) (H : Heap) (locs : List Loc) (ls : Array Slot), wq_M_number_78 post  S t0 → lv_has ls 3 [] → va_P g.1 classes (wM g S) H → va_D (AM g s.heap.size) (wM g S) → va_S (AM g s.heap.size) s.heap H locs → W p l e (rmM 0 0) s m args below meth c H locs 0 0 Q (F0 m 78 ls [.int (t0)]) := by
    intro S t0 H locs ls hw hl hP hD hS
    unfold wq_M_number_78 at hw
    exact kr (t0) S _ _ _ _ hw hP hD hS d_M_number_78
  have J4 : ∀ (n4 : Nat), ∀ (S : StM) (x1 : Int32) (x2 : Int32) (H : Heap) (locs : List Loc) (ls : Array Slot), wq_M_number_4 post  n4 S x1 x2 → lv_has ls 3 [(0, .ref (g.2.2 0)), (1, .int (x1)), (2, .int (x2))] → va_P g.1 classes (wM g S) H → va_D (AM g s.heap.size) (wM g S) → va_S (AM g s.heap.size) s.heap H locs → W p l e (rmM 0 0) s m args below meth c H locs 0 0 Q (F0 m 4 ls []) := by
    intro n4
    induction n4 with
    | zero => intro S x1 x2 H locs ls hw; exact hw.elim
    | succ n4 ih4 =>
      have J51 : ∀ (S : StM) (x2 : Int32) (t0 : Int32) (H : Heap) (locs : List Loc) (ls : Array Slot), wq_M_number_51 post (wq_M_number_4 post  n4) S x2 t0 → lv_has ls 3 [(0, .ref (g.2.2 0)), (2, .int (x2))] → va_P g.1 classes (wM g S) H → va_D (AM g s.heap.size) (wM g S) → va_S (AM g s.heap.size) s.heap H locs → W p l e (rmM 0 0) s m args below meth c H locs 0 0 Q (F0 m 51 ls [.int (t0)]) := by
        intro S x2 t0 H locs ls hw hl hP hD hS
        unfold wq_M_number_51 at hw
        refine lv_istore_n (lv' := [(1, .int (t0)), (0, .ref (g.2.2 0)), (2, .int (x2))]) hx hb d_M_number_51 rfl hl (by decide) rfl (fun ls hl => ?_)
        refine lv_iinc (k := 2) (v := (x2 + 1)) (lv' := [(2, .int ((x2 + 1))), (1, .int (t0)), (0, .ref (g.2.2 0))]) hx hb d_M_number_52 hl rfl rfl (by decide) rfl (fun ls hl => ?_)
        refine lv_goto hx hb d_M_number_55 (tgt := 4) (by decide) ?_
        exact ih4 S (t0) ((x2 + 1)) _ _ _ hw (lv_sub hl [2, 1, 0] rfl) hP hD hS
      intro S x1 x2 H locs ls hw hl hP hD hS
      unfold wq_M_number_4 at hw
      refine lv_iload_n hx hb d_M_number_4 rfl (lv_at hl 2 rfl) ?_
      refine lv_aload_n hx hb d_M_number_5 rfl (lv_at hl 0 rfl) ?_
      refine gt_M (v := .int ((S.1 4))) hx hb hown hts hK hP 4 (by decide) rfl k_M_110 d_M_number_6 ?_
      refine lv_icmp_ge hx hb d_M_number_9 (tgt := 58) (by decide) (fun hc => ?_) (fun hc => ?_)
      · have hw := hw.1 hc
        refine lv_aload_n hx hb d_M_number_58 rfl (lv_at hl 0 rfl) ?_
        refine gt_M (v := .ref (g.2.2 1)) hx hb hown hts hK hP 0 (by decide) rfl k_M_106 d_M_number_59 ?_
        refine lv_aload_n hx hb d_M_number_62 rfl (lv_at hl 0 rfl) ?_
        refine gt_M (v := .int ((S.1 3))) hx hb hown hts hK hP 3 (by decide) rfl k_M_109 d_M_number_63 ?_
        obtain ⟨hi, hw⟩ := hw
        refine va_iald (f := (S.2.1 0)) hx hb hK hP 1 0 rfl rfl hi d_M_number_66 ?_
        refine lv_bipush (v := 45) hx hb d_M_number_67 (by decide) ?_
        refine lv_icmp_ne hx hb d_M_number_69 (tgt := 77) (by decide) (fun hc => ?_) (fun hc => ?_)
        · have hw := hw.2 hc
          refine lv_iload_n hx hb d_M_number_77 rfl (lv_at hl 1 rfl) ?_
          exact J78 S (x1) _ _ _ hw (lv_sub hl [] rfl) hP hD hS
        · have hw := hw.1 hc
          refine lv_iload_n hx hb d_M_number_72 rfl (lv_at hl 1 rfl) ?_
          refine lv_ineg hx hb d_M_number_73 ?_
          refine lv_goto hx hb d_M_number_74 (tgt := 78) (by decide) ?_
          exact J78 S ((-x1)) _ _ _ hw (lv_sub hl [] rfl) hP hD hS
      · have hw := hw.2 hc
        refine lv_aload_n hx hb d_M_number_12 rfl (lv_at hl 0 rfl) ?_
        refine gt_M (v := .ref (g.2.2 1)) hx hb hown hts hK hP 0 (by decide) rfl k_M_106 d_M_number_13 ?_
        refine lv_aload_n hx hb d_M_number_16 rfl (lv_at hl 0 rfl) ?_
        refine gt_M (v := .int ((S.1 3))) hx hb hown hts hK hP 3 (by decide) rfl k_M_109 d_M_number_17 ?_
        refine lv_iload_n hx hb d_M_number_20 rfl (lv_at hl 2 rfl) ?_
        refine lv_iadd hx hb d_M_number_21 ?_
        obtain ⟨hi, hw⟩ := hw
        refine va_iald (f := (S.2.1 0)) hx hb hK hP 1 0 rfl rfl hi d_M_number_22 ?_
        refine lv_bipush (v := 45) hx hb d_M_number_23 (by decide) ?_
        refine lv_icmp_ne hx hb d_M_number_25 (tgt := 32) (by decide) (fun hc => ?_) (fun hc => ?_)
        · have hw := hw.2 hc
          refine lv_bipush (v := 10) hx hb d_M_number_32 (by decide) ?_
          refine lv_iload_n hx hb d_M_number_34 rfl (lv_at hl 1 rfl) ?_
          refine lv_imul hx hb d_M_number_35 ?_
          refine lv_aload_n hx hb d_M_number_36 rfl (lv_at hl 0 rfl) ?_
          refine gt_M (v := .ref (g.2.2 1)) hx hb hown hts hK hP 0 (by decide) rfl k_M_106 d_M_number_37 ?_
          refine lv_aload_n hx hb d_M_number_40 rfl (lv_at hl 0 rfl) ?_
          refine gt_M (v := .int ((S.1 3))) hx hb hown hts hK hP 3 (by decide) rfl k_M_109 d_M_number_41 ?_
          refine lv_iload_n hx hb d_M_number_44 rfl (lv_at hl 2 rfl) ?_
          refine lv_iadd hx hb d_M_number_45 ?_
          obtain ⟨hi, hw⟩ := hw
          refine va_iald (f := (S.2.1 0)) hx hb hK hP 1 0 rfl rfl hi d_M_number_46 ?_
          refine lv_iadd hx hb d_M_number_47 ?_
          refine lv_bipush (v := 48) hx hb d_M_number_48 (by decide) ?_
          refine lv_isub hx hb d_M_number_50 ?_
          exact J51 S (x2) ((((10 * x1) + ((S.2.1 0) (Int32.toNatClampNeg (((S.1 3) + x2))))) - 48)) _ _ _ hw (lv_sub hl [0, 2] rfl) hP hD hS
        · have hw := hw.1 hc
          refine lv_iload_n hx hb d_M_number_28 rfl (lv_at hl 1 rfl) ?_
          refine lv_goto hx hb d_M_number_29 (tgt := 51) (by decide) ?_
          exact J51 S (x2) (x1) _ _ _ hw (lv_sub hl [0, 2] rfl) hP hD hS
  refine lv_iconst (v := 0) hx hb d_M_number_0 (by decide) ?_
  refine lv_istore_n (lv' := [(1, .int (0)), (0, .ref (g.2.2 0))]) hx hb d_M_number_1 rfl hl (by decide) rfl (fun ls hl => ?_)
  refine lv_iconst (v := 0) hx hb d_M_number_2 (by decide) ?_
  refine lv_istore_n (lv' := [(2, .int (0)), (1, .int (0)), (0, .ref (g.2.2 0))]) hx hb d_M_number_3 rfl hl (by decide) rfl (fun ls hl => ?_)
  obtain ⟨nn, hw⟩ := hw
  exact J4 nn S (0) (0) _ _ _ hw (lv_sub hl [2, 1, 0] rfl) hP hD hS
theorem d_M_isName_0 : decode b_M_isName 0 = .ok (.aload_n 0, 1) := by decide +kernel
theorem d_M_isName_1 : decode b_M_isName 1 = .ok (.getfield 209, 3) := by decide +kernel
theorem d_M_isName_4 : decode b_M_isName 4 = .ok (.iconst 1, 1) := by decide +kernel
theorem d_M_isName_5 : decode b_M_isName 5 = .ok (.bipush 9, 2) := by decide +kernel
theorem d_M_isName_7 : decode b_M_isName 7 = .ok (.invokestatic 212, 3) := by decide +kernel
theorem d_M_isName_10 : decode b_M_isName 10 = .ok (.ifCond .eq 14, 3) := by decide +kernel
theorem d_M_isName_13 : decode b_M_isName 13 = .ok (.aload_n 0, 1) := by decide +kernel
theorem d_M_isName_14 : decode b_M_isName 14 = .ok (.invokevirtual 216, 3) := by decide +kernel
theorem d_M_isName_17 : decode b_M_isName 17 = .ok (.ifCond .ne 7, 3) := by decide +kernel
theorem d_M_isName_20 : decode b_M_isName 20 = .ok (.iconst 1, 1) := by decide +kernel
theorem d_M_isName_21 : decode b_M_isName 21 = .ok (.goto 4, 3) := by decide +kernel
theorem d_M_isName_24 : decode b_M_isName 24 = .ok (.iconst 0, 1) := by decide +kernel
theorem d_M_isName_25 : decode b_M_isName 25 = .ok (.ireturn, 1) := by decide +kernel
def wq_M_isName_25 (post : Int32 → StM → Prop)  (S : StM) (t0 : Int32) : Prop :=
  (narrow .boolean (.int (t0)) = .int (t0)) ∧ (post (t0) S)
def wq_M_isName_24 (post : Int32 → StM → Prop)  (S : StM)  : Prop :=
  wq_M_isName_25 post  S (0)
def wp_M_isName (post : Int32 → StM → Prop) (S : StM)  : Prop :=
  wp_M_in (fun (r2 : Int32) (S1 : StM) => (((r2 = 0) → wq_M_isName_24 post  S1 ) ∧ (¬ (r2 = 0) → wp_M_isNumber (fun (r4 : Int32) (S3 : StM) => (((r4 = 0) → wq_M_isName_25 post  S3 (1)) ∧ (¬ (r4 = 0) → wq_M_isName_24 post  S3 ))) S1 ))) S ((S.1 4)) (1) (9)
set_option maxRecDepth 100000 in
set_option maxHeartbeats 4000000 in
theorem c_M_isName (l : Launch) (g : Gm) (sz : Nat) (S : StM)  (post : Int32 → StM → Prop) (hw : wp_M_isName post S ) : Met l y_M_isName (.code y_M_isName b_M_isName 1 (some .boolean) :: w_M) (rmM 2 45) (va_Pc [.ref (g.2.2 0)] (PM g sz S)) (va_Qi post (BM g sz) (AM g sz)) 0 0 (AM g sz) := by
  refine ofM_z (by decide) (Nat.le_of_ble_eq_true rfl) (fun p e s m args below meth c Q H locs ls hx hb hml hts hown hK hA kr hl hP hD hS => ?_)
  have hl : lv_has ls 1 [(0, .ref (g.2.2 0))] := hl
  unfold wp_M_isName at hw
  have J25 : ∀ (S : StM) (t0 : Int32) (H : Heap) (locs : List Loc) (ls : Array Slot), wq_M_isName_25 post  S t0 → lv_has ls 1 [] → va_P g.1 classes (wM g S) H → va_D (AM g s.heap.size) (wM g S) → va_S (AM g s.heap.size) s.heap H locs → W p l e (rmM 2 45) s m args below meth c H locs 0 0 Q (F0 m 25 ls [.int (t0)]) := by
    intro S t0 H locs ls hw hl hP hD hS
    unfold wq_M_isName_25 at hw
    obtain ⟨hnz, hw⟩ := hw
    exact kr (t0) S _ _ _ _ hnz hw hP hD hS d_M_isName_25
  have J24 : ∀ (S : StM)  (H : Heap) (locs : List Loc) (ls : Array Slot), wq_M_isName_24 post  S  → lv_has ls 1 [] → va_P g.1 classes (wM g S) H → va_D (AM g s.heap.size) (wM g S) → va_S (AM g s.heap.size) s.heap H locs → W p l e (rmM 2 45) s m args below meth c H locs 0 0 Q (F0 m 24 ls []) := by
    intro S  H locs ls hw hl hP hD hS
    unfold wq_M_isName_24 at hw
    refine lv_iconst (v := 0) hx hb d_M_isName_24 (by decide) ?_
    exact J25 S (0) _ _ _ hw (lv_sub hl [] rfl) hP hD hS
  refine lv_aload_n hx hb d_M_isName_0 rfl (lv_at hl 0 rfl) ?_
  refine gt_M (v := .int ((S.1 4))) hx hb hown hts hK hP 4 (by decide) rfl k_M_110 d_M_isName_1 ?_
  refine lv_iconst (v := 1) hx hb d_M_isName_4 (by decide) ?_
  refine lv_bipush (v := 9) hx hb d_M_isName_5 (by decide) ?_
  refine cM_iS (As := [.int ((S.1 4)), .int (1), .int (9)]) (rest := []) hx hb hml hown hts hK hP hD hS hA (Nat.zero_le _) (Nat.zero_le _) hl.1 (q_M_in hts ⟨Nat.le_of_ble_eq_true rfl, Nat.le_of_ble_eq_true rfl⟩) (c_M_in l g H.size _ ((S.1 4)) (1) (9) _ hw) rfl rfl (Nat.le_of_ble_eq_true rfl) d_M_isName_7 (fun r2 S1 H locs hw hP hD hS => ?_)
  refine lv_if_eq hx hb d_M_isName_10 (tgt := 24) (by decide) (fun hc => ?_) (fun hc => ?_)
  · have hw := hw.1 hc
    exact J24 S1  _ _ _ hw (lv_sub hl [] rfl) hP hD hS
  · have hw := hw.2 hc
    refine lv_aload_n hx hb d_M_isName_13 rfl (lv_at hl 0 rfl) ?_
    refine cM_i (As := []) (rest := []) hx hb hml hown hts hK hP hD hS hA (Nat.zero_le _) (Nat.zero_le _) hl.1 (q_M_isNumber hts ⟨Nat.le_of_ble_eq_true rfl, Nat.le_of_ble_eq_true rfl⟩) (c_M_isNumber l g H.size _  _ hw) rfl rfl (Nat.le_of_ble_eq_true rfl) d_M_isName_14 (fun r4 S3 H locs hw hP hD hS => ?_)
    refine lv_if_ne hx hb d_M_isName_17 (tgt := 24) (by decide) (fun hc => ?_) (fun hc => ?_)
    · have hw := hw.2 hc
      exact J24 S3  _ _ _ hw (lv_sub hl [] rfl) hP hD hS
    · have hw := hw.1 hc
      refine lv_iconst (v := 1) hx hb d_M_isName_20 (by decide) ?_
      refine lv_goto hx hb d_M_isName_21 (tgt := 25) (by decide) ?_
      exact J25 S3 (1) _ _ _ hw (lv_sub hl [] rfl) hP hD hS
theorem d_M_key_0 : decode b_M_key 0 = .ok (.lconst 0, 1) := by decide +kernel
theorem d_M_key_1 : decode b_M_key 1 = .ok (.lstore_n 1, 1) := by decide +kernel
theorem d_M_key_2 : decode b_M_key 2 = .ok (.iconst 0, 1) := by decide +kernel
theorem d_M_key_3 : decode b_M_key 3 = .ok (.istore_n 3, 1) := by decide +kernel
theorem d_M_key_4 : decode b_M_key 4 = .ok (.iload_n 3, 1) := by decide +kernel
theorem d_M_key_5 : decode b_M_key 5 = .ok (.aload_n 0, 1) := by decide +kernel
theorem d_M_key_6 : decode b_M_key 6 = .ok (.getfield 209, 3) := by decide +kernel
theorem d_M_key_9 : decode b_M_key 9 = .ok (.if_icmp .ge 28, 3) := by decide +kernel
theorem d_M_key_12 : decode b_M_key 12 = .ok (.lload_n 1, 1) := by decide +kernel
theorem d_M_key_13 : decode b_M_key 13 = .ok (.ldc2_w 184, 3) := by decide +kernel
theorem d_M_key_16 : decode b_M_key 16 = .ok (.lmul, 1) := by decide +kernel
theorem d_M_key_17 : decode b_M_key 17 = .ok (.aload_n 0, 1) := by decide +kernel
theorem d_M_key_18 : decode b_M_key 18 = .ok (.getfield 7, 3) := by decide +kernel
theorem d_M_key_21 : decode b_M_key 21 = .ok (.aload_n 0, 1) := by decide +kernel
theorem d_M_key_22 : decode b_M_key 22 = .ok (.getfield 206, 3) := by decide +kernel
theorem d_M_key_25 : decode b_M_key 25 = .ok (.iload_n 3, 1) := by decide +kernel
theorem d_M_key_26 : decode b_M_key 26 = .ok (.iadd, 1) := by decide +kernel
theorem d_M_key_27 : decode b_M_key 27 = .ok (.iaload, 1) := by decide +kernel
theorem d_M_key_28 : decode b_M_key 28 = .ok (.i2l, 1) := by decide +kernel
theorem d_M_key_29 : decode b_M_key 29 = .ok (.ladd, 1) := by decide +kernel
theorem d_M_key_30 : decode b_M_key 30 = .ok (.lstore_n 1, 1) := by decide +kernel
theorem d_M_key_31 : decode b_M_key 31 = .ok (.iinc 3 1, 3) := by decide +kernel
theorem d_M_key_34 : decode b_M_key 34 = .ok (.goto (-30), 3) := by decide +kernel
theorem d_M_key_37 : decode b_M_key 37 = .ok (.lload_n 1, 1) := by decide +kernel
theorem d_M_key_38 : decode b_M_key 38 = .ok (.lreturn, 1) := by decide +kernel
def wq_M_key_4 (post : Int64 → StM → Prop)  : Nat → StM → Int64 → Int32 → Prop
  | 0, _, _, _ => False
  | n4 + 1, S, x1, x3 =>
    (((S.1 4) ≤ x3) → post (x1) S) ∧ (¬ ((S.1 4) ≤ x3) → (vp_in ((S.1 3) + x3) 120) ∧ ((wq_M_key_4 post  n4) S (((x1 * 128) + (Int32.toInt64 ((S.2.1 0) (Int32.toNatClampNeg (((S.1 3) + x3))))))) ((x3 + 1))))
def wp_M_key (post : Int64 → StM → Prop) (S : StM)  : Prop :=
  ∃ nn : Nat, wq_M_key_4 post  nn S (0) (0)
set_option maxRecDepth 100000 in
set_option maxHeartbeats 4000000 in
theorem c_M_key (l : Launch) (g : Gm) (sz : Nat) (S : StM)  (post : Int64 → StM → Prop) (hw : wp_M_key post S ) : Met l y_M_key (.code y_M_key b_M_key 4 (some .long) :: w_M) (rmM 0 0) (va_Pc [.ref (g.2.2 0)] (PM g sz S)) (va_Ql post (BM g sz) (AM g sz)) 0 0 (AM g sz) := by
  refine ofM_l (by decide) (Nat.le_of_ble_eq_true rfl) (fun p e s m args below meth c Q H locs ls hx hb hml hts hown hK hA kr hl hP hD hS => ?_)
  have hl : lv_has ls 4 [(0, .ref (g.2.2 0))] := hl
  unfold wp_M_key at hw
  have J4 : ∀ (n4 : Nat), ∀ (S : StM) (x1 : Int64) (x3 : Int32) (H : Heap) (locs : List Loc) (ls : Array Slot), wq_M_key_4 post  n4 S x1 x3 → lv_has ls 4 [(0, .ref (g.2.2 0)), (1, .long (x1)), (3, .int (x3))] → va_P g.1 classes (wM g S) H → va_D (AM g s.heap.size) (wM g S) → va_S (AM g s.heap.size) s.heap H locs → W p l e (rmM 0 0) s m args below meth c H locs 0 0 Q (F0 m 4 ls []) := by
    intro n4
    induction n4 with
    | zero => intro S x1 x3 H locs ls hw; exact hw.elim
    | succ n4 ih4 =>
      intro S x1 x3 H locs ls hw hl hP hD hS
      unfold wq_M_key_4 at hw
      refine lv_iload_n hx hb d_M_key_4 rfl (lv_at hl 2 rfl) ?_
      refine lv_aload_n hx hb d_M_key_5 rfl (lv_at hl 0 rfl) ?_
      refine gt_M (v := .int ((S.1 4))) hx hb hown hts hK hP 4 (by decide) rfl k_M_110 d_M_key_6 ?_
      refine lv_icmp_ge hx hb d_M_key_9 (tgt := 37) (by decide) (fun hc => ?_) (fun hc => ?_)
      · have hw := hw.1 hc
        refine lv_lload_n hx hb d_M_key_37 rfl (lv_at hl 1 rfl) ?_
        exact kr (x1) S _ _ _ _ hw hP hD hS d_M_key_38
      · have hw := hw.2 hc
        refine lv_lload_n hx hb d_M_key_12 rfl (lv_at hl 1 rfl) ?_
        refine lv_ldc2 (v := 128) hx hb hown (hts _ k_M_53) d_M_key_13 ?_
        refine lv_lmul hx hb d_M_key_16 ?_
        refine lv_aload_n hx hb d_M_key_17 rfl (lv_at hl 0 rfl) ?_
        refine gt_M (v := .ref (g.2.2 1)) hx hb hown hts hK hP 0 (by decide) rfl k_M_106 d_M_key_18 ?_
        refine lv_aload_n hx hb d_M_key_21 rfl (lv_at hl 0 rfl) ?_
        refine gt_M (v := .int ((S.1 3))) hx hb hown hts hK hP 3 (by decide) rfl k_M_109 d_M_key_22 ?_
        refine lv_iload_n hx hb d_M_key_25 rfl (lv_at hl 2 rfl) ?_
        refine lv_iadd hx hb d_M_key_26 ?_
        obtain ⟨hi, hw⟩ := hw
        refine va_iald (f := (S.2.1 0)) hx hb hK hP 1 0 rfl rfl hi d_M_key_27 ?_
        refine lv_i2l (v := (Int32.toInt64 ((S.2.1 0) (Int32.toNatClampNeg (((S.1 3) + x3)))))) hx hb d_M_key_28 rfl ?_
        refine lv_ladd hx hb d_M_key_29 ?_
        refine lv_lstore_n (lv' := [(1, .long (((x1 * 128) + (Int32.toInt64 ((S.2.1 0) (Int32.toNatClampNeg (((S.1 3) + x3)))))))), (0, .ref (g.2.2 0)), (3, .int (x3))]) hx hb d_M_key_30 rfl hl (by decide) rfl (fun ls hl => ?_)
        refine lv_iinc (k := 2) (v := (x3 + 1)) (lv' := [(3, .int ((x3 + 1))), (1, .long (((x1 * 128) + (Int32.toInt64 ((S.2.1 0) (Int32.toNatClampNeg (((S.1 3) + x3)))))))), (0, .ref (g.2.2 0))]) hx hb d_M_key_31 hl rfl rfl (by decide) rfl (fun ls hl => ?_)
        refine lv_goto hx hb d_M_key_34 (tgt := 4) (by decide) ?_
        exact ih4 S (((x1 * 128) + (Int32.toInt64 ((S.2.1 0) (Int32.toNatClampNeg (((S.1 3) + x3))))))) ((x3 + 1)) _ _ _ hw (lv_sub hl [2, 1, 0] rfl) hP hD hS
  refine lv_lconst (v := 0) hx hb d_M_key_0 (by decide) ?_
  refine lv_lstore_n (lv' := [(1, .long (0)), (0, .ref (g.2.2 0))]) hx hb d_M_key_1 rfl hl (by decide) rfl (fun ls hl => ?_)
  refine lv_iconst (v := 0) hx hb d_M_key_2 (by decide) ?_
  refine lv_istore_n (lv' := [(3, .int (0)), (1, .long (0)), (0, .ref (g.2.2 0))]) hx hb d_M_key_3 rfl hl (by decide) rfl (fun ls hl => ?_)
  obtain ⟨nn, hw⟩ := hw
  exact J4 nn S (0) (0) _ _ _ hw (lv_sub hl [2, 1, 0] rfl) hP hD hS
theorem d_M_find_0 : decode b_M_find 0 = .ok (.aload_n 0, 1) := by decide +kernel
theorem d_M_find_1 : decode b_M_find 1 = .ok (.invokevirtual 220, 3) := by decide +kernel
theorem d_M_find_4 : decode b_M_find 4 = .ok (.ifCond .ne 5, 3) := by decide +kernel
theorem d_M_find_7 : decode b_M_find 7 = .ok (.iconst (-1), 1) := by decide +kernel
theorem d_M_find_8 : decode b_M_find 8 = .ok (.ireturn, 1) := by decide +kernel
theorem d_M_find_9 : decode b_M_find 9 = .ok (.aload_n 0, 1) := by decide +kernel
theorem d_M_find_10 : decode b_M_find 10 = .ok (.invokevirtual 223, 3) := by decide +kernel
theorem d_M_find_13 : decode b_M_find 13 = .ok (.lstore_n 1, 1) := by decide +kernel
theorem d_M_find_14 : decode b_M_find 14 = .ok (.iconst (-1), 1) := by decide +kernel
theorem d_M_find_15 : decode b_M_find 15 = .ok (.istore_n 3, 1) := by decide +kernel
theorem d_M_find_16 : decode b_M_find 16 = .ok (.iconst 0, 1) := by decide +kernel
theorem d_M_find_17 : decode b_M_find 17 = .ok (.istore 4, 2) := by decide +kernel
theorem d_M_find_19 : decode b_M_find 19 = .ok (.iload 4, 2) := by decide +kernel
theorem d_M_find_21 : decode b_M_find 21 = .ok (.bipush 52, 2) := by decide +kernel
theorem d_M_find_23 : decode b_M_find 23 = .ok (.aload_n 0, 1) := by decide +kernel
theorem d_M_find_24 : decode b_M_find 24 = .ok (.getfield 227, 3) := by decide +kernel
theorem d_M_find_27 : decode b_M_find 27 = .ok (.iadd, 1) := by decide +kernel
theorem d_M_find_28 : decode b_M_find 28 = .ok (.if_icmp .ge 43, 3) := by decide +kernel
theorem d_M_find_31 : decode b_M_find 31 = .ok (.aload_n 0, 1) := by decide +kernel
theorem d_M_find_32 : decode b_M_find 32 = .ok (.getfield 25, 3) := by decide +kernel
theorem d_M_find_35 : decode b_M_find 35 = .ok (.iload 4, 2) := by decide +kernel
theorem d_M_find_37 : decode b_M_find 37 = .ok (.laload, 1) := by decide +kernel
theorem d_M_find_38 : decode b_M_find 38 = .ok (.lload_n 1, 1) := by decide +kernel
theorem d_M_find_39 : decode b_M_find 39 = .ok (.lcmp, 1) := by decide +kernel
theorem d_M_find_40 : decode b_M_find 40 = .ok (.ifCond .ne 23, 3) := by decide +kernel
theorem d_M_find_43 : decode b_M_find 43 = .ok (.iload 4, 2) := by decide +kernel
theorem d_M_find_45 : decode b_M_find 45 = .ok (.bipush 52, 2) := by decide +kernel
theorem d_M_find_47 : decode b_M_find 47 = .ok (.if_icmp .ge 8, 3) := by decide +kernel
theorem d_M_find_50 : decode b_M_find 50 = .ok (.iload 4, 2) := by decide +kernel
theorem d_M_find_52 : decode b_M_find 52 = .ok (.goto 12, 3) := by decide +kernel
theorem d_M_find_55 : decode b_M_find 55 = .ok (.bipush 48, 2) := by decide +kernel
theorem d_M_find_57 : decode b_M_find 57 = .ok (.iload 4, 2) := by decide +kernel
theorem d_M_find_59 : decode b_M_find 59 = .ok (.iadd, 1) := by decide +kernel
theorem d_M_find_60 : decode b_M_find 60 = .ok (.goto 4, 3) := by decide +kernel
theorem d_M_find_63 : decode b_M_find 63 = .ok (.iload_n 3, 1) := by decide +kernel
theorem d_M_find_64 : decode b_M_find 64 = .ok (.istore_n 3, 1) := by decide +kernel
theorem d_M_find_65 : decode b_M_find 65 = .ok (.iinc 4 1, 3) := by decide +kernel
theorem d_M_find_68 : decode b_M_find 68 = .ok (.goto (-49), 3) := by decide +kernel
theorem d_M_find_71 : decode b_M_find 71 = .ok (.iload_n 3, 1) := by decide +kernel
theorem d_M_find_72 : decode b_M_find 72 = .ok (.ireturn, 1) := by decide +kernel
def wq_M_find_64 (post : Int32 → StM → Prop) (k19 : StM → Int64 → Int32 → Int32 → Prop) (S : StM) (x1 : Int64) (x4 : Int32) (t0 : Int32) : Prop :=
  k19 S (x1) (t0) ((x4 + 1))
def wq_M_find_19 (post : Int32 → StM → Prop)  : Nat → StM → Int64 → Int32 → Int32 → Prop
  | 0, _, _, _, _ => False
  | n19 + 1, S, x1, x3, x4 =>
    (((52 + (S.1 20)) ≤ x4) → post (x3) S) ∧ (¬ ((52 + (S.1 20)) ≤ x4) → (vp_in x4 77) ∧ ((((lg_cmp (S.2.2 (Int32.toNatClampNeg (x4))) x1) = 0) → ((52 ≤ x4) → wq_M_find_64 post (wq_M_find_19 post  n19) S (x1) (x4) ((48 + x4))) ∧ (¬ (52 ≤ x4) → wq_M_find_64 post (wq_M_find_19 post  n19) S (x1) (x4) (x4))) ∧ (¬ ((lg_cmp (S.2.2 (Int32.toNatClampNeg (x4))) x1) = 0) → wq_M_find_64 post (wq_M_find_19 post  n19) S (x1) (x4) (x3))))
def wp_M_find (post : Int32 → StM → Prop) (S : StM)  : Prop :=
  wp_M_isName (fun (r2 : Int32) (S1 : StM) => (((r2 = 0) → post ((-1)) S1) ∧ (¬ (r2 = 0) → wp_M_key (fun (r4 : Int64) (S3 : StM) => (∃ nn : Nat, wq_M_find_19 post  nn S3 (r4) ((-1)) (0))) S1 ))) S 
set_option maxRecDepth 100000 in
set_option maxHeartbeats 4000000 in
theorem c_M_find (l : Launch) (g : Gm) (sz : Nat) (S : StM)  (post : Int32 → StM → Prop) (hw : wp_M_find post S ) : Met l y_M_find (.code y_M_find b_M_find 5 (some .int) :: w_M) (rmM 3 65) (va_Pc [.ref (g.2.2 0)] (PM g sz S)) (va_Qi post (BM g sz) (AM g sz)) 0 0 (AM g sz) := by
  refine ofM_i (by decide) (Nat.le_of_ble_eq_true rfl) (fun p e s m args below meth c Q H locs ls hx hb hml hts hown hK hA kr hl hP hD hS => ?_)
  have hl : lv_has ls 5 [(0, .ref (g.2.2 0))] := hl
  unfold wp_M_find at hw
  have J19 : ∀ (n19 : Nat), ∀ (S : StM) (x1 : Int64) (x3 : Int32) (x4 : Int32) (H : Heap) (locs : List Loc) (ls : Array Slot), wq_M_find_19 post  n19 S x1 x3 x4 → lv_has ls 5 [(0, .ref (g.2.2 0)), (1, .long (x1)), (3, .int (x3)), (4, .int (x4))] → va_P g.1 classes (wM g S) H → va_D (AM g s.heap.size) (wM g S) → va_S (AM g s.heap.size) s.heap H locs → W p l e (rmM 3 65) s m args below meth c H locs 0 0 Q (F0 m 19 ls []) := by
    intro n19
    induction n19 with
    | zero => intro S x1 x3 x4 H locs ls hw; exact hw.elim
    | succ n19 ih19 =>
      have J64 : ∀ (S : StM) (x1 : Int64) (x4 : Int32) (t0 : Int32) (H : Heap) (locs : List Loc) (ls : Array Slot), wq_M_find_64 post (wq_M_find_19 post  n19) S x1 x4 t0 → lv_has ls 5 [(0, .ref (g.2.2 0)), (1, .long (x1)), (4, .int (x4))] → va_P g.1 classes (wM g S) H → va_D (AM g s.heap.size) (wM g S) → va_S (AM g s.heap.size) s.heap H locs → W p l e (rmM 3 65) s m args below meth c H locs 0 0 Q (F0 m 64 ls [.int (t0)]) := by
        intro S x1 x4 t0 H locs ls hw hl hP hD hS
        unfold wq_M_find_64 at hw
        refine lv_istore_n (lv' := [(3, .int (t0)), (0, .ref (g.2.2 0)), (1, .long (x1)), (4, .int (x4))]) hx hb d_M_find_64 rfl hl (by decide) rfl (fun ls hl => ?_)
        refine lv_iinc (k := 3) (v := (x4 + 1)) (lv' := [(4, .int ((x4 + 1))), (3, .int (t0)), (0, .ref (g.2.2 0)), (1, .long (x1))]) hx hb d_M_find_65 hl rfl rfl (by decide) rfl (fun ls hl => ?_)
        refine lv_goto hx hb d_M_find_68 (tgt := 19) (by decide) ?_
        exact ih19 S (x1) (t0) ((x4 + 1)) _ _ _ hw (lv_sub hl [2, 3, 1, 0] rfl) hP hD hS
      intro S x1 x3 x4 H locs ls hw hl hP hD hS
      unfold wq_M_find_19 at hw
      refine lv_iload hx hb d_M_find_19 (lv_at hl 3 rfl) ?_
      refine lv_bipush (v := 52) hx hb d_M_find_21 (by decide) ?_
      refine lv_aload_n hx hb d_M_find_23 rfl (lv_at hl 0 rfl) ?_
      refine gt_M (v := .int ((S.1 20))) hx hb hown hts hK hP 20 (by decide) rfl k_M_126 d_M_find_24 ?_
      refine lv_iadd hx hb d_M_find_27 ?_
      refine lv_icmp_ge hx hb d_M_find_28 (tgt := 71) (by decide) (fun hc => ?_) (fun hc => ?_)
      · have hw := hw.1 hc
        refine lv_iload_n hx hb d_M_find_71 rfl (lv_at hl 2 rfl) ?_
        exact kr (x3) S _ _ _ _ hw hP hD hS d_M_find_72
      · have hw := hw.2 hc
        refine lv_aload_n hx hb d_M_find_31 rfl (lv_at hl 0 rfl) ?_
        refine gt_M (v := .ref (g.2.2 16)) hx hb hown hts hK hP 15 (by decide) rfl k_M_121 d_M_find_32 ?_
        refine lv_iload hx hb d_M_find_35 (lv_at hl 3 rfl) ?_
        obtain ⟨hi, hw⟩ := hw
        refine va_lald (f := S.2.2) hx hb hK hP 6 2 rfl rfl hi d_M_find_37 ?_
        refine lv_lload_n hx hb d_M_find_38 rfl (lv_at hl 1 rfl) ?_
        refine W.lcmp hx hb d_M_find_39 ?_
        refine lv_if_ne hx hb d_M_find_40 (tgt := 63) (by decide) (fun hc => ?_) (fun hc => ?_)
        · have hw := hw.2 hc
          refine lv_iload_n hx hb d_M_find_63 rfl (lv_at hl 2 rfl) ?_
          exact J64 S (x1) (x4) (x3) _ _ _ hw (lv_sub hl [0, 1, 3] rfl) hP hD hS
        · have hw := hw.1 hc
          refine lv_iload hx hb d_M_find_43 (lv_at hl 3 rfl) ?_
          refine lv_bipush (v := 52) hx hb d_M_find_45 (by decide) ?_
          refine lv_icmp_ge hx hb d_M_find_47 (tgt := 55) (by decide) (fun hc => ?_) (fun hc => ?_)
          · have hw := hw.1 hc
            refine lv_bipush (v := 48) hx hb d_M_find_55 (by decide) ?_
            refine lv_iload hx hb d_M_find_57 (lv_at hl 3 rfl) ?_
            refine lv_iadd hx hb d_M_find_59 ?_
            refine lv_goto hx hb d_M_find_60 (tgt := 64) (by decide) ?_
            exact J64 S (x1) (x4) ((48 + x4)) _ _ _ hw (lv_sub hl [0, 1, 3] rfl) hP hD hS
          · have hw := hw.2 hc
            refine lv_iload hx hb d_M_find_50 (lv_at hl 3 rfl) ?_
            refine lv_goto hx hb d_M_find_52 (tgt := 64) (by decide) ?_
            exact J64 S (x1) (x4) (x4) _ _ _ hw (lv_sub hl [0, 1, 3] rfl) hP hD hS
  refine lv_aload_n hx hb d_M_find_0 rfl (lv_at hl 0 rfl) ?_
  refine cM_i (As := []) (rest := []) hx hb hml hown hts hK hP hD hS hA (Nat.zero_le _) (Nat.zero_le _) hl.1 (q_M_isName hts ⟨Nat.le_of_ble_eq_true rfl, Nat.le_of_ble_eq_true rfl⟩) (c_M_isName l g H.size _  _ hw) rfl rfl (Nat.le_of_ble_eq_true rfl) d_M_find_1 (fun r2 S1 H locs hw hP hD hS => ?_)
  refine lv_if_ne hx hb d_M_find_4 (tgt := 9) (by decide) (fun hc => ?_) (fun hc => ?_)
  · have hw := hw.2 hc
    refine lv_aload_n hx hb d_M_find_9 rfl (lv_at hl 0 rfl) ?_
    refine cM_l (As := []) (rest := []) hx hb hml hown hts hK hP hD hS hA (Nat.zero_le _) (Nat.zero_le _) hl.1 (q_M_key hts ⟨Nat.le_of_ble_eq_true rfl, Nat.le_of_ble_eq_true rfl⟩) (c_M_key l g H.size _  _ hw) rfl rfl (Nat.le_of_ble_eq_true rfl) d_M_find_10 (fun r4 S3 H locs hw hP hD hS => ?_)
    refine lv_lstore_n (lv' := [(1, .long (r4)), (0, .ref (g.2.2 0))]) hx hb d_M_find_13 rfl hl (by decide) rfl (fun ls hl => ?_)
    refine lv_iconst (v := -1) hx hb d_M_find_14 (by decide) ?_
    refine lv_istore_n (lv' := [(3, .int ((-1))), (1, .long (r4)), (0, .ref (g.2.2 0))]) hx hb d_M_find_15 rfl hl (by decide) rfl (fun ls hl => ?_)
    refine lv_iconst (v := 0) hx hb d_M_find_16 (by decide) ?_
    refine lv_istore (lv' := [(4, .int (0)), (3, .int ((-1))), (1, .long (r4)), (0, .ref (g.2.2 0))]) hx hb d_M_find_17 hl (by decide) rfl (fun ls hl => ?_)
    obtain ⟨nn, hw⟩ := hw
    exact J19 nn S3 (r4) ((-1)) (0) _ _ _ hw (lv_sub hl [3, 2, 1, 0] rfl) hP hD hS
  · have hw := hw.1 hc
    refine lv_iconst (v := -1) hx hb d_M_find_7 (by decide) ?_
    exact kr ((-1)) S1 _ _ _ _ hw hP hD hS d_M_find_8
theorem d_M_arithmetic_0 : decode b_M_arithmetic 0 = .ok (.aload_n 0, 1) := by decide +kernel
theorem d_M_arithmetic_1 : decode b_M_arithmetic 1 = .ok (.iconst 2, 1) := by decide +kernel
theorem d_M_arithmetic_2 : decode b_M_arithmetic 2 = .ok (.invokevirtual 230, 3) := by decide +kernel
theorem d_M_arithmetic_5 : decode b_M_arithmetic 5 = .ok (.ifCond .ne 4, 3) := by decide +kernel
theorem d_M_arithmetic_8 : decode b_M_arithmetic 8 = .ok (.return_, 1) := by decide +kernel
theorem d_M_arithmetic_9 : decode b_M_arithmetic 9 = .ok (.aload_n 0, 1) := by decide +kernel
theorem d_M_arithmetic_10 : decode b_M_arithmetic 10 = .ok (.iconst 0, 1) := by decide +kernel
theorem d_M_arithmetic_11 : decode b_M_arithmetic 11 = .ok (.invokevirtual 234, 3) := by decide +kernel
theorem d_M_arithmetic_14 : decode b_M_arithmetic 14 = .ok (.istore_n 2, 1) := by decide +kernel
theorem d_M_arithmetic_15 : decode b_M_arithmetic 15 = .ok (.aload_n 0, 1) := by decide +kernel
theorem d_M_arithmetic_16 : decode b_M_arithmetic 16 = .ok (.iconst 1, 1) := by decide +kernel
theorem d_M_arithmetic_17 : decode b_M_arithmetic 17 = .ok (.invokevirtual 234, 3) := by decide +kernel
theorem d_M_arithmetic_20 : decode b_M_arithmetic 20 = .ok (.istore_n 3, 1) := by decide +kernel
theorem d_M_arithmetic_21 : decode b_M_arithmetic 21 = .ok (.iload_n 1, 1) := by decide +kernel
theorem d_M_arithmetic_22 : decode b_M_arithmetic 22 = .ok (.iconst 3, 1) := by decide +kernel
theorem d_M_arithmetic_23 : decode b_M_arithmetic 23 = .ok (.iconst 4, 1) := by decide +kernel
theorem d_M_arithmetic_24 : decode b_M_arithmetic 24 = .ok (.invokestatic 212, 3) := by decide +kernel
theorem d_M_arithmetic_27 : decode b_M_arithmetic 27 = .ok (.ifCond .eq 13, 3) := by decide +kernel
theorem d_M_arithmetic_30 : decode b_M_arithmetic 30 = .ok (.iload_n 2, 1) := by decide +kernel
theorem d_M_arithmetic_31 : decode b_M_arithmetic 31 = .ok (.ifCond .ne 9, 3) := by decide +kernel
theorem d_M_arithmetic_34 : decode b_M_arithmetic 34 = .ok (.aload_n 0, 1) := by decide +kernel
theorem d_M_arithmetic_35 : decode b_M_arithmetic 35 = .ok (.iconst 4, 1) := by decide +kernel
theorem d_M_arithmetic_36 : decode b_M_arithmetic 36 = .ok (.invokevirtual 196, 3) := by decide +kernel
theorem d_M_arithmetic_39 : decode b_M_arithmetic 39 = .ok (.return_, 1) := by decide +kernel
theorem d_M_arithmetic_40 : decode b_M_arithmetic 40 = .ok (.aload_n 0, 1) := by decide +kernel
theorem d_M_arithmetic_41 : decode b_M_arithmetic 41 = .ok (.aload_n 0, 1) := by decide +kernel
theorem d_M_arithmetic_42 : decode b_M_arithmetic 42 = .ok (.getfield 193, 3) := by decide +kernel
theorem d_M_arithmetic_45 : decode b_M_arithmetic 45 = .ok (.iconst 2, 1) := by decide +kernel
theorem d_M_arithmetic_46 : decode b_M_arithmetic 46 = .ok (.isub, 1) := by decide +kernel
theorem d_M_arithmetic_47 : decode b_M_arithmetic 47 = .ok (.putfield 193, 3) := by decide +kernel
theorem d_M_arithmetic_50 : decode b_M_arithmetic 50 = .ok (.iconst 0, 1) := by decide +kernel
theorem d_M_arithmetic_51 : decode b_M_arithmetic 51 = .ok (.istore 4, 2) := by decide +kernel
theorem d_M_arithmetic_53 : decode b_M_arithmetic 53 = .ok (.iload_n 1, 1) := by decide +kernel
theorem d_M_arithmetic_54 : decode b_M_arithmetic 54 = .ok (.ifCond .ne 8, 3) := by decide +kernel
theorem d_M_arithmetic_57 : decode b_M_arithmetic 57 = .ok (.iload_n 3, 1) := by decide +kernel
theorem d_M_arithmetic_58 : decode b_M_arithmetic 58 = .ok (.iload_n 2, 1) := by decide +kernel
theorem d_M_arithmetic_59 : decode b_M_arithmetic 59 = .ok (.iadd, 1) := by decide +kernel
theorem d_M_arithmetic_60 : decode b_M_arithmetic 60 = .ok (.istore 4, 2) := by decide +kernel
theorem d_M_arithmetic_62 : decode b_M_arithmetic 62 = .ok (.iload_n 1, 1) := by decide +kernel
theorem d_M_arithmetic_63 : decode b_M_arithmetic 63 = .ok (.iconst 1, 1) := by decide +kernel
theorem d_M_arithmetic_64 : decode b_M_arithmetic 64 = .ok (.if_icmp .ne 8, 3) := by decide +kernel
theorem d_M_arithmetic_67 : decode b_M_arithmetic 67 = .ok (.iload_n 3, 1) := by decide +kernel
theorem d_M_arithmetic_68 : decode b_M_arithmetic 68 = .ok (.iload_n 2, 1) := by decide +kernel
theorem d_M_arithmetic_69 : decode b_M_arithmetic 69 = .ok (.isub, 1) := by decide +kernel
theorem d_M_arithmetic_70 : decode b_M_arithmetic 70 = .ok (.istore 4, 2) := by decide +kernel
theorem d_M_arithmetic_72 : decode b_M_arithmetic 72 = .ok (.iload_n 1, 1) := by decide +kernel
theorem d_M_arithmetic_73 : decode b_M_arithmetic 73 = .ok (.iconst 2, 1) := by decide +kernel
theorem d_M_arithmetic_74 : decode b_M_arithmetic 74 = .ok (.if_icmp .ne 8, 3) := by decide +kernel
theorem d_M_arithmetic_77 : decode b_M_arithmetic 77 = .ok (.iload_n 3, 1) := by decide +kernel
theorem d_M_arithmetic_78 : decode b_M_arithmetic 78 = .ok (.iload_n 2, 1) := by decide +kernel
theorem d_M_arithmetic_79 : decode b_M_arithmetic 79 = .ok (.imul, 1) := by decide +kernel
theorem d_M_arithmetic_80 : decode b_M_arithmetic 80 = .ok (.istore 4, 2) := by decide +kernel
theorem d_M_arithmetic_82 : decode b_M_arithmetic 82 = .ok (.iload_n 1, 1) := by decide +kernel
theorem d_M_arithmetic_83 : decode b_M_arithmetic 83 = .ok (.iconst 3, 1) := by decide +kernel
theorem d_M_arithmetic_84 : decode b_M_arithmetic 84 = .ok (.if_icmp .ne 8, 3) := by decide +kernel
theorem d_M_arithmetic_87 : decode b_M_arithmetic 87 = .ok (.iload_n 3, 1) := by decide +kernel
theorem d_M_arithmetic_88 : decode b_M_arithmetic 88 = .ok (.iload_n 2, 1) := by decide +kernel
theorem d_M_arithmetic_89 : decode b_M_arithmetic 89 = .ok (.idiv, 1) := by decide +kernel
theorem d_M_arithmetic_90 : decode b_M_arithmetic 90 = .ok (.istore 4, 2) := by decide +kernel
theorem d_M_arithmetic_92 : decode b_M_arithmetic 92 = .ok (.iload_n 1, 1) := by decide +kernel
theorem d_M_arithmetic_93 : decode b_M_arithmetic 93 = .ok (.iconst 4, 1) := by decide +kernel
theorem d_M_arithmetic_94 : decode b_M_arithmetic 94 = .ok (.if_icmp .ne 8, 3) := by decide +kernel
theorem d_M_arithmetic_97 : decode b_M_arithmetic 97 = .ok (.iload_n 3, 1) := by decide +kernel
theorem d_M_arithmetic_98 : decode b_M_arithmetic 98 = .ok (.iload_n 2, 1) := by decide +kernel
theorem d_M_arithmetic_99 : decode b_M_arithmetic 99 = .ok (.irem, 1) := by decide +kernel
theorem d_M_arithmetic_100 : decode b_M_arithmetic 100 = .ok (.istore 4, 2) := by decide +kernel
theorem d_M_arithmetic_102 : decode b_M_arithmetic 102 = .ok (.iload_n 1, 1) := by decide +kernel
theorem d_M_arithmetic_103 : decode b_M_arithmetic 103 = .ok (.iconst 5, 1) := by decide +kernel
theorem d_M_arithmetic_104 : decode b_M_arithmetic 104 = .ok (.if_icmp .ne 8, 3) := by decide +kernel
theorem d_M_arithmetic_107 : decode b_M_arithmetic 107 = .ok (.iload_n 3, 1) := by decide +kernel
theorem d_M_arithmetic_108 : decode b_M_arithmetic 108 = .ok (.iload_n 2, 1) := by decide +kernel
theorem d_M_arithmetic_109 : decode b_M_arithmetic 109 = .ok (.iand, 1) := by decide +kernel
theorem d_M_arithmetic_110 : decode b_M_arithmetic 110 = .ok (.istore 4, 2) := by decide +kernel
theorem d_M_arithmetic_112 : decode b_M_arithmetic 112 = .ok (.iload_n 1, 1) := by decide +kernel
theorem d_M_arithmetic_113 : decode b_M_arithmetic 113 = .ok (.bipush 6, 2) := by decide +kernel
theorem d_M_arithmetic_115 : decode b_M_arithmetic 115 = .ok (.if_icmp .ne 8, 3) := by decide +kernel
theorem d_M_arithmetic_118 : decode b_M_arithmetic 118 = .ok (.iload_n 3, 1) := by decide +kernel
theorem d_M_arithmetic_119 : decode b_M_arithmetic 119 = .ok (.iload_n 2, 1) := by decide +kernel
theorem d_M_arithmetic_120 : decode b_M_arithmetic 120 = .ok (.ior, 1) := by decide +kernel
theorem d_M_arithmetic_121 : decode b_M_arithmetic 121 = .ok (.istore 4, 2) := by decide +kernel
theorem d_M_arithmetic_123 : decode b_M_arithmetic 123 = .ok (.iload_n 1, 1) := by decide +kernel
theorem d_M_arithmetic_124 : decode b_M_arithmetic 124 = .ok (.bipush 7, 2) := by decide +kernel
theorem d_M_arithmetic_126 : decode b_M_arithmetic 126 = .ok (.if_icmp .ne 8, 3) := by decide +kernel
theorem d_M_arithmetic_129 : decode b_M_arithmetic 129 = .ok (.iload_n 3, 1) := by decide +kernel
theorem d_M_arithmetic_130 : decode b_M_arithmetic 130 = .ok (.iload_n 2, 1) := by decide +kernel
theorem d_M_arithmetic_131 : decode b_M_arithmetic 131 = .ok (.ixor, 1) := by decide +kernel
theorem d_M_arithmetic_132 : decode b_M_arithmetic 132 = .ok (.istore 4, 2) := by decide +kernel
theorem d_M_arithmetic_134 : decode b_M_arithmetic 134 = .ok (.iload_n 1, 1) := by decide +kernel
theorem d_M_arithmetic_135 : decode b_M_arithmetic 135 = .ok (.bipush 8, 2) := by decide +kernel
theorem d_M_arithmetic_137 : decode b_M_arithmetic 137 = .ok (.if_icmp .ne 8, 3) := by decide +kernel
theorem d_M_arithmetic_140 : decode b_M_arithmetic 140 = .ok (.iload_n 3, 1) := by decide +kernel
theorem d_M_arithmetic_141 : decode b_M_arithmetic 141 = .ok (.iload_n 2, 1) := by decide +kernel
theorem d_M_arithmetic_142 : decode b_M_arithmetic 142 = .ok (.if_icmp .eq 14, 3) := by decide +kernel
theorem d_M_arithmetic_145 : decode b_M_arithmetic 145 = .ok (.iload_n 1, 1) := by decide +kernel
theorem d_M_arithmetic_146 : decode b_M_arithmetic 146 = .ok (.bipush 9, 2) := by decide +kernel
theorem d_M_arithmetic_148 : decode b_M_arithmetic 148 = .ok (.if_icmp .ne 11, 3) := by decide +kernel
theorem d_M_arithmetic_151 : decode b_M_arithmetic 151 = .ok (.iload_n 3, 1) := by decide +kernel
theorem d_M_arithmetic_152 : decode b_M_arithmetic 152 = .ok (.iload_n 2, 1) := by decide +kernel
theorem d_M_arithmetic_153 : decode b_M_arithmetic 153 = .ok (.if_icmp .ge 6, 3) := by decide +kernel
theorem d_M_arithmetic_156 : decode b_M_arithmetic 156 = .ok (.iconst (-1), 1) := by decide +kernel
theorem d_M_arithmetic_157 : decode b_M_arithmetic 157 = .ok (.istore 4, 2) := by decide +kernel
theorem d_M_arithmetic_159 : decode b_M_arithmetic 159 = .ok (.aload_n 0, 1) := by decide +kernel
theorem d_M_arithmetic_160 : decode b_M_arithmetic 160 = .ok (.iload 4, 2) := by decide +kernel
theorem d_M_arithmetic_162 : decode b_M_arithmetic 162 = .ok (.invokevirtual 238, 3) := by decide +kernel
theorem d_M_arithmetic_165 : decode b_M_arithmetic 165 = .ok (.return_, 1) := by decide +kernel
def wq_M_arithmetic_159 (post : StM → Prop)  (S : StM) (x4 : Int32) : Prop :=
  wp_M_push (fun S1 : StM => (post S1)) S (x4)
def wq_M_arithmetic_156 (post : StM → Prop)  (S : StM)  : Prop :=
  wq_M_arithmetic_159 post  S ((-1))
def wq_M_arithmetic_145 (post : StM → Prop)  (S : StM) (x1 : Int32) (x2 : Int32) (x3 : Int32) (x4 : Int32) : Prop :=
  ((x1 = 9) → ((x2 ≤ x3) → wq_M_arithmetic_159 post  S (x4)) ∧ (¬ (x2 ≤ x3) → wq_M_arithmetic_156 post  S )) ∧ (¬ (x1 = 9) → wq_M_arithmetic_159 post  S (x4))
def wq_M_arithmetic_134 (post : StM → Prop)  (S : StM) (x1 : Int32) (x2 : Int32) (x3 : Int32) (x4 : Int32) : Prop :=
  ((x1 = 8) → ((x3 = x2) → wq_M_arithmetic_156 post  S ) ∧ (¬ (x3 = x2) → wq_M_arithmetic_145 post  S (x1) (x2) (x3) (x4))) ∧ (¬ (x1 = 8) → wq_M_arithmetic_145 post  S (x1) (x2) (x3) (x4))
def wq_M_arithmetic_123 (post : StM → Prop)  (S : StM) (x1 : Int32) (x2 : Int32) (x3 : Int32) (x4 : Int32) : Prop :=
  ((x1 = 7) → wq_M_arithmetic_134 post  S (x1) (x2) (x3) ((x3 ^^^ x2))) ∧ (¬ (x1 = 7) → wq_M_arithmetic_134 post  S (x1) (x2) (x3) (x4))
def wq_M_arithmetic_112 (post : StM → Prop)  (S : StM) (x1 : Int32) (x2 : Int32) (x3 : Int32) (x4 : Int32) : Prop :=
  ((x1 = 6) → wq_M_arithmetic_123 post  S (x1) (x2) (x3) ((x3 ||| x2))) ∧ (¬ (x1 = 6) → wq_M_arithmetic_123 post  S (x1) (x2) (x3) (x4))
def wq_M_arithmetic_102 (post : StM → Prop)  (S : StM) (x1 : Int32) (x2 : Int32) (x3 : Int32) (x4 : Int32) : Prop :=
  ((x1 = 5) → wq_M_arithmetic_112 post  S (x1) (x2) (x3) ((x3 &&& x2))) ∧ (¬ (x1 = 5) → wq_M_arithmetic_112 post  S (x1) (x2) (x3) (x4))
def wq_M_arithmetic_92 (post : StM → Prop)  (S : StM) (x1 : Int32) (x2 : Int32) (x3 : Int32) (x4 : Int32) : Prop :=
  ((x1 = 4) → (¬ x2 = 0) ∧ (wq_M_arithmetic_102 post  S (x1) (x2) (x3) ((x3 - x3 / x2 * x2)))) ∧ (¬ (x1 = 4) → wq_M_arithmetic_102 post  S (x1) (x2) (x3) (x4))
def wq_M_arithmetic_82 (post : StM → Prop)  (S : StM) (x1 : Int32) (x2 : Int32) (x3 : Int32) (x4 : Int32) : Prop :=
  ((x1 = 3) → (¬ x2 = 0) ∧ (wq_M_arithmetic_92 post  S (x1) (x2) (x3) ((x3 / x2)))) ∧ (¬ (x1 = 3) → wq_M_arithmetic_92 post  S (x1) (x2) (x3) (x4))
def wq_M_arithmetic_72 (post : StM → Prop)  (S : StM) (x1 : Int32) (x2 : Int32) (x3 : Int32) (x4 : Int32) : Prop :=
  ((x1 = 2) → wq_M_arithmetic_82 post  S (x1) (x2) (x3) ((x3 * x2))) ∧ (¬ (x1 = 2) → wq_M_arithmetic_82 post  S (x1) (x2) (x3) (x4))
def wq_M_arithmetic_62 (post : StM → Prop)  (S : StM) (x1 : Int32) (x2 : Int32) (x3 : Int32) (x4 : Int32) : Prop :=
  ((x1 = 1) → wq_M_arithmetic_72 post  S (x1) (x2) (x3) ((x3 - x2))) ∧ (¬ (x1 = 1) → wq_M_arithmetic_72 post  S (x1) (x2) (x3) (x4))
def wq_M_arithmetic_40 (post : StM → Prop)  (S : StM) (x1 : Int32) (x2 : Int32) (x3 : Int32) : Prop :=
  ((x1 = 0) → wq_M_arithmetic_62 post  ((upd S.1 6 (((S.1 6) - 2))), S.2) (x1) (x2) (x3) ((x3 + x2))) ∧ (¬ (x1 = 0) → wq_M_arithmetic_62 post  ((upd S.1 6 (((S.1 6) - 2))), S.2) (x1) (x2) (x3) (0))
def wp_M_arithmetic (post : StM → Prop) (S : StM) (a0 : Int32) : Prop :=
  wp_M_needs (fun (r3 : Int32) (S2 : StM) => (((r3 = 0) → post S2) ∧ (¬ (r3 = 0) → wp_M_top (fun (r5 : Int32) (S4 : StM) => (wp_M_top (fun (r7 : Int32) (S6 : StM) => (wp_M_in (fun (r9 : Int32) (S8 : StM) => (((r9 = 0) → wq_M_arithmetic_40 post  S8 (a0) (r5) (r7)) ∧ (¬ (r9 = 0) → ((r5 = 0) → wp_M_fail (fun S10 : StM => (post S10)) S8 (4)) ∧ (¬ (r5 = 0) → wq_M_arithmetic_40 post  S8 (a0) (r5) (r7))))) S6 (a0) (3) (4))) S4 (1))) S2 (0)))) S (2)
set_option maxRecDepth 100000 in
set_option maxHeartbeats 4000000 in
theorem c_M_arithmetic (l : Launch) (g : Gm) (sz : Nat) (S : StM) (a0 : Int32) (post : StM → Prop) (hw : wp_M_arithmetic post S a0) : Met l y_M_arithmetic (.code y_M_arithmetic b_M_arithmetic 5 none :: w_M) (rmM 2 42) (va_Pc [.ref (g.2.2 0), .int (a0)] (PM g sz S)) (va_Qv post (BM g sz) (AM g sz)) 0 0 (AM g sz) := by
  refine ofM_v (by decide) (Nat.le_of_ble_eq_true rfl) (fun p e s m args below meth c Q H locs ls hx hb hml hts hown hK hA kr hl hP hD hS => ?_)
  have hl : lv_has ls 5 [(0, .ref (g.2.2 0)), (1, .int (a0))] := hl
  unfold wp_M_arithmetic at hw
  have J159 : ∀ (S : StM) (x4 : Int32) (H : Heap) (locs : List Loc) (ls : Array Slot), wq_M_arithmetic_159 post  S x4 → lv_has ls 5 [(0, .ref (g.2.2 0)), (4, .int (x4))] → va_P g.1 classes (wM g S) H → va_D (AM g s.heap.size) (wM g S) → va_S (AM g s.heap.size) s.heap H locs → W p l e (rmM 2 42) s m args below meth c H locs 0 0 Q (F0 m 159 ls []) := by
    intro S x4 H locs ls hw hl hP hD hS
    unfold wq_M_arithmetic_159 at hw
    refine lv_aload_n hx hb d_M_arithmetic_159 rfl (lv_at hl 0 rfl) ?_
    refine lv_iload hx hb d_M_arithmetic_160 (lv_at hl 1 rfl) ?_
    refine cM_v (As := [.int (x4)]) (rest := []) hx hb hml hown hts hK hP hD hS hA (Nat.zero_le _) (Nat.zero_le _) hl.1 (q_M_push hts ⟨Nat.le_of_ble_eq_true rfl, Nat.le_of_ble_eq_true rfl⟩) (c_M_push l g H.size _ (x4) _ hw) rfl rfl (Nat.le_of_ble_eq_true rfl) d_M_arithmetic_162 (fun S1 H locs hw hP hD hS => ?_)
    exact kr S1 _ _ _ _ hw hP hD hS d_M_arithmetic_165
  have J156 : ∀ (S : StM)  (H : Heap) (locs : List Loc) (ls : Array Slot), wq_M_arithmetic_156 post  S  → lv_has ls 5 [(0, .ref (g.2.2 0))] → va_P g.1 classes (wM g S) H → va_D (AM g s.heap.size) (wM g S) → va_S (AM g s.heap.size) s.heap H locs → W p l e (rmM 2 42) s m args below meth c H locs 0 0 Q (F0 m 156 ls []) := by
    intro S  H locs ls hw hl hP hD hS
    unfold wq_M_arithmetic_156 at hw
    refine lv_iconst (v := -1) hx hb d_M_arithmetic_156 (by decide) ?_
    refine lv_istore (lv' := [(4, .int ((-1))), (0, .ref (g.2.2 0))]) hx hb d_M_arithmetic_157 hl (by decide) rfl (fun ls hl => ?_)
    exact J159 S ((-1)) _ _ _ hw (lv_sub hl [1, 0] rfl) hP hD hS
  have J145 : ∀ (S : StM) (x1 : Int32) (x2 : Int32) (x3 : Int32) (x4 : Int32) (H : Heap) (locs : List Loc) (ls : Array Slot), wq_M_arithmetic_145 post  S x1 x2 x3 x4 → lv_has ls 5 [(0, .ref (g.2.2 0)), (1, .int (x1)), (2, .int (x2)), (3, .int (x3)), (4, .int (x4))] → va_P g.1 classes (wM g S) H → va_D (AM g s.heap.size) (wM g S) → va_S (AM g s.heap.size) s.heap H locs → W p l e (rmM 2 42) s m args below meth c H locs 0 0 Q (F0 m 145 ls []) := by
    intro S x1 x2 x3 x4 H locs ls hw hl hP hD hS
    unfold wq_M_arithmetic_145 at hw
    refine lv_iload_n hx hb d_M_arithmetic_145 rfl (lv_at hl 1 rfl) ?_
    refine lv_bipush (v := 9) hx hb d_M_arithmetic_146 (by decide) ?_
    refine lv_icmp_ne hx hb d_M_arithmetic_148 (tgt := 159) (by decide) (fun hc => ?_) (fun hc => ?_)
    · have hw := hw.2 hc
      exact J159 S (x4) _ _ _ hw (lv_sub hl [0, 4] rfl) hP hD hS
    · have hw := hw.1 hc
      refine lv_iload_n hx hb d_M_arithmetic_151 rfl (lv_at hl 3 rfl) ?_
      refine lv_iload_n hx hb d_M_arithmetic_152 rfl (lv_at hl 2 rfl) ?_
      refine lv_icmp_ge hx hb d_M_arithmetic_153 (tgt := 159) (by decide) (fun hc => ?_) (fun hc => ?_)
      · have hw := hw.1 hc
        exact J159 S (x4) _ _ _ hw (lv_sub hl [0, 4] rfl) hP hD hS
      · have hw := hw.2 hc
        exact J156 S  _ _ _ hw (lv_sub hl [0] rfl) hP hD hS
  have J134 : ∀ (S : StM) (x1 : Int32) (x2 : Int32) (x3 : Int32) (x4 : Int32) (H : Heap) (locs : List Loc) (ls : Array Slot), wq_M_arithmetic_134 post  S x1 x2 x3 x4 → lv_has ls 5 [(0, .ref (g.2.2 0)), (1, .int (x1)), (2, .int (x2)), (3, .int (x3)), (4, .int (x4))] → va_P g.1 classes (wM g S) H → va_D (AM g s.heap.size) (wM g S) → va_S (AM g s.heap.size) s.heap H locs → W p l e (rmM 2 42) s m args below meth c H locs 0 0 Q (F0 m 134 ls []) := by
    intro S x1 x2 x3 x4 H locs ls hw hl hP hD hS
    unfold wq_M_arithmetic_134 at hw
    refine lv_iload_n hx hb d_M_arithmetic_134 rfl (lv_at hl 1 rfl) ?_
    refine lv_bipush (v := 8) hx hb d_M_arithmetic_135 (by decide) ?_
    refine lv_icmp_ne hx hb d_M_arithmetic_137 (tgt := 145) (by decide) (fun hc => ?_) (fun hc => ?_)
    · have hw := hw.2 hc
      exact J145 S (x1) (x2) (x3) (x4) _ _ _ hw (lv_sub hl [0, 1, 2, 3, 4] rfl) hP hD hS
    · have hw := hw.1 hc
      refine lv_iload_n hx hb d_M_arithmetic_140 rfl (lv_at hl 3 rfl) ?_
      refine lv_iload_n hx hb d_M_arithmetic_141 rfl (lv_at hl 2 rfl) ?_
      refine lv_icmp_eq hx hb d_M_arithmetic_142 (tgt := 156) (by decide) (fun hc => ?_) (fun hc => ?_)
      · have hw := hw.1 hc
        exact J156 S  _ _ _ hw (lv_sub hl [0] rfl) hP hD hS
      · have hw := hw.2 hc
        exact J145 S (x1) (x2) (x3) (x4) _ _ _ hw (lv_sub hl [0, 1, 2, 3, 4] rfl) hP hD hS
  have J123 : ∀ (S : StM) (x1 : Int32) (x2 : Int32) (x3 : Int32) (x4 : Int32) (H : Heap) (locs : List Loc) (ls : Array Slot), wq_M_arithmetic_123 post  S x1 x2 x3 x4 → lv_has ls 5 [(0, .ref (g.2.2 0)), (1, .int (x1)), (2, .int (x2)), (3, .int (x3)), (4, .int (x4))] → va_P g.1 classes (wM g S) H → va_D (AM g s.heap.size) (wM g S) → va_S (AM g s.heap.size) s.heap H locs → W p l e (rmM 2 42) s m args below meth c H locs 0 0 Q (F0 m 123 ls []) := by
    intro S x1 x2 x3 x4 H locs ls hw hl hP hD hS
    unfold wq_M_arithmetic_123 at hw
    refine lv_iload_n hx hb d_M_arithmetic_123 rfl (lv_at hl 1 rfl) ?_
    refine lv_bipush (v := 7) hx hb d_M_arithmetic_124 (by decide) ?_
    refine lv_icmp_ne hx hb d_M_arithmetic_126 (tgt := 134) (by decide) (fun hc => ?_) (fun hc => ?_)
    · have hw := hw.2 hc
      exact J134 S (x1) (x2) (x3) (x4) _ _ _ hw (lv_sub hl [0, 1, 2, 3, 4] rfl) hP hD hS
    · have hw := hw.1 hc
      refine lv_iload_n hx hb d_M_arithmetic_129 rfl (lv_at hl 3 rfl) ?_
      refine lv_iload_n hx hb d_M_arithmetic_130 rfl (lv_at hl 2 rfl) ?_
      refine lv_ixor hx hb d_M_arithmetic_131 ?_
      refine lv_istore (lv' := [(4, .int ((x3 ^^^ x2))), (0, .ref (g.2.2 0)), (1, .int (x1)), (2, .int (x2)), (3, .int (x3))]) hx hb d_M_arithmetic_132 hl (by decide) rfl (fun ls hl => ?_)
      exact J134 S (x1) (x2) (x3) ((x3 ^^^ x2)) _ _ _ hw (lv_sub hl [1, 2, 3, 4, 0] rfl) hP hD hS
  have J112 : ∀ (S : StM) (x1 : Int32) (x2 : Int32) (x3 : Int32) (x4 : Int32) (H : Heap) (locs : List Loc) (ls : Array Slot), wq_M_arithmetic_112 post  S x1 x2 x3 x4 → lv_has ls 5 [(0, .ref (g.2.2 0)), (1, .int (x1)), (2, .int (x2)), (3, .int (x3)), (4, .int (x4))] → va_P g.1 classes (wM g S) H → va_D (AM g s.heap.size) (wM g S) → va_S (AM g s.heap.size) s.heap H locs → W p l e (rmM 2 42) s m args below meth c H locs 0 0 Q (F0 m 112 ls []) := by
    intro S x1 x2 x3 x4 H locs ls hw hl hP hD hS
    unfold wq_M_arithmetic_112 at hw
    refine lv_iload_n hx hb d_M_arithmetic_112 rfl (lv_at hl 1 rfl) ?_
    refine lv_bipush (v := 6) hx hb d_M_arithmetic_113 (by decide) ?_
    refine lv_icmp_ne hx hb d_M_arithmetic_115 (tgt := 123) (by decide) (fun hc => ?_) (fun hc => ?_)
    · have hw := hw.2 hc
      exact J123 S (x1) (x2) (x3) (x4) _ _ _ hw (lv_sub hl [0, 1, 2, 3, 4] rfl) hP hD hS
    · have hw := hw.1 hc
      refine lv_iload_n hx hb d_M_arithmetic_118 rfl (lv_at hl 3 rfl) ?_
      refine lv_iload_n hx hb d_M_arithmetic_119 rfl (lv_at hl 2 rfl) ?_
      refine lv_ior hx hb d_M_arithmetic_120 ?_
      refine lv_istore (lv' := [(4, .int ((x3 ||| x2))), (0, .ref (g.2.2 0)), (1, .int (x1)), (2, .int (x2)), (3, .int (x3))]) hx hb d_M_arithmetic_121 hl (by decide) rfl (fun ls hl => ?_)
      exact J123 S (x1) (x2) (x3) ((x3 ||| x2)) _ _ _ hw (lv_sub hl [1, 2, 3, 4, 0] rfl) hP hD hS
  have J102 : ∀ (S : StM) (x1 : Int32) (x2 : Int32) (x3 : Int32) (x4 : Int32) (H : Heap) (locs : List Loc) (ls : Array Slot), wq_M_arithmetic_102 post  S x1 x2 x3 x4 → lv_has ls 5 [(0, .ref (g.2.2 0)), (1, .int (x1)), (2, .int (x2)), (3, .int (x3)), (4, .int (x4))] → va_P g.1 classes (wM g S) H → va_D (AM g s.heap.size) (wM g S) → va_S (AM g s.heap.size) s.heap H locs → W p l e (rmM 2 42) s m args below meth c H locs 0 0 Q (F0 m 102 ls []) := by
    intro S x1 x2 x3 x4 H locs ls hw hl hP hD hS
    unfold wq_M_arithmetic_102 at hw
    refine lv_iload_n hx hb d_M_arithmetic_102 rfl (lv_at hl 1 rfl) ?_
    refine lv_iconst (v := 5) hx hb d_M_arithmetic_103 (by decide) ?_
    refine lv_icmp_ne hx hb d_M_arithmetic_104 (tgt := 112) (by decide) (fun hc => ?_) (fun hc => ?_)
    · have hw := hw.2 hc
      exact J112 S (x1) (x2) (x3) (x4) _ _ _ hw (lv_sub hl [0, 1, 2, 3, 4] rfl) hP hD hS
    · have hw := hw.1 hc
      refine lv_iload_n hx hb d_M_arithmetic_107 rfl (lv_at hl 3 rfl) ?_
      refine lv_iload_n hx hb d_M_arithmetic_108 rfl (lv_at hl 2 rfl) ?_
      refine lv_iand hx hb d_M_arithmetic_109 ?_
      refine lv_istore (lv' := [(4, .int ((x3 &&& x2))), (0, .ref (g.2.2 0)), (1, .int (x1)), (2, .int (x2)), (3, .int (x3))]) hx hb d_M_arithmetic_110 hl (by decide) rfl (fun ls hl => ?_)
      exact J112 S (x1) (x2) (x3) ((x3 &&& x2)) _ _ _ hw (lv_sub hl [1, 2, 3, 4, 0] rfl) hP hD hS
  have J92 : ∀ (S : StM) (x1 : Int32) (x2 : Int32) (x3 : Int32) (x4 : Int32) (H : Heap) (locs : List Loc) (ls : Array Slot), wq_M_arithmetic_92 post  S x1 x2 x3 x4 → lv_has ls 5 [(0, .ref (g.2.2 0)), (1, .int (x1)), (2, .int (x2)), (3, .int (x3)), (4, .int (x4))] → va_P g.1 classes (wM g S) H → va_D (AM g s.heap.size) (wM g S) → va_S (AM g s.heap.size) s.heap H locs → W p l e (rmM 2 42) s m args below meth c H locs 0 0 Q (F0 m 92 ls []) := by
    intro S x1 x2 x3 x4 H locs ls hw hl hP hD hS
    unfold wq_M_arithmetic_92 at hw
    refine lv_iload_n hx hb d_M_arithmetic_92 rfl (lv_at hl 1 rfl) ?_
    refine lv_iconst (v := 4) hx hb d_M_arithmetic_93 (by decide) ?_
    refine lv_icmp_ne hx hb d_M_arithmetic_94 (tgt := 102) (by decide) (fun hc => ?_) (fun hc => ?_)
    · have hw := hw.2 hc
      exact J102 S (x1) (x2) (x3) (x4) _ _ _ hw (lv_sub hl [0, 1, 2, 3, 4] rfl) hP hD hS
    · have hw := hw.1 hc
      refine lv_iload_n hx hb d_M_arithmetic_97 rfl (lv_at hl 3 rfl) ?_
      refine lv_iload_n hx hb d_M_arithmetic_98 rfl (lv_at hl 2 rfl) ?_
      obtain ⟨hne, hw⟩ := hw
      refine lv_irem hx hb d_M_arithmetic_99 hne ?_
      refine lv_istore (lv' := [(4, .int ((x3 - x3 / x2 * x2))), (0, .ref (g.2.2 0)), (1, .int (x1)), (2, .int (x2)), (3, .int (x3))]) hx hb d_M_arithmetic_100 hl (by decide) rfl (fun ls hl => ?_)
      exact J102 S (x1) (x2) (x3) ((x3 - x3 / x2 * x2)) _ _ _ hw (lv_sub hl [1, 2, 3, 4, 0] rfl) hP hD hS
  have J82 : ∀ (S : StM) (x1 : Int32) (x2 : Int32) (x3 : Int32) (x4 : Int32) (H : Heap) (locs : List Loc) (ls : Array Slot), wq_M_arithmetic_82 post  S x1 x2 x3 x4 → lv_has ls 5 [(0, .ref (g.2.2 0)), (1, .int (x1)), (2, .int (x2)), (3, .int (x3)), (4, .int (x4))] → va_P g.1 classes (wM g S) H → va_D (AM g s.heap.size) (wM g S) → va_S (AM g s.heap.size) s.heap H locs → W p l e (rmM 2 42) s m args below meth c H locs 0 0 Q (F0 m 82 ls []) := by
    intro S x1 x2 x3 x4 H locs ls hw hl hP hD hS
    unfold wq_M_arithmetic_82 at hw
    refine lv_iload_n hx hb d_M_arithmetic_82 rfl (lv_at hl 1 rfl) ?_
    refine lv_iconst (v := 3) hx hb d_M_arithmetic_83 (by decide) ?_
    refine lv_icmp_ne hx hb d_M_arithmetic_84 (tgt := 92) (by decide) (fun hc => ?_) (fun hc => ?_)
    · have hw := hw.2 hc
      exact J92 S (x1) (x2) (x3) (x4) _ _ _ hw (lv_sub hl [0, 1, 2, 3, 4] rfl) hP hD hS
    · have hw := hw.1 hc
      refine lv_iload_n hx hb d_M_arithmetic_87 rfl (lv_at hl 3 rfl) ?_
      refine lv_iload_n hx hb d_M_arithmetic_88 rfl (lv_at hl 2 rfl) ?_
      obtain ⟨hne, hw⟩ := hw
      refine lv_idiv hx hb d_M_arithmetic_89 hne ?_
      refine lv_istore (lv' := [(4, .int ((x3 / x2))), (0, .ref (g.2.2 0)), (1, .int (x1)), (2, .int (x2)), (3, .int (x3))]) hx hb d_M_arithmetic_90 hl (by decide) rfl (fun ls hl => ?_)
      exact J92 S (x1) (x2) (x3) ((x3 / x2)) _ _ _ hw (lv_sub hl [1, 2, 3, 4, 0] rfl) hP hD hS
  have J72 : ∀ (S : StM) (x1 : Int32) (x2 : Int32) (x3 : Int32) (x4 : Int32) (H : Heap) (locs : List Loc) (ls : Array Slot), wq_M_arithmetic_72 post  S x1 x2 x3 x4 → lv_has ls 5 [(0, .ref (g.2.2 0)), (1, .int (x1)), (2, .int (x2)), (3, .int (x3)), (4, .int (x4))] → va_P g.1 classes (wM g S) H → va_D (AM g s.heap.size) (wM g S) → va_S (AM g s.heap.size) s.heap H locs → W p l e (rmM 2 42) s m args below meth c H locs 0 0 Q (F0 m 72 ls []) := by
    intro S x1 x2 x3 x4 H locs ls hw hl hP hD hS
    unfold wq_M_arithmetic_72 at hw
    refine lv_iload_n hx hb d_M_arithmetic_72 rfl (lv_at hl 1 rfl) ?_
    refine lv_iconst (v := 2) hx hb d_M_arithmetic_73 (by decide) ?_
    refine lv_icmp_ne hx hb d_M_arithmetic_74 (tgt := 82) (by decide) (fun hc => ?_) (fun hc => ?_)
    · have hw := hw.2 hc
      exact J82 S (x1) (x2) (x3) (x4) _ _ _ hw (lv_sub hl [0, 1, 2, 3, 4] rfl) hP hD hS
    · have hw := hw.1 hc
      refine lv_iload_n hx hb d_M_arithmetic_77 rfl (lv_at hl 3 rfl) ?_
      refine lv_iload_n hx hb d_M_arithmetic_78 rfl (lv_at hl 2 rfl) ?_
      refine lv_imul hx hb d_M_arithmetic_79 ?_
      refine lv_istore (lv' := [(4, .int ((x3 * x2))), (0, .ref (g.2.2 0)), (1, .int (x1)), (2, .int (x2)), (3, .int (x3))]) hx hb d_M_arithmetic_80 hl (by decide) rfl (fun ls hl => ?_)
      exact J82 S (x1) (x2) (x3) ((x3 * x2)) _ _ _ hw (lv_sub hl [1, 2, 3, 4, 0] rfl) hP hD hS
  have J62 : ∀ (S : StM) (x1 : Int32) (x2 : Int32) (x3 : Int32) (x4 : Int32) (H : Heap) (locs : List Loc) (ls : Array Slot), wq_M_arithmetic_62 post  S x1 x2 x3 x4 → lv_has ls 5 [(0, .ref (g.2.2 0)), (1, .int (x1)), (2, .int (x2)), (3, .int (x3)), (4, .int (x4))] → va_P g.1 classes (wM g S) H → va_D (AM g s.heap.size) (wM g S) → va_S (AM g s.heap.size) s.heap H locs → W p l e (rmM 2 42) s m args below meth c H locs 0 0 Q (F0 m 62 ls []) := by
    intro S x1 x2 x3 x4 H locs ls hw hl hP hD hS
    unfold wq_M_arithmetic_62 at hw
    refine lv_iload_n hx hb d_M_arithmetic_62 rfl (lv_at hl 1 rfl) ?_
    refine lv_iconst (v := 1) hx hb d_M_arithmetic_63 (by decide) ?_
    refine lv_icmp_ne hx hb d_M_arithmetic_64 (tgt := 72) (by decide) (fun hc => ?_) (fun hc => ?_)
    · have hw := hw.2 hc
      exact J72 S (x1) (x2) (x3) (x4) _ _ _ hw (lv_sub hl [0, 1, 2, 3, 4] rfl) hP hD hS
    · have hw := hw.1 hc
      refine lv_iload_n hx hb d_M_arithmetic_67 rfl (lv_at hl 3 rfl) ?_
      refine lv_iload_n hx hb d_M_arithmetic_68 rfl (lv_at hl 2 rfl) ?_
      refine lv_isub hx hb d_M_arithmetic_69 ?_
      refine lv_istore (lv' := [(4, .int ((x3 - x2))), (0, .ref (g.2.2 0)), (1, .int (x1)), (2, .int (x2)), (3, .int (x3))]) hx hb d_M_arithmetic_70 hl (by decide) rfl (fun ls hl => ?_)
      exact J72 S (x1) (x2) (x3) ((x3 - x2)) _ _ _ hw (lv_sub hl [1, 2, 3, 4, 0] rfl) hP hD hS
  have J40 : ∀ (S : StM) (x1 : Int32) (x2 : Int32) (x3 : Int32) (H : Heap) (locs : List Loc) (ls : Array Slot), wq_M_arithmetic_40 post  S x1 x2 x3 → lv_has ls 5 [(0, .ref (g.2.2 0)), (1, .int (x1)), (2, .int (x2)), (3, .int (x3))] → va_P g.1 classes (wM g S) H → va_D (AM g s.heap.size) (wM g S) → va_S (AM g s.heap.size) s.heap H locs → W p l e (rmM 2 42) s m args below meth c H locs 0 0 Q (F0 m 40 ls []) := by
    intro S x1 x2 x3 H locs ls hw hl hP hD hS
    unfold wq_M_arithmetic_40 at hw
    refine lv_aload_n hx hb d_M_arithmetic_40 rfl (lv_at hl 0 rfl) ?_
    refine lv_aload_n hx hb d_M_arithmetic_41 rfl (lv_at hl 0 rfl) ?_
    refine gt_M (v := .int ((S.1 6))) hx hb hown hts hK hP 6 (by decide) rfl k_M_112 d_M_arithmetic_42 ?_
    refine lv_iconst (v := 2) hx hb d_M_arithmetic_45 (by decide) ?_
    refine lv_isub hx hb d_M_arithmetic_46 ?_
    refine pt_M (S2 := ((upd S.1 6 (((S.1 6) - 2))), S.2)) (v := .int (((S.1 6) - 2))) hx hb hown hts hK hP hD hS 6 (by decide) rfl rfl rfl (sI_M_6 g _ _) k_M_112 d_M_arithmetic_47 (fun H locs hP hD hS => ?_)
    refine lv_iconst (v := 0) hx hb d_M_arithmetic_50 (by decide) ?_
    refine lv_istore (lv' := [(4, .int (0)), (0, .ref (g.2.2 0)), (1, .int (x1)), (2, .int (x2)), (3, .int (x3))]) hx hb d_M_arithmetic_51 hl (by decide) rfl (fun ls hl => ?_)
    refine lv_iload_n hx hb d_M_arithmetic_53 rfl (lv_at hl 2 rfl) ?_
    refine lv_if_ne hx hb d_M_arithmetic_54 (tgt := 62) (by decide) (fun hc => ?_) (fun hc => ?_)
    · have hw := hw.2 hc
      exact J62 ((upd S.1 6 (((S.1 6) - 2))), S.2) (x1) (x2) (x3) (0) _ _ _ hw (lv_sub hl [1, 2, 3, 4, 0] rfl) hP hD hS
    · have hw := hw.1 hc
      refine lv_iload_n hx hb d_M_arithmetic_57 rfl (lv_at hl 4 rfl) ?_
      refine lv_iload_n hx hb d_M_arithmetic_58 rfl (lv_at hl 3 rfl) ?_
      refine lv_iadd hx hb d_M_arithmetic_59 ?_
      refine lv_istore (lv' := [(4, .int ((x3 + x2))), (0, .ref (g.2.2 0)), (1, .int (x1)), (2, .int (x2)), (3, .int (x3))]) hx hb d_M_arithmetic_60 hl (by decide) rfl (fun ls hl => ?_)
      exact J62 ((upd S.1 6 (((S.1 6) - 2))), S.2) (x1) (x2) (x3) ((x3 + x2)) _ _ _ hw (lv_sub hl [1, 2, 3, 4, 0] rfl) hP hD hS
  refine lv_aload_n hx hb d_M_arithmetic_0 rfl (lv_at hl 0 rfl) ?_
  refine lv_iconst (v := 2) hx hb d_M_arithmetic_1 (by decide) ?_
  refine cM_i (As := [.int (2)]) (rest := []) hx hb hml hown hts hK hP hD hS hA (Nat.zero_le _) (Nat.zero_le _) hl.1 (q_M_needs hts ⟨Nat.le_of_ble_eq_true rfl, Nat.le_of_ble_eq_true rfl⟩) (c_M_needs l g H.size _ (2) _ hw) rfl rfl (Nat.le_of_ble_eq_true rfl) d_M_arithmetic_2 (fun r3 S2 H locs hw hP hD hS => ?_)
  refine lv_if_ne hx hb d_M_arithmetic_5 (tgt := 9) (by decide) (fun hc => ?_) (fun hc => ?_)
  · have hw := hw.2 hc
    refine lv_aload_n hx hb d_M_arithmetic_9 rfl (lv_at hl 0 rfl) ?_
    refine lv_iconst (v := 0) hx hb d_M_arithmetic_10 (by decide) ?_
    refine cM_i (As := [.int (0)]) (rest := []) hx hb hml hown hts hK hP hD hS hA (Nat.zero_le _) (Nat.zero_le _) hl.1 (q_M_top hts ⟨Nat.le_of_ble_eq_true rfl, Nat.le_of_ble_eq_true rfl⟩) (c_M_top l g H.size _ (0) _ hw) rfl rfl (Nat.le_of_ble_eq_true rfl) d_M_arithmetic_11 (fun r5 S4 H locs hw hP hD hS => ?_)
    refine lv_istore_n (lv' := [(2, .int (r5)), (0, .ref (g.2.2 0)), (1, .int (a0))]) hx hb d_M_arithmetic_14 rfl hl (by decide) rfl (fun ls hl => ?_)
    refine lv_aload_n hx hb d_M_arithmetic_15 rfl (lv_at hl 1 rfl) ?_
    refine lv_iconst (v := 1) hx hb d_M_arithmetic_16 (by decide) ?_
    refine cM_i (As := [.int (1)]) (rest := []) hx hb hml hown hts hK hP hD hS hA (Nat.zero_le _) (Nat.zero_le _) hl.1 (q_M_top hts ⟨Nat.le_of_ble_eq_true rfl, Nat.le_of_ble_eq_true rfl⟩) (c_M_top l g H.size _ (1) _ hw) rfl rfl (Nat.le_of_ble_eq_true rfl) d_M_arithmetic_17 (fun r7 S6 H locs hw hP hD hS => ?_)
    refine lv_istore_n (lv' := [(3, .int (r7)), (2, .int (r5)), (0, .ref (g.2.2 0)), (1, .int (a0))]) hx hb d_M_arithmetic_20 rfl hl (by decide) rfl (fun ls hl => ?_)
    refine lv_iload_n hx hb d_M_arithmetic_21 rfl (lv_at hl 3 rfl) ?_
    refine lv_iconst (v := 3) hx hb d_M_arithmetic_22 (by decide) ?_
    refine lv_iconst (v := 4) hx hb d_M_arithmetic_23 (by decide) ?_
    refine cM_iS (As := [.int (a0), .int (3), .int (4)]) (rest := []) hx hb hml hown hts hK hP hD hS hA (Nat.zero_le _) (Nat.zero_le _) hl.1 (q_M_in hts ⟨Nat.le_of_ble_eq_true rfl, Nat.le_of_ble_eq_true rfl⟩) (c_M_in l g H.size _ (a0) (3) (4) _ hw) rfl rfl (Nat.le_of_ble_eq_true rfl) d_M_arithmetic_24 (fun r9 S8 H locs hw hP hD hS => ?_)
    refine lv_if_eq hx hb d_M_arithmetic_27 (tgt := 40) (by decide) (fun hc => ?_) (fun hc => ?_)
    · have hw := hw.1 hc
      exact J40 S8 (a0) (r5) (r7) _ _ _ hw (lv_sub hl [2, 3, 1, 0] rfl) hP hD hS
    · have hw := hw.2 hc
      refine lv_iload_n hx hb d_M_arithmetic_30 rfl (lv_at hl 1 rfl) ?_
      refine lv_if_ne hx hb d_M_arithmetic_31 (tgt := 40) (by decide) (fun hc => ?_) (fun hc => ?_)
      · have hw := hw.2 hc
        exact J40 S8 (a0) (r5) (r7) _ _ _ hw (lv_sub hl [2, 3, 1, 0] rfl) hP hD hS
      · have hw := hw.1 hc
        refine lv_aload_n hx hb d_M_arithmetic_34 rfl (lv_at hl 2 rfl) ?_
        refine lv_iconst (v := 4) hx hb d_M_arithmetic_35 (by decide) ?_
        refine cM_v (As := [.int (4)]) (rest := []) hx hb hml hown hts hK hP hD hS hA (Nat.zero_le _) (Nat.zero_le _) hl.1 (q_M_fail hts ⟨Nat.le_of_ble_eq_true rfl, Nat.le_of_ble_eq_true rfl⟩) (c_M_fail l g H.size _ (4) _ hw) rfl rfl (Nat.le_of_ble_eq_true rfl) d_M_arithmetic_36 (fun S10 H locs hw hP hD hS => ?_)
        exact kr S10 _ _ _ _ hw hP hD hS d_M_arithmetic_39
  · have hw := hw.1 hc
    exact kr S2 _ _ _ _ hw hP hD hS d_M_arithmetic_8
theorem d_M_rotate_0 : decode b_M_rotate 0 = .ok (.aload_n 0, 1) := by decide +kernel
theorem d_M_rotate_1 : decode b_M_rotate 1 = .ok (.invokevirtual 241, 3) := by decide +kernel
theorem d_M_rotate_4 : decode b_M_rotate 4 = .ok (.istore_n 1, 1) := by decide +kernel
theorem d_M_rotate_5 : decode b_M_rotate 5 = .ok (.aload_n 0, 1) := by decide +kernel
theorem d_M_rotate_6 : decode b_M_rotate 6 = .ok (.invokevirtual 241, 3) := by decide +kernel
theorem d_M_rotate_9 : decode b_M_rotate 9 = .ok (.istore_n 2, 1) := by decide +kernel
theorem d_M_rotate_10 : decode b_M_rotate 10 = .ok (.aload_n 0, 1) := by decide +kernel
theorem d_M_rotate_11 : decode b_M_rotate 11 = .ok (.invokevirtual 241, 3) := by decide +kernel
theorem d_M_rotate_14 : decode b_M_rotate 14 = .ok (.istore_n 3, 1) := by decide +kernel
theorem d_M_rotate_15 : decode b_M_rotate 15 = .ok (.aload_n 0, 1) := by decide +kernel
theorem d_M_rotate_16 : decode b_M_rotate 16 = .ok (.iload_n 2, 1) := by decide +kernel
theorem d_M_rotate_17 : decode b_M_rotate 17 = .ok (.invokevirtual 238, 3) := by decide +kernel
theorem d_M_rotate_20 : decode b_M_rotate 20 = .ok (.aload_n 0, 1) := by decide +kernel
theorem d_M_rotate_21 : decode b_M_rotate 21 = .ok (.iload_n 1, 1) := by decide +kernel
theorem d_M_rotate_22 : decode b_M_rotate 22 = .ok (.invokevirtual 238, 3) := by decide +kernel
theorem d_M_rotate_25 : decode b_M_rotate 25 = .ok (.aload_n 0, 1) := by decide +kernel
theorem d_M_rotate_26 : decode b_M_rotate 26 = .ok (.iload_n 3, 1) := by decide +kernel
theorem d_M_rotate_27 : decode b_M_rotate 27 = .ok (.invokevirtual 238, 3) := by decide +kernel
theorem d_M_rotate_30 : decode b_M_rotate 30 = .ok (.return_, 1) := by decide +kernel
def wp_M_rotate (post : StM → Prop) (S : StM)  : Prop :=
  wp_M_pop (fun (r2 : Int32) (S1 : StM) => (wp_M_pop (fun (r4 : Int32) (S3 : StM) => (wp_M_pop (fun (r6 : Int32) (S5 : StM) => (wp_M_push (fun S7 : StM => (wp_M_push (fun S8 : StM => (wp_M_push (fun S9 : StM => (post S9)) S8 (r6))) S7 (r2))) S5 (r4))) S3 )) S1 )) S 
set_option maxRecDepth 100000 in
set_option maxHeartbeats 4000000 in
theorem c_M_rotate (l : Launch) (g : Gm) (sz : Nat) (S : StM)  (post : StM → Prop) (hw : wp_M_rotate post S ) : Met l y_M_rotate (.code y_M_rotate b_M_rotate 4 none :: w_M) (rmM 2 42) (va_Pc [.ref (g.2.2 0)] (PM g sz S)) (va_Qv post (BM g sz) (AM g sz)) 0 0 (AM g sz) := by
  refine ofM_v (by decide) (Nat.le_of_ble_eq_true rfl) (fun p e s m args below meth c Q H locs ls hx hb hml hts hown hK hA kr hl hP hD hS => ?_)
  have hl : lv_has ls 4 [(0, .ref (g.2.2 0))] := hl
  unfold wp_M_rotate at hw
  refine lv_aload_n hx hb d_M_rotate_0 rfl (lv_at hl 0 rfl) ?_
  refine cM_i (As := []) (rest := []) hx hb hml hown hts hK hP hD hS hA (Nat.zero_le _) (Nat.zero_le _) hl.1 (q_M_pop hts ⟨Nat.le_of_ble_eq_true rfl, Nat.le_of_ble_eq_true rfl⟩) (c_M_pop l g H.size _  _ hw) rfl rfl (Nat.le_of_ble_eq_true rfl) d_M_rotate_1 (fun r2 S1 H locs hw hP hD hS => ?_)
  refine lv_istore_n (lv' := [(1, .int (r2)), (0, .ref (g.2.2 0))]) hx hb d_M_rotate_4 rfl hl (by decide) rfl (fun ls hl => ?_)
  refine lv_aload_n hx hb d_M_rotate_5 rfl (lv_at hl 1 rfl) ?_
  refine cM_i (As := []) (rest := []) hx hb hml hown hts hK hP hD hS hA (Nat.zero_le _) (Nat.zero_le _) hl.1 (q_M_pop hts ⟨Nat.le_of_ble_eq_true rfl, Nat.le_of_ble_eq_true rfl⟩) (c_M_pop l g H.size _  _ hw) rfl rfl (Nat.le_of_ble_eq_true rfl) d_M_rotate_6 (fun r4 S3 H locs hw hP hD hS => ?_)
  refine lv_istore_n (lv' := [(2, .int (r4)), (1, .int (r2)), (0, .ref (g.2.2 0))]) hx hb d_M_rotate_9 rfl hl (by decide) rfl (fun ls hl => ?_)
  refine lv_aload_n hx hb d_M_rotate_10 rfl (lv_at hl 2 rfl) ?_
  refine cM_i (As := []) (rest := []) hx hb hml hown hts hK hP hD hS hA (Nat.zero_le _) (Nat.zero_le _) hl.1 (q_M_pop hts ⟨Nat.le_of_ble_eq_true rfl, Nat.le_of_ble_eq_true rfl⟩) (c_M_pop l g H.size _  _ hw) rfl rfl (Nat.le_of_ble_eq_true rfl) d_M_rotate_11 (fun r6 S5 H locs hw hP hD hS => ?_)
  refine lv_istore_n (lv' := [(3, .int (r6)), (2, .int (r4)), (1, .int (r2)), (0, .ref (g.2.2 0))]) hx hb d_M_rotate_14 rfl hl (by decide) rfl (fun ls hl => ?_)
  refine lv_aload_n hx hb d_M_rotate_15 rfl (lv_at hl 3 rfl) ?_
  refine lv_iload_n hx hb d_M_rotate_16 rfl (lv_at hl 1 rfl) ?_
  refine cM_v (As := [.int (r4)]) (rest := []) hx hb hml hown hts hK hP hD hS hA (Nat.zero_le _) (Nat.zero_le _) hl.1 (q_M_push hts ⟨Nat.le_of_ble_eq_true rfl, Nat.le_of_ble_eq_true rfl⟩) (c_M_push l g H.size _ (r4) _ hw) rfl rfl (Nat.le_of_ble_eq_true rfl) d_M_rotate_17 (fun S7 H locs hw hP hD hS => ?_)
  refine lv_aload_n hx hb d_M_rotate_20 rfl (lv_at hl 3 rfl) ?_
  refine lv_iload_n hx hb d_M_rotate_21 rfl (lv_at hl 2 rfl) ?_
  refine cM_v (As := [.int (r2)]) (rest := []) hx hb hml hown hts hK hP hD hS hA (Nat.zero_le _) (Nat.zero_le _) hl.1 (q_M_push hts ⟨Nat.le_of_ble_eq_true rfl, Nat.le_of_ble_eq_true rfl⟩) (c_M_push l g H.size _ (r2) _ hw) rfl rfl (Nat.le_of_ble_eq_true rfl) d_M_rotate_22 (fun S8 H locs hw hP hD hS => ?_)
  refine lv_aload_n hx hb d_M_rotate_25 rfl (lv_at hl 3 rfl) ?_
  refine lv_iload_n hx hb d_M_rotate_26 rfl (lv_at hl 0 rfl) ?_
  refine cM_v (As := [.int (r6)]) (rest := []) hx hb hml hown hts hK hP hD hS hA (Nat.zero_le _) (Nat.zero_le _) hl.1 (q_M_push hts ⟨Nat.le_of_ble_eq_true rfl, Nat.le_of_ble_eq_true rfl⟩) (c_M_push l g H.size _ (r6) _ hw) rfl rfl (Nat.le_of_ble_eq_true rfl) d_M_rotate_27 (fun S9 H locs hw hP hD hS => ?_)
  exact kr S9 _ _ _ _ hw hP hD hS d_M_rotate_30
