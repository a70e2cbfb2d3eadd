theorem d_M_type_0 : decode b_M_type 0 = .ok (.iload_n 2, 1) := by decide +kernel
theorem d_M_type_1 : decode b_M_type 1 = .ok (.iconst 1, 1) := by decide +kernel
theorem d_M_type_2 : decode b_M_type 2 = .ok (.iconst 4, 1) := by decide +kernel
theorem d_M_type_3 : decode b_M_type 3 = .ok (.invokestatic 212, 3) := by decide +kernel
theorem d_M_type_6 : decode b_M_type 6 = .ok (.ifCond .eq 18, 3) := by decide +kernel
theorem d_M_type_9 : decode b_M_type 9 = .ok (.aload_n 0, 1) := by decide +kernel
theorem d_M_type_10 : decode b_M_type 10 = .ok (.getfield 203, 3) := by decide +kernel
theorem d_M_type_13 : decode b_M_type 13 = .ok (.iload_n 2, 1) := by decide +kernel
theorem d_M_type_14 : decode b_M_type 14 = .ok (.iadd, 1) := by decide +kernel
theorem d_M_type_15 : decode b_M_type 15 = .ok (.bipush 120, 2) := by decide +kernel
theorem d_M_type_17 : decode b_M_type 17 = .ok (.if_icmp .gt 7, 3) := by decide +kernel
theorem d_M_type_20 : decode b_M_type 20 = .ok (.iconst 1, 1) := by decide +kernel
theorem d_M_type_21 : decode b_M_type 21 = .ok (.goto 4, 3) := by decide +kernel
theorem d_M_type_24 : decode b_M_type 24 = .ok (.iconst 0, 1) := by decide +kernel
theorem d_M_type_25 : decode b_M_type 25 = .ok (.istore_n 3, 1) := by decide +kernel
theorem d_M_type_26 : decode b_M_type 26 = .ok (.iconst 0, 1) := by decide +kernel
theorem d_M_type_27 : decode b_M_type 27 = .ok (.istore 4, 2) := by decide +kernel
theorem d_M_type_29 : decode b_M_type 29 = .ok (.iload 4, 2) := by decide +kernel
theorem d_M_type_31 : decode b_M_type 31 = .ok (.iload_n 2, 1) := by decide +kernel
theorem d_M_type_32 : decode b_M_type 32 = .ok (.if_icmp .ge 32, 3) := by decide +kernel
theorem d_M_type_35 : decode b_M_type 35 = .ok (.iload_n 3, 1) := by decide +kernel
theorem d_M_type_36 : decode b_M_type 36 = .ok (.ifCond .eq 28, 3) := by decide +kernel
theorem d_M_type_39 : decode b_M_type 39 = .ok (.iload_n 1, 1) := by decide +kernel
theorem d_M_type_40 : decode b_M_type 40 = .ok (.bipush 8, 2) := by decide +kernel
theorem d_M_type_42 : decode b_M_type 42 = .ok (.iload 4, 2) := by decide +kernel
theorem d_M_type_44 : decode b_M_type 44 = .ok (.imul, 1) := by decide +kernel
theorem d_M_type_45 : decode b_M_type 45 = .ok (.ishr, 1) := by decide +kernel
theorem d_M_type_46 : decode b_M_type 46 = .ok (.sipush 255, 3) := by decide +kernel
theorem d_M_type_49 : decode b_M_type 49 = .ok (.iand, 1) := by decide +kernel
theorem d_M_type_50 : decode b_M_type 50 = .ok (.bipush 32, 2) := by decide +kernel
theorem d_M_type_52 : decode b_M_type 52 = .ok (.bipush 126, 2) := by decide +kernel
theorem d_M_type_54 : decode b_M_type 54 = .ok (.invokestatic 212, 3) := by decide +kernel
theorem d_M_type_57 : decode b_M_type 57 = .ok (.istore_n 3, 1) := by decide +kernel
theorem d_M_type_58 : decode b_M_type 58 = .ok (.iinc 4 1, 3) := by decide +kernel
theorem d_M_type_61 : decode b_M_type 61 = .ok (.goto (-32), 3) := by decide +kernel
theorem d_M_type_64 : decode b_M_type 64 = .ok (.iload_n 2, 1) := by decide +kernel
theorem d_M_type_65 : decode b_M_type 65 = .ok (.iconst 1, 1) := by decide +kernel
theorem d_M_type_66 : decode b_M_type 66 = .ok (.isub, 1) := by decide +kernel
theorem d_M_type_67 : decode b_M_type 67 = .ok (.istore 4, 2) := by decide +kernel
theorem d_M_type_69 : decode b_M_type 69 = .ok (.iload 4, 2) := by decide +kernel
theorem d_M_type_71 : decode b_M_type 71 = .ok (.ifCond .lt 43, 3) := by decide +kernel
theorem d_M_type_74 : decode b_M_type 74 = .ok (.iload_n 3, 1) := by decide +kernel
theorem d_M_type_75 : decode b_M_type 75 = .ok (.ifCond .eq 39, 3) := by decide +kernel
theorem d_M_type_78 : decode b_M_type 78 = .ok (.aload_n 0, 1) := by decide +kernel
theorem d_M_type_79 : decode b_M_type 79 = .ok (.getfield 7, 3) := by decide +kernel
theorem d_M_type_82 : decode b_M_type 82 = .ok (.aload_n 0, 1) := by decide +kernel
theorem d_M_type_83 : decode b_M_type 83 = .ok (.getfield 203, 3) := by decide +kernel
theorem d_M_type_86 : decode b_M_type 86 = .ok (.iload_n 1, 1) := by decide +kernel
theorem d_M_type_87 : decode b_M_type 87 = .ok (.bipush 8, 2) := by decide +kernel
theorem d_M_type_89 : decode b_M_type 89 = .ok (.iload 4, 2) := by decide +kernel
theorem d_M_type_91 : decode b_M_type 91 = .ok (.imul, 1) := by decide +kernel
theorem d_M_type_92 : decode b_M_type 92 = .ok (.ishr, 1) := by decide +kernel
theorem d_M_type_93 : decode b_M_type 93 = .ok (.sipush 255, 3) := by decide +kernel
theorem d_M_type_96 : decode b_M_type 96 = .ok (.iand, 1) := by decide +kernel
theorem d_M_type_97 : decode b_M_type 97 = .ok (.iastore, 1) := by decide +kernel
theorem d_M_type_98 : decode b_M_type 98 = .ok (.aload_n 0, 1) := by decide +kernel
theorem d_M_type_99 : decode b_M_type 99 = .ok (.aload_n 0, 1) := by decide +kernel
theorem d_M_type_100 : decode b_M_type 100 = .ok (.getfield 203, 3) := by decide +kernel
theorem d_M_type_103 : decode b_M_type 103 = .ok (.iconst 1, 1) := by decide +kernel
theorem d_M_type_104 : decode b_M_type 104 = .ok (.iadd, 1) := by decide +kernel
theorem d_M_type_105 : decode b_M_type 105 = .ok (.putfield 203, 3) := by decide +kernel
theorem d_M_type_108 : decode b_M_type 108 = .ok (.iinc 4 (-1), 3) := by decide +kernel
theorem d_M_type_111 : decode b_M_type 111 = .ok (.goto (-42), 3) := by decide +kernel
theorem d_M_type_114 : decode b_M_type 114 = .ok (.iload_n 3, 1) := by decide +kernel
theorem d_M_type_115 : decode b_M_type 115 = .ok (.ireturn, 1) := by decide +kernel
def wq_M_type_114 (post : Int32 → StM → Prop)  (S : StM) (x3 : Int32) : Prop :=
  (narrow .boolean (.int (x3)) = .int (x3)) ∧ (post (x3) S)
def wq_M_type_69 (post : Int32 → StM → Prop)  : Nat → StM → Int32 → Int32 → Int32 → Prop
  | 0, _, _, _, _ => False
  | n69 + 1, S, x1, x3, x4 =>
    ((x4 < 0) → wq_M_type_114 post  S (x3)) ∧ (¬ (x4 < 0) → ((x3 = 0) → wq_M_type_114 post  S (x3)) ∧ (¬ (x3 = 0) → (vp_in (S.1 1) 120) ∧ ((wq_M_type_69 post  n69) ((upd S.1 1 (((S.1 1) + 1))), (va_up S.2.1 0 (upd (S.2.1 0) (Int32.toNatClampNeg ((S.1 1))) (((x1 >>> ((8 * x4) &&& 31)) &&& 255)))), S.2.2) (x1) (x3) ((x4 + (-1))))))
def wq_M_type_64 (post : Int32 → StM → Prop)  (S : StM) (x1 : Int32) (x2 : Int32) (x3 : Int32) : Prop :=
  ∃ nn : Nat, wq_M_type_69 post  nn S (x1) (x3) ((x2 - 1))
def wq_M_type_29 (post : Int32 → StM → Prop)  : Nat → StM → Int32 → Int32 → Int32 → Int32 → Prop
  | 0, _, _, _, _, _ => False
  | n29 + 1, S, x1, x2, x3, x4 =>
    ((x2 ≤ x4) → wq_M_type_64 post  S (x1) (x2) (x3)) ∧ (¬ (x2 ≤ x4) → ((x3 = 0) → wq_M_type_64 post  S (x1) (x2) (x3)) ∧ (¬ (x3 = 0) → wp_M_in (fun (r2 : Int32) (S1 : StM) => ((wq_M_type_29 post  n29) S1 (x1) (x2) (r2) ((x4 + 1)))) S (((x1 >>> ((8 * x4) &&& 31)) &&& 255)) (32) (126)))
def wq_M_type_25 (post : Int32 → StM → Prop)  (S : StM) (x1 : Int32) (x2 : Int32) (t0 : Int32) : Prop :=
  ∃ nn : Nat, wq_M_type_29 post  nn S (x1) (x2) (t0) (0)
def wq_M_type_24 (post : Int32 → StM → Prop)  (S : StM) (x1 : Int32) (x2 : Int32) : Prop :=
  wq_M_type_25 post  S (x1) (x2) (0)
def wp_M_type (post : Int32 → StM → Prop) (S : StM) (a0 : Int32) (a1 : Int32) : Prop :=
  wp_M_in (fun (r4 : Int32) (S3 : StM) => (((r4 = 0) → wq_M_type_24 post  S3 (a0) (a1)) ∧ (¬ (r4 = 0) → ((120 < ((S3.1 1) + a1)) → wq_M_type_24 post  S3 (a0) (a1)) ∧ (¬ (120 < ((S3.1 1) + a1)) → wq_M_type_25 post  S3 (a0) (a1) (1))))) S (a1) (1) (4)
set_option maxRecDepth 100000 in
set_option maxHeartbeats 4000000 in
theorem c_M_type (l : Launch) (g : Gm) (sz : Nat) (S : StM) (a0 : Int32) (a1 : Int32) (post : Int32 → StM → Prop) (hw : wp_M_type post S a0 a1) : Met l y_M_type (.code y_M_type b_M_type 5 (some .boolean) :: w_M) (rmM 1 22) (va_Pc [.ref (g.2.2 0), .int (a0), .int (a1)] (PM g sz S)) (va_Qi post (BM g sz) (AM g sz)) 0 0 (AM g sz) := by
  refine ofM_z (by decide) (Nat.le_of_ble_eq_true rfl) (fun p e s m args below meth c Q H locs ls hx hb hml hts hown hK hA kr hl hP hD hS => ?_)
  have hl : lv_has ls 5 [(0, .ref (g.2.2 0)), (1, .int (a0)), (2, .int (a1))] := hl
  unfold wp_M_type at hw
  have J114 : ∀ (S : StM) (x3 : Int32) (H : Heap) (locs : List Loc) (ls : Array Slot), wq_M_type_114 post  S x3 → lv_has ls 5 [(3, .int (x3))] → va_P g.1 classes (wM g S) H → va_D (AM g s.heap.size) (wM g S) → va_S (AM g s.heap.size) s.heap H locs → W p l e (rmM 1 22) s m args below meth c H locs 0 0 Q (F0 m 114 ls []) := by
    intro S x3 H locs ls hw hl hP hD hS
    unfold wq_M_type_114 at hw
    refine lv_iload_n hx hb d_M_type_114 rfl (lv_at hl 0 rfl) ?_
    obtain ⟨hnz, hw⟩ := hw
    exact kr (x3) S _ _ _ _ hnz hw hP hD hS d_M_type_115
  have J69 : ∀ (n69 : Nat), ∀ (S : StM) (x1 : Int32) (x3 : Int32) (x4 : Int32) (H : Heap) (locs : List Loc) (ls : Array Slot), wq_M_type_69 post  n69 S x1 x3 x4 → lv_has ls 5 [(0, .ref (g.2.2 0)), (1, .int (x1)), (3, .int (x3)), (4, .int (x4))] → va_P g.1 classes (wM g S) H → va_D (AM g s.heap.size) (wM g S) → va_S (AM g s.heap.size) s.heap H locs → W p l e (rmM 1 22) s m args below meth c H locs 0 0 Q (F0 m 69 ls []) := by
    intro n69
    induction n69 with
    | zero => intro S x1 x3 x4 H locs ls hw; exact hw.elim
    | succ n69 ih69 =>
      intro S x1 x3 x4 H locs ls hw hl hP hD hS
      unfold wq_M_type_69 at hw
      refine lv_iload hx hb d_M_type_69 (lv_at hl 3 rfl) ?_
      refine lv_if_lt hx hb d_M_type_71 (tgt := 114) (by decide) (fun hc => ?_) (fun hc => ?_)
      · have hw := hw.1 hc
        exact J114 S (x3) _ _ _ hw (lv_sub hl [2] rfl) hP hD hS
      · have hw := hw.2 hc
        refine lv_iload_n hx hb d_M_type_74 rfl (lv_at hl 2 rfl) ?_
        refine lv_if_eq hx hb d_M_type_75 (tgt := 114) (by decide) (fun hc => ?_) (fun hc => ?_)
        · have hw := hw.1 hc
          exact J114 S (x3) _ _ _ hw (lv_sub hl [2] rfl) hP hD hS
        · have hw := hw.2 hc
          refine lv_aload_n hx hb d_M_type_78 rfl (lv_at hl 0 rfl) ?_
          refine gt_M (v := .ref (g.2.2 1)) hx hb hown hts hK hP 0 (by decide) rfl k_M_106 d_M_type_79 ?_
          refine lv_aload_n hx hb d_M_type_82 rfl (lv_at hl 0 rfl) ?_
          refine gt_M (v := .int ((S.1 1))) hx hb hown hts hK hP 1 (by decide) rfl k_M_107 d_M_type_83 ?_
          refine lv_iload_n hx hb d_M_type_86 rfl (lv_at hl 1 rfl) ?_
          refine lv_bipush (v := 8) hx hb d_M_type_87 (by decide) ?_
          refine lv_iload hx hb d_M_type_89 (lv_at hl 3 rfl) ?_
          refine lv_imul hx hb d_M_type_91 ?_
          refine lv_ishr hx hb d_M_type_92 ?_
          refine lv_sipush (v := 255) hx hb d_M_type_93 (by decide) ?_
          refine lv_iand hx hb d_M_type_96 ?_
          obtain ⟨hi, hw⟩ := hw
          refine ia_M (S2 := (S.1, (va_up S.2.1 0 (upd (S.2.1 0) (Int32.toNatClampNeg ((S.1 1))) (((x1 >>> ((8 * x4) &&& 31)) &&& 255)))), S.2.2)) (f := (S.2.1 0)) hx hb hK hP hD hS 1 rfl hi d_M_type_97 (sA_M_0 g _ _) (fun H locs hP hD hS => ?_)
          refine lv_aload_n hx hb d_M_type_98 rfl (lv_at hl 0 rfl) ?_
          refine lv_aload_n hx hb d_M_type_99 rfl (lv_at hl 0 rfl) ?_
          refine gt_M (v := .int ((S.1 1))) hx hb hown hts hK hP 1 (by decide) rfl k_M_107 d_M_type_100 ?_
          refine lv_iconst (v := 1) hx hb d_M_type_103 (by decide) ?_
          refine lv_iadd hx hb d_M_type_104 ?_
          refine pt_M (S2 := ((upd S.1 1 (((S.1 1) + 1))), (va_up S.2.1 0 (upd (S.2.1 0) (Int32.toNatClampNeg ((S.1 1))) (((x1 >>> ((8 * x4) &&& 31)) &&& 255)))), S.2.2)) (v := .int (((S.1 1) + 1))) hx hb hown hts hK hP hD hS 1 (by decide) rfl rfl rfl (sI_M_1 g _ _) k_M_107 d_M_type_105 (fun H locs hP hD hS => ?_)
          refine lv_iinc (k := 3) (v := (x4 + (-1))) (lv' := [(4, .int ((x4 + (-1)))), (0, .ref (g.2.2 0)), (1, .int (x1)), (3, .int (x3))]) hx hb d_M_type_108 hl rfl rfl (by decide) rfl (fun ls hl => ?_)
          refine lv_goto hx hb d_M_type_111 (tgt := 69) (by decide) ?_
          exact ih69 ((upd S.1 1 (((S.1 1) + 1))), (va_up S.2.1 0 (upd (S.2.1 0) (Int32.toNatClampNeg ((S.1 1))) (((x1 >>> ((8 * x4) &&& 31)) &&& 255)))), S.2.2) (x1) (x3) ((x4 + (-1))) _ _ _ hw (lv_sub hl [1, 2, 3, 0] rfl) hP hD hS
  have J64 : ∀ (S : StM) (x1 : Int32) (x2 : Int32) (x3 : Int32) (H : Heap) (locs : List Loc) (ls : Array Slot), wq_M_type_64 post  S x1 x2 x3 → lv_has ls 5 [(0, .ref (g.2.2 0)), (1, .int (x1)), (2, .int (x2)), (3, .int (x3))] → va_P g.1 classes (wM g S) H → va_D (AM g s.heap.size) (wM g S) → va_S (AM g s.heap.size) s.heap H locs → W p l e (rmM 1 22) s m args below meth c H locs 0 0 Q (F0 m 64 ls []) := by
    intro S x1 x2 x3 H locs ls hw hl hP hD hS
    unfold wq_M_type_64 at hw
    refine lv_iload_n hx hb d_M_type_64 rfl (lv_at hl 2 rfl) ?_
    refine lv_iconst (v := 1) hx hb d_M_type_65 (by decide) ?_
    refine lv_isub hx hb d_M_type_66 ?_
    refine lv_istore (lv' := [(4, .int ((x2 - 1))), (0, .ref (g.2.2 0)), (1, .int (x1)), (2, .int (x2)), (3, .int (x3))]) hx hb d_M_type_67 hl (by decide) rfl (fun ls hl => ?_)
    obtain ⟨nn, hw⟩ := hw
    exact J69 nn S (x1) (x3) ((x2 - 1)) _ _ _ hw (lv_sub hl [1, 2, 4, 0] rfl) hP hD hS
  have J29 : ∀ (n29 : Nat), ∀ (S : StM) (x1 : Int32) (x2 : Int32) (x3 : Int32) (x4 : Int32) (H : Heap) (locs : List Loc) (ls : Array Slot), wq_M_type_29 post  n29 S x1 x2 x3 x4 → lv_has ls 5 [(0, .ref (g.2.2 0)), (1, .int (x1)), (2, .int (x2)), (3, .int (x3)), (4, .int (x4))] → va_P g.1 classes (wM g S) H → va_D (AM g s.heap.size) (wM g S) → va_S (AM g s.heap.size) s.heap H locs → W p l e (rmM 1 22) s m args below meth c H locs 0 0 Q (F0 m 29 ls []) := by
    intro n29
    induction n29 with
    | zero => intro S x1 x2 x3 x4 H locs ls hw; exact hw.elim
    | succ n29 ih29 =>
      intro S x1 x2 x3 x4 H locs ls hw hl hP hD hS
      unfold wq_M_type_29 at hw
      refine lv_iload hx hb d_M_type_29 (lv_at hl 4 rfl) ?_
      refine lv_iload_n hx hb d_M_type_31 rfl (lv_at hl 2 rfl) ?_
      refine lv_icmp_ge hx hb d_M_type_32 (tgt := 64) (by decide) (fun hc => ?_) (fun hc => ?_)
      · have hw := hw.1 hc
        exact J64 S (x1) (x2) (x3) _ _ _ hw (lv_sub hl [0, 1, 2, 3] rfl) hP hD hS
      · have hw := hw.2 hc
        refine lv_iload_n hx hb d_M_type_35 rfl (lv_at hl 3 rfl) ?_
        refine lv_if_eq hx hb d_M_type_36 (tgt := 64) (by decide) (fun hc => ?_) (fun hc => ?_)
        · have hw := hw.1 hc
          exact J64 S (x1) (x2) (x3) _ _ _ hw (lv_sub hl [0, 1, 2, 3] rfl) hP hD hS
        · have hw := hw.2 hc
          refine lv_iload_n hx hb d_M_type_39 rfl (lv_at hl 1 rfl) ?_
          refine lv_bipush (v := 8) hx hb d_M_type_40 (by decide) ?_
          refine lv_iload hx hb d_M_type_42 (lv_at hl 4 rfl) ?_
          refine lv_imul hx hb d_M_type_44 ?_
          refine lv_ishr hx hb d_M_type_45 ?_
          refine lv_sipush (v := 255) hx hb d_M_type_46 (by decide) ?_
          refine lv_iand hx hb d_M_type_49 ?_
          refine lv_bipush (v := 32) hx hb d_M_type_50 (by decide) ?_
          refine lv_bipush (v := 126) hx hb d_M_type_52 (by decide) ?_
          refine cM_iS (As := [.int (((x1 >>> ((8 * x4) &&& 31)) &&& 255)), .int (32), .int (126)]) (rest := []) hx hb hml hown hts hK hP hD hS hA (Nat.zero_le _) (Nat.zero_le _) hl.1 (q_M_in hts ⟨Nat.le_of_ble_eq_true rfl, Nat.le_of_ble_eq_true rfl⟩) (c_M_in l g H.size _ (((x1 >>> ((8 * x4) &&& 31)) &&& 255)) (32) (126) _ hw) rfl rfl (Nat.le_of_ble_eq_true rfl) d_M_type_54 (fun r2 S1 H locs hw hP hD hS => ?_)
          refine lv_istore_n (lv' := [(3, .int (r2)), (0, .ref (g.2.2 0)), (1, .int (x1)), (2, .int (x2)), (4, .int (x4))]) hx hb d_M_type_57 rfl hl (by decide) rfl (fun ls hl => ?_)
          refine lv_iinc (k := 4) (v := (x4 + 1)) (lv' := [(4, .int ((x4 + 1))), (3, .int (r2)), (0, .ref (g.2.2 0)), (1, .int (x1)), (2, .int (x2))]) hx hb d_M_type_58 hl rfl rfl (by decide) rfl (fun ls hl => ?_)
          refine lv_goto hx hb d_M_type_61 (tgt := 29) (by decide) ?_
          exact ih29 S1 (x1) (x2) (r2) ((x4 + 1)) _ _ _ hw (lv_sub hl [2, 3, 4, 1, 0] rfl) hP hD hS
  have J25 : ∀ (S : StM) (x1 : Int32) (x2 : Int32) (t0 : Int32) (H : Heap) (locs : List Loc) (ls : Array Slot), wq_M_type_25 post  S x1 x2 t0 → lv_has ls 5 [(0, .ref (g.2.2 0)), (1, .int (x1)), (2, .int (x2))] → va_P g.1 classes (wM g S) H → va_D (AM g s.heap.size) (wM g S) → va_S (AM g s.heap.size) s.heap H locs → W p l e (rmM 1 22) s m args below meth c H locs 0 0 Q (F0 m 25 ls [.int (t0)]) := by
    intro S x1 x2 t0 H locs ls hw hl hP hD hS
    unfold wq_M_type_25 at hw
    refine lv_istore_n (lv' := [(3, .int (t0)), (0, .ref (g.2.2 0)), (1, .int (x1)), (2, .int (x2))]) hx hb d_M_type_25 rfl hl (by decide) rfl (fun ls hl => ?_)
    refine lv_iconst (v := 0) hx hb d_M_type_26 (by decide) ?_
    refine lv_istore (lv' := [(4, .int (0)), (3, .int (t0)), (0, .ref (g.2.2 0)), (1, .int (x1)), (2, .int (x2))]) hx hb d_M_type_27 hl (by decide) rfl (fun ls hl => ?_)
    obtain ⟨nn, hw⟩ := hw
    exact J29 nn S (x1) (x2) (t0) (0) _ _ _ hw (lv_sub hl [2, 3, 4, 1, 0] rfl) hP hD hS
  have J24 : ∀ (S : StM) (x1 : Int32) (x2 : Int32) (H : Heap) (locs : List Loc) (ls : Array Slot), wq_M_type_24 post  S x1 x2 → lv_has ls 5 [(0, .ref (g.2.2 0)), (1, .int (x1)), (2, .int (x2))] → va_P g.1 classes (wM g S) H → va_D (AM g s.heap.size) (wM g S) → va_S (AM g s.heap.size) s.heap H locs → W p l e (rmM 1 22) s m args below meth c H locs 0 0 Q (F0 m 24 ls []) := by
    intro S x1 x2 H locs ls hw hl hP hD hS
    unfold wq_M_type_24 at hw
    refine lv_iconst (v := 0) hx hb d_M_type_24 (by decide) ?_
    exact J25 S (x1) (x2) (0) _ _ _ hw (lv_sub hl [0, 1, 2] rfl) hP hD hS
  refine lv_iload_n hx hb d_M_type_0 rfl (lv_at hl 2 rfl) ?_
  refine lv_iconst (v := 1) hx hb d_M_type_1 (by decide) ?_
  refine lv_iconst (v := 4) hx hb d_M_type_2 (by decide) ?_
  refine cM_iS (As := [.int (a1), .int (1), .int (4)]) (rest := []) hx hb hml hown hts hK hP hD hS hA (Nat.zero_le _) (Nat.zero_le _) hl.1 (q_M_in hts ⟨Nat.le_of_ble_eq_true rfl, Nat.le_of_ble_eq_true rfl⟩) (c_M_in l g H.size _ (a1) (1) (4) _ hw) rfl rfl (Nat.le_of_ble_eq_true rfl) d_M_type_3 (fun r4 S3 H locs hw hP hD hS => ?_)
  refine lv_if_eq hx hb d_M_type_6 (tgt := 24) (by decide) (fun hc => ?_) (fun hc => ?_)
  · have hw := hw.1 hc
    exact J24 S3 (a0) (a1) _ _ _ hw (lv_sub hl [0, 1, 2] rfl) hP hD hS
  · have hw := hw.2 hc
    refine lv_aload_n hx hb d_M_type_9 rfl (lv_at hl 0 rfl) ?_
    refine gt_M (v := .int ((S3.1 1))) hx hb hown hts hK hP 1 (by decide) rfl k_M_107 d_M_type_10 ?_
    refine lv_iload_n hx hb d_M_type_13 rfl (lv_at hl 2 rfl) ?_
    refine lv_iadd hx hb d_M_type_14 ?_
    refine lv_bipush (v := 120) hx hb d_M_type_15 (by decide) ?_
    refine lv_icmp_gt hx hb d_M_type_17 (tgt := 24) (by decide) (fun hc => ?_) (fun hc => ?_)
    · have hw := hw.1 hc
      exact J24 S3 (a0) (a1) _ _ _ hw (lv_sub hl [0, 1, 2] rfl) hP hD hS
    · have hw := hw.2 hc
      refine lv_iconst (v := 1) hx hb d_M_type_20 (by decide) ?_
      refine lv_goto hx hb d_M_type_21 (tgt := 25) (by decide) ?_
      exact J25 S3 (a0) (a1) (1) _ _ _ hw (lv_sub hl [0, 1, 2] rfl) hP hD hS
theorem d_M_run_0 : decode b_M_run 0 = .ok (.aload_n 0, 1) := by decide +kernel
theorem d_M_run_1 : decode b_M_run 1 = .ok (.iconst 0, 1) := by decide +kernel
theorem d_M_run_2 : decode b_M_run 2 = .ok (.putfield 200, 3) := by decide +kernel
theorem d_M_run_5 : decode b_M_run 5 = .ok (.aload_n 0, 1) := by decide +kernel
theorem d_M_run_6 : decode b_M_run 6 = .ok (.sipush 600, 3) := by decide +kernel
theorem d_M_run_9 : decode b_M_run 9 = .ok (.putfield 325, 3) := by decide +kernel
theorem d_M_run_12 : decode b_M_run 12 = .ok (.aload_n 0, 1) := by decide +kernel
theorem d_M_run_13 : decode b_M_run 13 = .ok (.iconst 0, 1) := by decide +kernel
theorem d_M_run_14 : decode b_M_run 14 = .ok (.putfield 190, 3) := by decide +kernel
theorem d_M_run_17 : decode b_M_run 17 = .ok (.aload_n 0, 1) := by decide +kernel
theorem d_M_run_18 : decode b_M_run 18 = .ok (.getfield 190, 3) := by decide +kernel
theorem d_M_run_21 : decode b_M_run 21 = .ok (.ifCond .ne 17, 3) := by decide +kernel
theorem d_M_run_24 : decode b_M_run 24 = .ok (.aload_n 0, 1) := by decide +kernel
theorem d_M_run_25 : decode b_M_run 25 = .ok (.invokevirtual 264, 3) := by decide +kernel
theorem d_M_run_28 : decode b_M_run 28 = .ok (.ifCond .eq 10, 3) := by decide +kernel
theorem d_M_run_31 : decode b_M_run 31 = .ok (.aload_n 0, 1) := by decide +kernel
theorem d_M_run_32 : decode b_M_run 32 = .ok (.invokevirtual 343, 3) := by decide +kernel
theorem d_M_run_35 : decode b_M_run 35 = .ok (.goto (-18), 3) := by decide +kernel
theorem d_M_run_38 : decode b_M_run 38 = .ok (.aload_n 0, 1) := by decide +kernel
theorem d_M_run_39 : decode b_M_run 39 = .ok (.iconst 0, 1) := by decide +kernel
theorem d_M_run_40 : decode b_M_run 40 = .ok (.putfield 203, 3) := by decide +kernel
theorem d_M_run_43 : decode b_M_run 43 = .ok (.aload_n 0, 1) := by decide +kernel
theorem d_M_run_44 : decode b_M_run 44 = .ok (.getfield 190, 3) := by decide +kernel
theorem d_M_run_47 : decode b_M_run 47 = .ok (.ifCond .ne 5, 3) := by decide +kernel
theorem d_M_run_50 : decode b_M_run 50 = .ok (.iconst 0, 1) := by decide +kernel
theorem d_M_run_51 : decode b_M_run 51 = .ok (.ireturn, 1) := by decide +kernel
theorem d_M_run_52 : decode b_M_run 52 = .ok (.aload_n 0, 1) := by decide +kernel
theorem d_M_run_53 : decode b_M_run 53 = .ok (.iconst 0, 1) := by decide +kernel
theorem d_M_run_54 : decode b_M_run 54 = .ok (.putfield 193, 3) := by decide +kernel
theorem d_M_run_57 : decode b_M_run 57 = .ok (.aload_n 0, 1) := by decide +kernel
theorem d_M_run_58 : decode b_M_run 58 = .ok (.iconst 0, 1) := by decide +kernel
theorem d_M_run_59 : decode b_M_run 59 = .ok (.putfield 254, 3) := by decide +kernel
theorem d_M_run_62 : decode b_M_run 62 = .ok (.aload_n 0, 1) := by decide +kernel
theorem d_M_run_63 : decode b_M_run 63 = .ok (.iconst 0, 1) := by decide +kernel
theorem d_M_run_64 : decode b_M_run 64 = .ok (.putfield 257, 3) := by decide +kernel
theorem d_M_run_67 : decode b_M_run 67 = .ok (.aload_n 0, 1) := by decide +kernel
theorem d_M_run_68 : decode b_M_run 68 = .ok (.iconst 0, 1) := by decide +kernel
theorem d_M_run_69 : decode b_M_run 69 = .ok (.putfield 260, 3) := by decide +kernel
theorem d_M_run_72 : decode b_M_run 72 = .ok (.sipush (-1000), 3) := by decide +kernel
theorem d_M_run_75 : decode b_M_run 75 = .ok (.aload_n 0, 1) := by decide +kernel
theorem d_M_run_76 : decode b_M_run 76 = .ok (.getfield 190, 3) := by decide +kernel
theorem d_M_run_79 : decode b_M_run 79 = .ok (.imul, 1) := by decide +kernel
theorem d_M_run_80 : decode b_M_run 80 = .ok (.aload_n 0, 1) := by decide +kernel
theorem d_M_run_81 : decode b_M_run 81 = .ok (.getfield 206, 3) := by decide +kernel
theorem d_M_run_84 : decode b_M_run 84 = .ok (.isub, 1) := by decide +kernel
theorem d_M_run_85 : decode b_M_run 85 = .ok (.ireturn, 1) := by decide +kernel
def wq_M_run_38 (post : Int32 → StM → Prop)  (S : StM)  : Prop :=
  (((S.1 14) = 0) → post (0) ((upd S.1 1 (0)), S.2)) ∧ (¬ ((S.1 14) = 0) → post ((((-1000) * (S.1 14)) - (S.1 3))) ((upd (upd (upd (upd (upd S.1 1 (0)) 6 (0)) 8 (0)) 25 (0)) 21 (0)), S.2))
def wq_M_run_17 (post : Int32 → StM → Prop)  : Nat → StM → Prop
  | 0, _ => False
  | n17 + 1, S =>
    (((S.1 14) = 0) → wp_M_nextToken (fun (r2 : Int32) (S1 : StM) => (((r2 = 0) → wq_M_run_38 post  S1 ) ∧ (¬ (r2 = 0) → wp_M_read (fun S3 : StM => ((wq_M_run_17 post  n17) S3 )) S1 ))) S ) ∧ (¬ ((S.1 14) = 0) → wq_M_run_38 post  S )
def wp_M_run (post : Int32 → StM → Prop) (S : StM)  : Prop :=
  ∃ nn : Nat, wq_M_run_17 post  nn ((upd (upd (upd S.1 2 (0)) 13 (600)) 14 (0)), S.2) 
set_option maxRecDepth 100000 in
set_option maxHeartbeats 4000000 in
theorem c_M_run (l : Launch) (g : Gm) (sz : Nat) (S : StM)  (post : Int32 → StM → Prop) (hw : wp_M_run post S ) : Met l y_M_run (.code y_M_run b_M_run 1 (some .int) :: w_M) (rmM 8 181) (va_Pc [.ref (g.2.2 0)] (PM g sz S)) (va_Qi post (BM g sz) (AM g sz)) 0 0 (AM g sz) := by
  refine ofM_i (by decide) (Nat.le_of_ble_eq_true rfl) (fun p e s m args below meth c Q H locs ls hx hb hml hts hown hK hA kr hl hP hD hS => ?_)
  have hl : lv_has ls 1 [(0, .ref (g.2.2 0))] := hl
  unfold wp_M_run at hw
  have J38 : ∀ (S : StM)  (H : Heap) (locs : List Loc) (ls : Array Slot), wq_M_run_38 post  S  → lv_has ls 1 [(0, .ref (g.2.2 0))] → va_P g.1 classes (wM g S) H → va_D (AM g s.heap.size) (wM g S) → va_S (AM g s.heap.size) s.heap H locs → W p l e (rmM 8 181) s m args below meth c H locs 0 0 Q (F0 m 38 ls []) := by
    intro S  H locs ls hw hl hP hD hS
    unfold wq_M_run_38 at hw
    refine lv_aload_n hx hb d_M_run_38 rfl (lv_at hl 0 rfl) ?_
    refine lv_iconst (v := 0) hx hb d_M_run_39 (by decide) ?_
    refine pt_M (S2 := ((upd S.1 1 (0)), S.2)) (v := .int (0)) hx hb hown hts hK hP hD hS 1 (by decide) rfl rfl rfl (sI_M_1 g _ _) k_M_107 d_M_run_40 (fun H locs hP hD hS => ?_)
    refine lv_aload_n hx hb d_M_run_43 rfl (lv_at hl 0 rfl) ?_
    refine gt_M (v := .int ((S.1 14))) hx hb hown hts hK hP 14 (by decide) rfl k_M_120 d_M_run_44 ?_
    refine lv_if_ne hx hb d_M_run_47 (tgt := 52) (by decide) (fun hc => ?_) (fun hc => ?_)
    · have hw := hw.2 hc
      refine lv_aload_n hx hb d_M_run_52 rfl (lv_at hl 0 rfl) ?_
      refine lv_iconst (v := 0) hx hb d_M_run_53 (by decide) ?_
      refine pt_M (S2 := ((upd (upd S.1 1 (0)) 6 (0)), S.2)) (v := .int (0)) hx hb hown hts hK hP hD hS 6 (by decide) rfl rfl rfl (sI_M_6 g _ _) k_M_112 d_M_run_54 (fun H locs hP hD hS => ?_)
      refine lv_aload_n hx hb d_M_run_57 rfl (lv_at hl 0 rfl) ?_
      refine lv_iconst (v := 0) hx hb d_M_run_58 (by decide) ?_
      refine pt_M (S2 := ((upd (upd (upd S.1 1 (0)) 6 (0)) 8 (0)), S.2)) (v := .int (0)) hx hb hown hts hK hP hD hS 8 (by decide) rfl rfl rfl (sI_M_8 g _ _) k_M_114 d_M_run_59 (fun H locs hP hD hS => ?_)
      refine lv_aload_n hx hb d_M_run_62 rfl (lv_at hl 0 rfl) ?_
      refine lv_iconst (v := 0) hx hb d_M_run_63 (by decide) ?_
      refine pt_M (S2 := ((upd (upd (upd (upd S.1 1 (0)) 6 (0)) 8 (0)) 25 (0)), S.2)) (v := .int (0)) hx hb hown hts hK hP hD hS 25 (by decide) rfl rfl rfl (sI_M_25 g _ _) k_M_131 d_M_run_64 (fun H locs hP hD hS => ?_)
      refine lv_aload_n hx hb d_M_run_67 rfl (lv_at hl 0 rfl) ?_
      refine lv_iconst (v := 0) hx hb d_M_run_68 (by decide) ?_
      refine pt_M (S2 := ((upd (upd (upd (upd (upd S.1 1 (0)) 6 (0)) 8 (0)) 25 (0)) 21 (0)), S.2)) (v := .int (0)) hx hb hown hts hK hP hD hS 21 (by decide) rfl rfl rfl (sI_M_21 g _ _) k_M_127 d_M_run_69 (fun H locs hP hD hS => ?_)
      refine lv_sipush (v := -1000) hx hb d_M_run_72 (by decide) ?_
      refine lv_aload_n hx hb d_M_run_75 rfl (lv_at hl 0 rfl) ?_
      refine gt_M (v := .int ((S.1 14))) hx hb hown hts hK hP 14 (by decide) rfl k_M_120 d_M_run_76 ?_
      refine lv_imul hx hb d_M_run_79 ?_
      refine lv_aload_n hx hb d_M_run_80 rfl (lv_at hl 0 rfl) ?_
      refine gt_M (v := .int ((S.1 3))) hx hb hown hts hK hP 3 (by decide) rfl k_M_109 d_M_run_81 ?_
      refine lv_isub hx hb d_M_run_84 ?_
      exact kr ((((-1000) * (S.1 14)) - (S.1 3))) ((upd (upd (upd (upd (upd S.1 1 (0)) 6 (0)) 8 (0)) 25 (0)) 21 (0)), S.2) _ _ _ _ hw hP hD hS d_M_run_85
    · have hw := hw.1 hc
      refine lv_iconst (v := 0) hx hb d_M_run_50 (by decide) ?_
      exact kr (0) ((upd S.1 1 (0)), S.2) _ _ _ _ hw hP hD hS d_M_run_51
  have J17 : ∀ (n17 : Nat), ∀ (S : StM)  (H : Heap) (locs : List Loc) (ls : Array Slot), wq_M_run_17 post  n17 S  → lv_has ls 1 [(0, .ref (g.2.2 0))] → va_P g.1 classes (wM g S) H → va_D (AM g s.heap.size) (wM g S) → va_S (AM g s.heap.size) s.heap H locs → W p l e (rmM 8 181) s m args below meth c H locs 0 0 Q (F0 m 17 ls []) := by
    intro n17
    induction n17 with
    | zero => intro S  H locs ls hw; exact hw.elim
    | succ n17 ih17 =>
      intro S  H locs ls hw hl hP hD hS
      unfold wq_M_run_17 at hw
      refine lv_aload_n hx hb d_M_run_17 rfl (lv_at hl 0 rfl) ?_
      refine gt_M (v := .int ((S.1 14))) hx hb hown hts hK hP 14 (by decide) rfl k_M_120 d_M_run_18 ?_
      refine lv_if_ne hx hb d_M_run_21 (tgt := 38) (by decide) (fun hc => ?_) (fun hc => ?_)
      · have hw := hw.2 hc
        exact J38 S  _ _ _ hw (lv_sub hl [0] rfl) hP hD hS
      · have hw := hw.1 hc
        refine lv_aload_n hx hb d_M_run_24 rfl (lv_at hl 0 rfl) ?_
        refine cM_i (As := []) (rest := []) hx hb hml hown hts hK hP hD hS hA (Nat.zero_le _) (Nat.zero_le _) hl.1 (q_M_nextToken hts ⟨Nat.le_of_ble_eq_true rfl, Nat.le_of_ble_eq_true rfl⟩) (c_M_nextToken l g H.size _  _ hw) rfl rfl (Nat.le_of_ble_eq_true rfl) d_M_run_25 (fun r2 S1 H locs hw hP hD hS => ?_)
        refine lv_if_eq hx hb d_M_run_28 (tgt := 38) (by decide) (fun hc => ?_) (fun hc => ?_)
        · have hw := hw.1 hc
          exact J38 S1  _ _ _ hw (lv_sub hl [0] rfl) hP hD hS
        · have hw := hw.2 hc
          refine lv_aload_n hx hb d_M_run_31 rfl (lv_at hl 0 rfl) ?_
          refine cM_v (As := []) (rest := []) hx hb hml hown hts hK hP hD hS hA (Nat.zero_le _) (Nat.zero_le _) hl.1 (q_M_read hts ⟨Nat.le_of_ble_eq_true rfl, Nat.le_of_ble_eq_true rfl⟩) (c_M_read l g H.size _  _ hw) rfl rfl (Nat.le_of_ble_eq_true rfl) d_M_run_32 (fun S3 H locs hw hP hD hS => ?_)
          refine lv_goto hx hb d_M_run_35 (tgt := 17) (by decide) ?_
          exact ih17 S3  _ _ _ hw (lv_sub hl [0] rfl) hP hD hS
  refine lv_aload_n hx hb d_M_run_0 rfl (lv_at hl 0 rfl) ?_
  refine lv_iconst (v := 0) hx hb d_M_run_1 (by decide) ?_
  refine pt_M (S2 := ((upd S.1 2 (0)), S.2)) (v := .int (0)) hx hb hown hts hK hP hD hS 2 (by decide) rfl rfl rfl (sI_M_2 g _ _) k_M_108 d_M_run_2 (fun H locs hP hD hS => ?_)
  refine lv_aload_n hx hb d_M_run_5 rfl (lv_at hl 0 rfl) ?_
  refine lv_sipush (v := 600) hx hb d_M_run_6 (by decide) ?_
  refine pt_M (S2 := ((upd (upd S.1 2 (0)) 13 (600)), S.2)) (v := .int (600)) hx hb hown hts hK hP hD hS 13 (by decide) rfl rfl rfl (sI_M_13 g _ _) k_M_119 d_M_run_9 (fun H locs hP hD hS => ?_)
  refine lv_aload_n hx hb d_M_run_12 rfl (lv_at hl 0 rfl) ?_
  refine lv_iconst (v := 0) hx hb d_M_run_13 (by decide) ?_
  refine pt_M (S2 := ((upd (upd (upd S.1 2 (0)) 13 (600)) 14 (0)), S.2)) (v := .int (0)) hx hb hown hts hK hP hD hS 14 (by decide) rfl rfl rfl (sI_M_14 g _ _) k_M_120 d_M_run_14 (fun H locs hP hD hS => ?_)
  obtain ⟨nn, hw⟩ := hw
  exact J17 nn ((upd (upd (upd S.1 2 (0)) 13 (600)) 14 (0)), S.2)  _ _ _ hw (lv_sub hl [0] rfl) hP hD hS
theorem d_M_count_0 : decode b_M_count 0 = .ok (.iload_n 1, 1) := by decide +kernel
theorem d_M_count_1 : decode b_M_count 1 = .ok (.iconst 4, 1) := by decide +kernel
theorem d_M_count_2 : decode b_M_count 2 = .ok (.if_icmp .ge 52, 3) := by decide +kernel
theorem d_M_count_5 : decode b_M_count 5 = .ok (.iload_n 1, 1) := by decide +kernel
theorem d_M_count_6 : decode b_M_count 6 = .ok (.ifCond .ne 10, 3) := by decide +kernel
theorem d_M_count_9 : decode b_M_count 9 = .ok (.aload_n 0, 1) := by decide +kernel
theorem d_M_count_10 : decode b_M_count 10 = .ok (.getfield 193, 3) := by decide +kernel
theorem d_M_count_13 : decode b_M_count 13 = .ok (.goto 40, 3) := by decide +kernel
theorem d_M_count_16 : decode b_M_count 16 = .ok (.iload_n 1, 1) := by decide +kernel
theorem d_M_count_17 : decode b_M_count 17 = .ok (.iconst 1, 1) := by decide +kernel
theorem d_M_count_18 : decode b_M_count 18 = .ok (.if_icmp .ne 10, 3) := by decide +kernel
theorem d_M_count_21 : decode b_M_count 21 = .ok (.aload_n 0, 1) := by decide +kernel
theorem d_M_count_22 : decode b_M_count 22 = .ok (.getfield 254, 3) := by decide +kernel
theorem d_M_count_25 : decode b_M_count 25 = .ok (.goto 28, 3) := by decide +kernel
theorem d_M_count_28 : decode b_M_count 28 = .ok (.iload_n 1, 1) := by decide +kernel
theorem d_M_count_29 : decode b_M_count 29 = .ok (.iconst 2, 1) := by decide +kernel
theorem d_M_count_30 : decode b_M_count 30 = .ok (.if_icmp .ne 10, 3) := by decide +kernel
theorem d_M_count_33 : decode b_M_count 33 = .ok (.aload_n 0, 1) := by decide +kernel
theorem d_M_count_34 : decode b_M_count 34 = .ok (.getfield 248, 3) := by decide +kernel
theorem d_M_count_37 : decode b_M_count 37 = .ok (.goto 16, 3) := by decide +kernel
theorem d_M_count_40 : decode b_M_count 40 = .ok (.iload_n 1, 1) := by decide +kernel
theorem d_M_count_41 : decode b_M_count 41 = .ok (.iconst 3, 1) := by decide +kernel
theorem d_M_count_42 : decode b_M_count 42 = .ok (.if_icmp .ne 10, 3) := by decide +kernel
theorem d_M_count_45 : decode b_M_count 45 = .ok (.aload_n 0, 1) := by decide +kernel
theorem d_M_count_46 : decode b_M_count 46 = .ok (.getfield 227, 3) := by decide +kernel
theorem d_M_count_49 : decode b_M_count 49 = .ok (.goto 4, 3) := by decide +kernel
theorem d_M_count_52 : decode b_M_count 52 = .ok (.iconst (-1), 1) := by decide +kernel
theorem d_M_count_53 : decode b_M_count 53 = .ok (.ireturn, 1) := by decide +kernel
theorem d_M_count_54 : decode b_M_count 54 = .ok (.iload_n 1, 1) := by decide +kernel
theorem d_M_count_55 : decode b_M_count 55 = .ok (.iconst 4, 1) := by decide +kernel
theorem d_M_count_56 : decode b_M_count 56 = .ok (.if_icmp .ne 10, 3) := by decide +kernel
theorem d_M_count_59 : decode b_M_count 59 = .ok (.aload_n 0, 1) := by decide +kernel
theorem d_M_count_60 : decode b_M_count 60 = .ok (.getfield 251, 3) := by decide +kernel
theorem d_M_count_63 : decode b_M_count 63 = .ok (.goto 37, 3) := by decide +kernel
theorem d_M_count_66 : decode b_M_count 66 = .ok (.iload_n 1, 1) := by decide +kernel
theorem d_M_count_67 : decode b_M_count 67 = .ok (.iconst 5, 1) := by decide +kernel
theorem d_M_count_68 : decode b_M_count 68 = .ok (.if_icmp .ne 18, 3) := by decide +kernel
theorem d_M_count_71 : decode b_M_count 71 = .ok (.aload_n 0, 1) := by decide +kernel
theorem d_M_count_72 : decode b_M_count 72 = .ok (.getfield 260, 3) := by decide +kernel
theorem d_M_count_75 : decode b_M_count 75 = .ok (.ifCond .eq 7, 3) := by decide +kernel
theorem d_M_count_78 : decode b_M_count 78 = .ok (.iconst 1, 1) := by decide +kernel
theorem d_M_count_79 : decode b_M_count 79 = .ok (.goto 21, 3) := by decide +kernel
theorem d_M_count_82 : decode b_M_count 82 = .ok (.iconst 0, 1) := by decide +kernel
theorem d_M_count_83 : decode b_M_count 83 = .ok (.goto 17, 3) := by decide +kernel
theorem d_M_count_86 : decode b_M_count 86 = .ok (.iload_n 1, 1) := by decide +kernel
theorem d_M_count_87 : decode b_M_count 87 = .ok (.bipush 6, 2) := by decide +kernel
theorem d_M_count_89 : decode b_M_count 89 = .ok (.if_icmp .ne 10, 3) := by decide +kernel
theorem d_M_count_92 : decode b_M_count 92 = .ok (.aload_n 0, 1) := by decide +kernel
theorem d_M_count_93 : decode b_M_count 93 = .ok (.getfield 325, 3) := by decide +kernel
theorem d_M_count_96 : decode b_M_count 96 = .ok (.goto 4, 3) := by decide +kernel
theorem d_M_count_99 : decode b_M_count 99 = .ok (.iconst (-1), 1) := by decide +kernel
theorem d_M_count_100 : decode b_M_count 100 = .ok (.ireturn, 1) := by decide +kernel
def wq_M_count_100 (post : Int32 → StM → Prop)  (S : StM) (t0 : Int32) : Prop :=
  post (t0) S
def wq_M_count_53 (post : Int32 → StM → Prop)  (S : StM) (t0 : Int32) : Prop :=
  post (t0) S
def wp_M_count (post : Int32 → StM → Prop) (S : StM) (a0 : Int32) : Prop :=
  ((4 ≤ a0) → ((a0 = 4) → wq_M_count_100 post  S ((S.1 10))) ∧ (¬ (a0 = 4) → ((a0 = 5) → (((S.1 21) = 0) → wq_M_count_100 post  S (0)) ∧ (¬ ((S.1 21) = 0) → wq_M_count_100 post  S (1))) ∧ (¬ (a0 = 5) → ((a0 = 6) → wq_M_count_100 post  S ((S.1 13))) ∧ (¬ (a0 = 6) → wq_M_count_100 post  S ((-1)))))) ∧ (¬ (4 ≤ a0) → ((a0 = 0) → wq_M_count_53 post  S ((S.1 6))) ∧ (¬ (a0 = 0) → ((a0 = 1) → wq_M_count_53 post  S ((S.1 8))) ∧ (¬ (a0 = 1) → ((a0 = 2) → wq_M_count_53 post  S ((S.1 11))) ∧ (¬ (a0 = 2) → ((a0 = 3) → wq_M_count_53 post  S ((S.1 20))) ∧ (¬ (a0 = 3) → wq_M_count_53 post  S ((-1)))))))
set_option maxRecDepth 100000 in
set_option maxHeartbeats 4000000 in
theorem c_M_count (l : Launch) (g : Gm) (sz : Nat) (S : StM) (a0 : Int32) (post : Int32 → StM → Prop) (hw : wp_M_count post S a0) : Met l y_M_count (.code y_M_count b_M_count 2 (some .int) :: w_M) (rmM 0 0) (va_Pc [.ref (g.2.2 0), .int (a0)] (PM g sz S)) (va_Qi post (BM g sz) (AM g sz)) 0 0 (AM g sz) := by
  refine ofM_i (by decide) (Nat.le_of_ble_eq_true rfl) (fun p e s m args below meth c Q H locs ls hx hb hml hts hown hK hA kr hl hP hD hS => ?_)
  have hl : lv_has ls 2 [(0, .ref (g.2.2 0)), (1, .int (a0))] := hl
  unfold wp_M_count at hw
  have J100 : ∀ (S : StM) (t0 : Int32) (H : Heap) (locs : List Loc) (ls : Array Slot), wq_M_count_100 post  S t0 → lv_has ls 2 [] → va_P g.1 classes (wM g S) H → va_D (AM g s.heap.size) (wM g S) → va_S (AM g s.heap.size) s.heap H locs → W p l e (rmM 0 0) s m args below meth c H locs 0 0 Q (F0 m 100 ls [.int (t0)]) := by
    intro S t0 H locs ls hw hl hP hD hS
    unfold wq_M_count_100 at hw
    exact kr (t0) S _ _ _ _ hw hP hD hS d_M_count_100
  have J53 : ∀ (S : StM) (t0 : Int32) (H : Heap) (locs : List Loc) (ls : Array Slot), wq_M_count_53 post  S t0 → lv_has ls 2 [] → va_P g.1 classes (wM g S) H → va_D (AM g s.heap.size) (wM g S) → va_S (AM g s.heap.size) s.heap H locs → W p l e (rmM 0 0) s m args below meth c H locs 0 0 Q (F0 m 53 ls [.int (t0)]) := by
    intro S t0 H locs ls hw hl hP hD hS
    unfold wq_M_count_53 at hw
    exact kr (t0) S _ _ _ _ hw hP hD hS d_M_count_53
  refine lv_iload_n hx hb d_M_count_0 rfl (lv_at hl 1 rfl) ?_
  refine lv_iconst (v := 4) hx hb d_M_count_1 (by decide) ?_
  refine lv_icmp_ge hx hb d_M_count_2 (tgt := 54) (by decide) (fun hc => ?_) (fun hc => ?_)
  · have hw := hw.1 hc
    refine lv_iload_n hx hb d_M_count_54 rfl (lv_at hl 1 rfl) ?_
    refine lv_iconst (v := 4) hx hb d_M_count_55 (by decide) ?_
    refine lv_icmp_ne hx hb d_M_count_56 (tgt := 66) (by decide) (fun hc => ?_) (fun hc => ?_)
    · have hw := hw.2 hc
      refine lv_iload_n hx hb d_M_count_66 rfl (lv_at hl 1 rfl) ?_
      refine lv_iconst (v := 5) hx hb d_M_count_67 (by decide) ?_
      refine lv_icmp_ne hx hb d_M_count_68 (tgt := 86) (by decide) (fun hc => ?_) (fun hc => ?_)
      · have hw := hw.2 hc
        refine lv_iload_n hx hb d_M_count_86 rfl (lv_at hl 1 rfl) ?_
        refine lv_bipush (v := 6) hx hb d_M_count_87 (by decide) ?_
        refine lv_icmp_ne hx hb d_M_count_89 (tgt := 99) (by decide) (fun hc => ?_) (fun hc => ?_)
        · have hw := hw.2 hc
          refine lv_iconst (v := -1) hx hb d_M_count_99 (by decide) ?_
          exact J100 S ((-1)) _ _ _ hw (lv_sub hl [] rfl) hP hD hS
        · have hw := hw.1 hc
          refine lv_aload_n hx hb d_M_count_92 rfl (lv_at hl 0 rfl) ?_
          refine gt_M (v := .int ((S.1 13))) hx hb hown hts hK hP 13 (by decide) rfl k_M_119 d_M_count_93 ?_
          refine lv_goto hx hb d_M_count_96 (tgt := 100) (by decide) ?_
          exact J100 S ((S.1 13)) _ _ _ hw (lv_sub hl [] rfl) hP hD hS
      · have hw := hw.1 hc
        refine lv_aload_n hx hb d_M_count_71 rfl (lv_at hl 0 rfl) ?_
        refine gt_M (v := .int ((S.1 21))) hx hb hown hts hK hP 21 (by decide) rfl k_M_127 d_M_count_72 ?_
        refine lv_if_eq hx hb d_M_count_75 (tgt := 82) (by decide) (fun hc => ?_) (fun hc => ?_)
        · have hw := hw.1 hc
          refine lv_iconst (v := 0) hx hb d_M_count_82 (by decide) ?_
          refine lv_goto hx hb d_M_count_83 (tgt := 100) (by decide) ?_
          exact J100 S (0) _ _ _ hw (lv_sub hl [] rfl) hP hD hS
        · have hw := hw.2 hc
          refine lv_iconst (v := 1) hx hb d_M_count_78 (by decide) ?_
          refine lv_goto hx hb d_M_count_79 (tgt := 100) (by decide) ?_
          exact J100 S (1) _ _ _ hw (lv_sub hl [] rfl) hP hD hS
    · have hw := hw.1 hc
      refine lv_aload_n hx hb d_M_count_59 rfl (lv_at hl 0 rfl) ?_
      refine gt_M (v := .int ((S.1 10))) hx hb hown hts hK hP 10 (by decide) rfl k_M_116 d_M_count_60 ?_
      refine lv_goto hx hb d_M_count_63 (tgt := 100) (by decide) ?_
      exact J100 S ((S.1 10)) _ _ _ hw (lv_sub hl [] rfl) hP hD hS
  · have hw := hw.2 hc
    refine lv_iload_n hx hb d_M_count_5 rfl (lv_at hl 1 rfl) ?_
    refine lv_if_ne hx hb d_M_count_6 (tgt := 16) (by decide) (fun hc => ?_) (fun hc => ?_)
    · have hw := hw.2 hc
      refine lv_iload_n hx hb d_M_count_16 rfl (lv_at hl 1 rfl) ?_
      refine lv_iconst (v := 1) hx hb d_M_count_17 (by decide) ?_
      refine lv_icmp_ne hx hb d_M_count_18 (tgt := 28) (by decide) (fun hc => ?_) (fun hc => ?_)
      · have hw := hw.2 hc
        refine lv_iload_n hx hb d_M_count_28 rfl (lv_at hl 1 rfl) ?_
        refine lv_iconst (v := 2) hx hb d_M_count_29 (by decide) ?_
        refine lv_icmp_ne hx hb d_M_count_30 (tgt := 40) (by decide) (fun hc => ?_) (fun hc => ?_)
        · have hw := hw.2 hc
          refine lv_iload_n hx hb d_M_count_40 rfl (lv_at hl 1 rfl) ?_
          refine lv_iconst (v := 3) hx hb d_M_count_41 (by decide) ?_
          refine lv_icmp_ne hx hb d_M_count_42 (tgt := 52) (by decide) (fun hc => ?_) (fun hc => ?_)
          · have hw := hw.2 hc
            refine lv_iconst (v := -1) hx hb d_M_count_52 (by decide) ?_
            exact J53 S ((-1)) _ _ _ hw (lv_sub hl [] rfl) hP hD hS
          · have hw := hw.1 hc
            refine lv_aload_n hx hb d_M_count_45 rfl (lv_at hl 0 rfl) ?_
            refine gt_M (v := .int ((S.1 20))) hx hb hown hts hK hP 20 (by decide) rfl k_M_126 d_M_count_46 ?_
            refine lv_goto hx hb d_M_count_49 (tgt := 53) (by decide) ?_
            exact J53 S ((S.1 20)) _ _ _ hw (lv_sub hl [] rfl) hP hD hS
        · have hw := hw.1 hc
          refine lv_aload_n hx hb d_M_count_33 rfl (lv_at hl 0 rfl) ?_
          refine gt_M (v := .int ((S.1 11))) hx hb hown hts hK hP 11 (by decide) rfl k_M_117 d_M_count_34 ?_
          refine lv_goto hx hb d_M_count_37 (tgt := 53) (by decide) ?_
          exact J53 S ((S.1 11)) _ _ _ hw (lv_sub hl [] rfl) hP hD hS
      · have hw := hw.1 hc
        refine lv_aload_n hx hb d_M_count_21 rfl (lv_at hl 0 rfl) ?_
        refine gt_M (v := .int ((S.1 8))) hx hb hown hts hK hP 8 (by decide) rfl k_M_114 d_M_count_22 ?_
        refine lv_goto hx hb d_M_count_25 (tgt := 53) (by decide) ?_
        exact J53 S ((S.1 8)) _ _ _ hw (lv_sub hl [] rfl) hP hD hS
    · have hw := hw.1 hc
      refine lv_aload_n hx hb d_M_count_9 rfl (lv_at hl 0 rfl) ?_
      refine gt_M (v := .int ((S.1 6))) hx hb hown hts hK hP 6 (by decide) rfl k_M_112 d_M_count_10 ?_
      refine lv_goto hx hb d_M_count_13 (tgt := 53) (by decide) ?_
      exact J53 S ((S.1 6)) _ _ _ hw (lv_sub hl [] rfl) hP hD hS
theorem d_M_stack_0 : decode b_M_stack 0 = .ok (.iload_n 1, 1) := by decide +kernel
theorem d_M_stack_1 : decode b_M_stack 1 = .ok (.iconst 0, 1) := by decide +kernel
theorem d_M_stack_2 : decode b_M_stack 2 = .ok (.aload_n 0, 1) := by decide +kernel
theorem d_M_stack_3 : decode b_M_stack 3 = .ok (.getfield 193, 3) := by decide +kernel
theorem d_M_stack_6 : decode b_M_stack 6 = .ok (.iconst 1, 1) := by decide +kernel
theorem d_M_stack_7 : decode b_M_stack 7 = .ok (.isub, 1) := by decide +kernel
theorem d_M_stack_8 : decode b_M_stack 8 = .ok (.invokestatic 212, 3) := by decide +kernel
theorem d_M_stack_11 : decode b_M_stack 11 = .ok (.ifCond .eq 11, 3) := by decide +kernel
theorem d_M_stack_14 : decode b_M_stack 14 = .ok (.aload_n 0, 1) := by decide +kernel
theorem d_M_stack_15 : decode b_M_stack 15 = .ok (.iload_n 1, 1) := by decide +kernel
theorem d_M_stack_16 : decode b_M_stack 16 = .ok (.invokevirtual 234, 3) := by decide +kernel
theorem d_M_stack_19 : decode b_M_stack 19 = .ok (.goto 4, 3) := by decide +kernel
theorem d_M_stack_22 : decode b_M_stack 22 = .ok (.iconst 0, 1) := by decide +kernel
theorem d_M_stack_23 : decode b_M_stack 23 = .ok (.ireturn, 1) := by decide +kernel
def wq_M_stack_23 (post : Int32 → StM → Prop)  (S : StM) (t0 : Int32) : Prop :=
  post (t0) S
def wp_M_stack (post : Int32 → StM → Prop) (S : StM) (a0 : Int32) : Prop :=
  wp_M_in (fun (r2 : Int32) (S1 : StM) => (((r2 = 0) → wq_M_stack_23 post  S1 (0)) ∧ (¬ (r2 = 0) → wp_M_top (fun (r4 : Int32) (S3 : StM) => (wq_M_stack_23 post  S3 (r4))) S1 (a0)))) S (a0) (0) (((S.1 6) - 1))
set_option maxRecDepth 100000 in
set_option maxHeartbeats 4000000 in
theorem c_M_stack (l : Launch) (g : Gm) (sz : Nat) (S : StM) (a0 : Int32) (post : Int32 → StM → Prop) (hw : wp_M_stack post S a0) : Met l y_M_stack (.code y_M_stack b_M_stack 2 (some .int) :: w_M) (rmM 1 22) (va_Pc [.ref (g.2.2 0), .int (a0)] (PM g sz S)) (va_Qi post (BM g sz) (AM g sz)) 0 0 (AM g sz) := by
  refine ofM_i (by decide) (Nat.le_of_ble_eq_true rfl) (fun p e s m args below meth c Q H locs ls hx hb hml hts hown hK hA kr hl hP hD hS => ?_)
  have hl : lv_has ls 2 [(0, .ref (g.2.2 0)), (1, .int (a0))] := hl
  unfold wp_M_stack at hw
  have J23 : ∀ (S : StM) (t0 : Int32) (H : Heap) (locs : List Loc) (ls : Array Slot), wq_M_stack_23 post  S t0 → lv_has ls 2 [] → va_P g.1 classes (wM g S) H → va_D (AM g s.heap.size) (wM g S) → va_S (AM g s.heap.size) s.heap H locs → W p l e (rmM 1 22) s m args below meth c H locs 0 0 Q (F0 m 23 ls [.int (t0)]) := by
    intro S t0 H locs ls hw hl hP hD hS
    unfold wq_M_stack_23 at hw
    exact kr (t0) S _ _ _ _ hw hP hD hS d_M_stack_23
  refine lv_iload_n hx hb d_M_stack_0 rfl (lv_at hl 1 rfl) ?_
  refine lv_iconst (v := 0) hx hb d_M_stack_1 (by decide) ?_
  refine lv_aload_n hx hb d_M_stack_2 rfl (lv_at hl 0 rfl) ?_
  refine gt_M (v := .int ((S.1 6))) hx hb hown hts hK hP 6 (by decide) rfl k_M_112 d_M_stack_3 ?_
  refine lv_iconst (v := 1) hx hb d_M_stack_6 (by decide) ?_
  refine lv_isub hx hb d_M_stack_7 ?_
  refine cM_iS (As := [.int (a0), .int (0), .int (((S.1 6) - 1))]) (rest := []) hx hb hml hown hts hK hP hD hS hA (Nat.zero_le _) (Nat.zero_le _) hl.1 (q_M_in hts ⟨Nat.le_of_ble_eq_true rfl, Nat.le_of_ble_eq_true rfl⟩) (c_M_in l g H.size _ (a0) (0) (((S.1 6) - 1)) _ hw) rfl rfl (Nat.le_of_ble_eq_true rfl) d_M_stack_8 (fun r2 S1 H locs hw hP hD hS => ?_)
  refine lv_if_eq hx hb d_M_stack_11 (tgt := 22) (by decide) (fun hc => ?_) (fun hc => ?_)
  · have hw := hw.1 hc
    refine lv_iconst (v := 0) hx hb d_M_stack_22 (by decide) ?_
    exact J23 S1 (0) _ _ _ hw (lv_sub hl [] rfl) hP hD hS
  · have hw := hw.2 hc
    refine lv_aload_n hx hb d_M_stack_14 rfl (lv_at hl 0 rfl) ?_
    refine lv_iload_n hx hb d_M_stack_15 rfl (lv_at hl 1 rfl) ?_
    refine cM_i (As := [.int (a0)]) (rest := []) hx hb hml hown hts hK hP hD hS hA (Nat.zero_le _) (Nat.zero_le _) hl.1 (q_M_top hts ⟨Nat.le_of_ble_eq_true rfl, Nat.le_of_ble_eq_true rfl⟩) (c_M_top l g H.size _ (a0) _ hw) rfl rfl (Nat.le_of_ble_eq_true rfl) d_M_stack_16 (fun r4 S3 H locs hw hP hD hS => ?_)
    refine lv_goto hx hb d_M_stack_19 (tgt := 23) (by decide) ?_
    exact J23 S3 (r4) _ _ _ hw (lv_sub hl [] rfl) hP hD hS
theorem d_M_out_0 : decode b_M_out 0 = .ok (.iload_n 1, 1) := by decide +kernel
theorem d_M_out_1 : decode b_M_out 1 = .ok (.iconst 0, 1) := by decide +kernel
theorem d_M_out_2 : decode b_M_out 2 = .ok (.bipush 39, 2) := by decide +kernel
theorem d_M_out_4 : decode b_M_out 4 = .ok (.invokestatic 212, 3) := by decide +kernel
theorem d_M_out_7 : decode b_M_out 7 = .ok (.ifCond .eq 20, 3) := by decide +kernel
theorem d_M_out_10 : decode b_M_out 10 = .ok (.iload_n 1, 1) := by decide +kernel
theorem d_M_out_11 : decode b_M_out 11 = .ok (.aload_n 0, 1) := by decide +kernel
theorem d_M_out_12 : decode b_M_out 12 = .ok (.getfield 248, 3) := by decide +kernel
theorem d_M_out_15 : decode b_M_out 15 = .ok (.if_icmp .ge 12, 3) := by decide +kernel
theorem d_M_out_18 : decode b_M_out 18 = .ok (.aload_n 0, 1) := by decide +kernel
theorem d_M_out_19 : decode b_M_out 19 = .ok (.getfield 22, 3) := by decide +kernel
theorem d_M_out_22 : decode b_M_out 22 = .ok (.iload_n 1, 1) := by decide +kernel
theorem d_M_out_23 : decode b_M_out 23 = .ok (.iaload, 1) := by decide +kernel
theorem d_M_out_24 : decode b_M_out 24 = .ok (.goto 4, 3) := by decide +kernel
theorem d_M_out_27 : decode b_M_out 27 = .ok (.iconst 0, 1) := by decide +kernel
theorem d_M_out_28 : decode b_M_out 28 = .ok (.ireturn, 1) := by decide +kernel
def wq_M_out_28 (post : Int32 → StM → Prop)  (S : StM) (t0 : Int32) : Prop :=
  post (t0) S
def wq_M_out_27 (post : Int32 → StM → Prop)  (S : StM)  : Prop :=
  wq_M_out_28 post  S (0)
def wp_M_out (post : Int32 → StM → Prop) (S : StM) (a0 : Int32) : Prop :=
  wp_M_in (fun (r2 : Int32) (S1 : StM) => (((r2 = 0) → wq_M_out_27 post  S1 ) ∧ (¬ (r2 = 0) → (((S1.1 11) ≤ a0) → wq_M_out_27 post  S1 ) ∧ (¬ ((S1.1 11) ≤ a0) → (vp_in a0 40) ∧ (wq_M_out_28 post  S1 (((S1.2.1 12) (Int32.toNatClampNeg (a0))))))))) S (a0) (0) (39)
set_option maxRecDepth 100000 in
set_option maxHeartbeats 4000000 in
theorem c_M_out (l : Launch) (g : Gm) (sz : Nat) (S : StM) (a0 : Int32) (post : Int32 → StM → Prop) (hw : wp_M_out post S a0) : Met l y_M_out (.code y_M_out b_M_out 2 (some .int) :: w_M) (rmM 1 22) (va_Pc [.ref (g.2.2 0), .int (a0)] (PM g sz S)) (va_Qi post (BM g sz) (AM g sz)) 0 0 (AM g sz) := by
  refine ofM_i (by decide) (Nat.le_of_ble_eq_true rfl) (fun p e s m args below meth c Q H locs ls hx hb hml hts hown hK hA kr hl hP hD hS => ?_)
  have hl : lv_has ls 2 [(0, .ref (g.2.2 0)), (1, .int (a0))] := hl
  unfold wp_M_out at hw
  have J28 : ∀ (S : StM) (t0 : Int32) (H : Heap) (locs : List Loc) (ls : Array Slot), wq_M_out_28 post  S t0 → lv_has ls 2 [] → va_P g.1 classes (wM g S) H → va_D (AM g s.heap.size) (wM g S) → va_S (AM g s.heap.size) s.heap H locs → W p l e (rmM 1 22) s m args below meth c H locs 0 0 Q (F0 m 28 ls [.int (t0)]) := by
    intro S t0 H locs ls hw hl hP hD hS
    unfold wq_M_out_28 at hw
    exact kr (t0) S _ _ _ _ hw hP hD hS d_M_out_28
  have J27 : ∀ (S : StM)  (H : Heap) (locs : List Loc) (ls : Array Slot), wq_M_out_27 post  S  → lv_has ls 2 [] → va_P g.1 classes (wM g S) H → va_D (AM g s.heap.size) (wM g S) → va_S (AM g s.heap.size) s.heap H locs → W p l e (rmM 1 22) s m args below meth c H locs 0 0 Q (F0 m 27 ls []) := by
    intro S  H locs ls hw hl hP hD hS
    unfold wq_M_out_27 at hw
    refine lv_iconst (v := 0) hx hb d_M_out_27 (by decide) ?_
    exact J28 S (0) _ _ _ hw (lv_sub hl [] rfl) hP hD hS
  refine lv_iload_n hx hb d_M_out_0 rfl (lv_at hl 1 rfl) ?_
  refine lv_iconst (v := 0) hx hb d_M_out_1 (by decide) ?_
  refine lv_bipush (v := 39) hx hb d_M_out_2 (by decide) ?_
  refine cM_iS (As := [.int (a0), .int (0), .int (39)]) (rest := []) hx hb hml hown hts hK hP hD hS hA (Nat.zero_le _) (Nat.zero_le _) hl.1 (q_M_in hts ⟨Nat.le_of_ble_eq_true rfl, Nat.le_of_ble_eq_true rfl⟩) (c_M_in l g H.size _ (a0) (0) (39) _ hw) rfl rfl (Nat.le_of_ble_eq_true rfl) d_M_out_4 (fun r2 S1 H locs hw hP hD hS => ?_)
  refine lv_if_eq hx hb d_M_out_7 (tgt := 27) (by decide) (fun hc => ?_) (fun hc => ?_)
  · have hw := hw.1 hc
    exact J27 S1  _ _ _ hw (lv_sub hl [] rfl) hP hD hS
  · have hw := hw.2 hc
    refine lv_iload_n hx hb d_M_out_10 rfl (lv_at hl 1 rfl) ?_
    refine lv_aload_n hx hb d_M_out_11 rfl (lv_at hl 0 rfl) ?_
    refine gt_M (v := .int ((S1.1 11))) hx hb hown hts hK hP 11 (by decide) rfl k_M_117 d_M_out_12 ?_
    refine lv_icmp_ge hx hb d_M_out_15 (tgt := 27) (by decide) (fun hc => ?_) (fun hc => ?_)
    · have hw := hw.1 hc
      exact J27 S1  _ _ _ hw (lv_sub hl [] rfl) hP hD hS
    · have hw := hw.2 hc
      refine lv_aload_n hx hb d_M_out_18 rfl (lv_at hl 0 rfl) ?_
      refine gt_M (v := .ref (g.2.2 13)) hx hb hown hts hK hP 12 (by decide) rfl k_M_118 d_M_out_19 ?_
      refine lv_iload_n hx hb d_M_out_22 rfl (lv_at hl 1 rfl) ?_
      obtain ⟨hi, hw⟩ := hw
      refine va_iald (f := (S1.2.1 12)) hx hb hK hP 5 0 rfl rfl hi d_M_out_23 ?_
      refine lv_goto hx hb d_M_out_24 (tgt := 28) (by decide) ?_
      exact J28 S1 (((S1.2.1 12) (Int32.toNatClampNeg (a0)))) _ _ _ hw (lv_sub hl [] rfl) hP hD hS
theorem d_M_cell_0 : decode b_M_cell 0 = .ok (.iload_n 1, 1) := by decide +kernel
theorem d_M_cell_1 : decode b_M_cell 1 = .ok (.iconst 0, 1) := by decide +kernel
theorem d_M_cell_2 : decode b_M_cell 2 = .ok (.bipush 95, 2) := by decide +kernel
theorem d_M_cell_4 : decode b_M_cell 4 = .ok (.invokestatic 212, 3) := by decide +kernel
theorem d_M_cell_7 : decode b_M_cell 7 = .ok (.ifCond .eq 12, 3) := by decide +kernel
theorem d_M_cell_10 : decode b_M_cell 10 = .ok (.aload_n 0, 1) := by decide +kernel
theorem d_M_cell_11 : decode b_M_cell 11 = .ok (.getfield 19, 3) := by decide +kernel
theorem d_M_cell_14 : decode b_M_cell 14 = .ok (.iload_n 1, 1) := by decide +kernel
theorem d_M_cell_15 : decode b_M_cell 15 = .ok (.iaload, 1) := by decide +kernel
theorem d_M_cell_16 : decode b_M_cell 16 = .ok (.goto 4, 3) := by decide +kernel
theorem d_M_cell_19 : decode b_M_cell 19 = .ok (.iconst 0, 1) := by decide +kernel
theorem d_M_cell_20 : decode b_M_cell 20 = .ok (.ireturn, 1) := by decide +kernel
def wq_M_cell_20 (post : Int32 → StM → Prop)  (S : StM) (t0 : Int32) : Prop :=
  post (t0) S
def wp_M_cell (post : Int32 → StM → Prop) (S : StM) (a0 : Int32) : Prop :=
  wp_M_in (fun (r2 : Int32) (S1 : StM) => (((r2 = 0) → wq_M_cell_20 post  S1 (0)) ∧ (¬ (r2 = 0) → (vp_in a0 96) ∧ (wq_M_cell_20 post  S1 (((S1.2.1 9) (Int32.toNatClampNeg (a0)))))))) S (a0) (0) (95)
set_option maxRecDepth 100000 in
set_option maxHeartbeats 4000000 in
theorem c_M_cell (l : Launch) (g : Gm) (sz : Nat) (S : StM) (a0 : Int32) (post : Int32 → StM → Prop) (hw : wp_M_cell post S a0) : Met l y_M_cell (.code y_M_cell b_M_cell 2 (some .int) :: w_M) (rmM 1 22) (va_Pc [.ref (g.2.2 0), .int (a0)] (PM g sz S)) (va_Qi post (BM g sz) (AM g sz)) 0 0 (AM g sz) := by
  refine ofM_i (by decide) (Nat.le_of_ble_eq_true rfl) (fun p e s m args below meth c Q H locs ls hx hb hml hts hown hK hA kr hl hP hD hS => ?_)
  have hl : lv_has ls 2 [(0, .ref (g.2.2 0)), (1, .int (a0))] := hl
  unfold wp_M_cell at hw
  have J20 : ∀ (S : StM) (t0 : Int32) (H : Heap) (locs : List Loc) (ls : Array Slot), wq_M_cell_20 post  S t0 → lv_has ls 2 [] → va_P g.1 classes (wM g S) H → va_D (AM g s.heap.size) (wM g S) → va_S (AM g s.heap.size) s.heap H locs → W p l e (rmM 1 22) s m args below meth c H locs 0 0 Q (F0 m 20 ls [.int (t0)]) := by
    intro S t0 H locs ls hw hl hP hD hS
    unfold wq_M_cell_20 at hw
    exact kr (t0) S _ _ _ _ hw hP hD hS d_M_cell_20
  refine lv_iload_n hx hb d_M_cell_0 rfl (lv_at hl 1 rfl) ?_
  refine lv_iconst (v := 0) hx hb d_M_cell_1 (by decide) ?_
  refine lv_bipush (v := 95) hx hb d_M_cell_2 (by decide) ?_
  refine cM_iS (As := [.int (a0), .int (0), .int (95)]) (rest := []) hx hb hml hown hts hK hP hD hS hA (Nat.zero_le _) (Nat.zero_le _) hl.1 (q_M_in hts ⟨Nat.le_of_ble_eq_true rfl, Nat.le_of_ble_eq_true rfl⟩) (c_M_in l g H.size _ (a0) (0) (95) _ hw) rfl rfl (Nat.le_of_ble_eq_true rfl) d_M_cell_4 (fun r2 S1 H locs hw hP hD hS => ?_)
  refine lv_if_eq hx hb d_M_cell_7 (tgt := 19) (by decide) (fun hc => ?_) (fun hc => ?_)
  · have hw := hw.1 hc
    refine lv_iconst (v := 0) hx hb d_M_cell_19 (by decide) ?_
    exact J20 S1 (0) _ _ _ hw (lv_sub hl [] rfl) hP hD hS
  · have hw := hw.2 hc
    refine lv_aload_n hx hb d_M_cell_10 rfl (lv_at hl 0 rfl) ?_
    refine gt_M (v := .ref (g.2.2 10)) hx hb hown hts hK hP 9 (by decide) rfl k_M_115 d_M_cell_11 ?_
    refine lv_iload_n hx hb d_M_cell_14 rfl (lv_at hl 1 rfl) ?_
    obtain ⟨hi, hw⟩ := hw
    refine va_iald (f := (S1.2.1 9)) hx hb hK hP 4 0 rfl rfl hi d_M_cell_15 ?_
    refine lv_goto hx hb d_M_cell_16 (tgt := 20) (by decide) ?_
    exact J20 S1 (((S1.2.1 9) (Int32.toNatClampNeg (a0)))) _ _ _ hw (lv_sub hl [] rfl) hP hD hS
theorem d_M_disk_0 : decode b_M_disk 0 = .ok (.iload_n 1, 1) := by decide +kernel
theorem d_M_disk_1 : decode b_M_disk 1 = .ok (.iconst 0, 1) := by decide +kernel
theorem d_M_disk_2 : decode b_M_disk 2 = .ok (.iconst 3, 1) := by decide +kernel
theorem d_M_disk_3 : decode b_M_disk 3 = .ok (.invokestatic 212, 3) := by decide +kernel
theorem d_M_disk_6 : decode b_M_disk 6 = .ok (.ifCond .eq 27, 3) := by decide +kernel
theorem d_M_disk_9 : decode b_M_disk 9 = .ok (.iload_n 2, 1) := by decide +kernel
theorem d_M_disk_10 : decode b_M_disk 10 = .ok (.iconst 0, 1) := by decide +kernel
theorem d_M_disk_11 : decode b_M_disk 11 = .ok (.bipush 15, 2) := by decide +kernel
theorem d_M_disk_13 : decode b_M_disk 13 = .ok (.invokestatic 212, 3) := by decide +kernel
theorem d_M_disk_16 : decode b_M_disk 16 = .ok (.ifCond .eq 17, 3) := by decide +kernel
theorem d_M_disk_19 : decode b_M_disk 19 = .ok (.aload_n 0, 1) := by decide +kernel
theorem d_M_disk_20 : decode b_M_disk 20 = .ok (.getfield 63, 3) := by decide +kernel
theorem d_M_disk_23 : decode b_M_disk 23 = .ok (.bipush 16, 2) := by decide +kernel
theorem d_M_disk_25 : decode b_M_disk 25 = .ok (.iload_n 1, 1) := by decide +kernel
theorem d_M_disk_26 : decode b_M_disk 26 = .ok (.imul, 1) := by decide +kernel
theorem d_M_disk_27 : decode b_M_disk 27 = .ok (.iload_n 2, 1) := by decide +kernel
theorem d_M_disk_28 : decode b_M_disk 28 = .ok (.iadd, 1) := by decide +kernel
theorem d_M_disk_29 : decode b_M_disk 29 = .ok (.iaload, 1) := by decide +kernel
theorem d_M_disk_30 : decode b_M_disk 30 = .ok (.goto 4, 3) := by decide +kernel
theorem d_M_disk_33 : decode b_M_disk 33 = .ok (.iconst 0, 1) := by decide +kernel
theorem d_M_disk_34 : decode b_M_disk 34 = .ok (.ireturn, 1) := by decide +kernel
def wq_M_disk_34 (post : Int32 → StM → Prop)  (S : StM) (t0 : Int32) : Prop :=
  post (t0) S
def wq_M_disk_33 (post : Int32 → StM → Prop)  (S : StM)  : Prop :=
  wq_M_disk_34 post  S (0)
def wp_M_disk (post : Int32 → StM → Prop) (S : StM) (a0 : Int32) (a1 : Int32) : Prop :=
  wp_M_in (fun (r2 : Int32) (S1 : StM) => (((r2 = 0) → wq_M_disk_33 post  S1 ) ∧ (¬ (r2 = 0) → wp_M_in (fun (r4 : Int32) (S3 : StM) => (((r4 = 0) → wq_M_disk_33 post  S3 ) ∧ (¬ (r4 = 0) → (vp_in ((16 * a0) + a1) 64) ∧ (wq_M_disk_34 post  S3 (((S3.2.1 31) (Int32.toNatClampNeg (((16 * a0) + a1))))))))) S1 (a1) (0) (15)))) S (a0) (0) (3)
set_option maxRecDepth 100000 in
set_option maxHeartbeats 4000000 in
theorem c_M_disk (l : Launch) (g : Gm) (sz : Nat) (S : StM) (a0 : Int32) (a1 : Int32) (post : Int32 → StM → Prop) (hw : wp_M_disk post S a0 a1) : Met l y_M_disk (.code y_M_disk b_M_disk 3 (some .int) :: w_M) (rmM 1 22) (va_Pc [.ref (g.2.2 0), .int (a0), .int (a1)] (PM g sz S)) (va_Qi post (BM g sz) (AM g sz)) 0 0 (AM g sz) := by
  refine ofM_i (by decide) (Nat.le_of_ble_eq_true rfl) (fun p e s m args below meth c Q H locs ls hx hb hml hts hown hK hA kr hl hP hD hS => ?_)
  have hl : lv_has ls 3 [(0, .ref (g.2.2 0)), (1, .int (a0)), (2, .int (a1))] := hl
  unfold wp_M_disk at hw
  have J34 : ∀ (S : StM) (t0 : Int32) (H : Heap) (locs : List Loc) (ls : Array Slot), wq_M_disk_34 post  S t0 → lv_has ls 3 [] → va_P g.1 classes (wM g S) H → va_D (AM g s.heap.size) (wM g S) → va_S (AM g s.heap.size) s.heap H locs → W p l e (rmM 1 22) s m args below meth c H locs 0 0 Q (F0 m 34 ls [.int (t0)]) := by
    intro S t0 H locs ls hw hl hP hD hS
    unfold wq_M_disk_34 at hw
    exact kr (t0) S _ _ _ _ hw hP hD hS d_M_disk_34
  have J33 : ∀ (S : StM)  (H : Heap) (locs : List Loc) (ls : Array Slot), wq_M_disk_33 post  S  → lv_has ls 3 [] → va_P g.1 classes (wM g S) H → va_D (AM g s.heap.size) (wM g S) → va_S (AM g s.heap.size) s.heap H locs → W p l e (rmM 1 22) s m args below meth c H locs 0 0 Q (F0 m 33 ls []) := by
    intro S  H locs ls hw hl hP hD hS
    unfold wq_M_disk_33 at hw
    refine lv_iconst (v := 0) hx hb d_M_disk_33 (by decide) ?_
    exact J34 S (0) _ _ _ hw (lv_sub hl [] rfl) hP hD hS
  refine lv_iload_n hx hb d_M_disk_0 rfl (lv_at hl 1 rfl) ?_
  refine lv_iconst (v := 0) hx hb d_M_disk_1 (by decide) ?_
  refine lv_iconst (v := 3) hx hb d_M_disk_2 (by decide) ?_
  refine cM_iS (As := [.int (a0), .int (0), .int (3)]) (rest := []) hx hb hml hown hts hK hP hD hS hA (Nat.zero_le _) (Nat.zero_le _) hl.1 (q_M_in hts ⟨Nat.le_of_ble_eq_true rfl, Nat.le_of_ble_eq_true rfl⟩) (c_M_in l g H.size _ (a0) (0) (3) _ hw) rfl rfl (Nat.le_of_ble_eq_true rfl) d_M_disk_3 (fun r2 S1 H locs hw hP hD hS => ?_)
  refine lv_if_eq hx hb d_M_disk_6 (tgt := 33) (by decide) (fun hc => ?_) (fun hc => ?_)
  · have hw := hw.1 hc
    exact J33 S1  _ _ _ hw (lv_sub hl [] rfl) hP hD hS
  · have hw := hw.2 hc
    refine lv_iload_n hx hb d_M_disk_9 rfl (lv_at hl 2 rfl) ?_
    refine lv_iconst (v := 0) hx hb d_M_disk_10 (by decide) ?_
    refine lv_bipush (v := 15) hx hb d_M_disk_11 (by decide) ?_
    refine cM_iS (As := [.int (a1), .int (0), .int (15)]) (rest := []) hx hb hml hown hts hK hP hD hS hA (Nat.zero_le _) (Nat.zero_le _) hl.1 (q_M_in hts ⟨Nat.le_of_ble_eq_true rfl, Nat.le_of_ble_eq_true rfl⟩) (c_M_in l g H.size _ (a1) (0) (15) _ hw) rfl rfl (Nat.le_of_ble_eq_true rfl) d_M_disk_13 (fun r4 S3 H locs hw hP hD hS => ?_)
    refine lv_if_eq hx hb d_M_disk_16 (tgt := 33) (by decide) (fun hc => ?_) (fun hc => ?_)
    · have hw := hw.1 hc
      exact J33 S3  _ _ _ hw (lv_sub hl [] rfl) hP hD hS
    · have hw := hw.2 hc
      refine lv_aload_n hx hb d_M_disk_19 rfl (lv_at hl 0 rfl) ?_
      refine gt_M (v := .ref (g.2.2 32)) hx hb hown hts hK hP 31 (by decide) rfl k_M_137 d_M_disk_20 ?_
      refine lv_bipush (v := 16) hx hb d_M_disk_23 (by decide) ?_
      refine lv_iload_n hx hb d_M_disk_25 rfl (lv_at hl 1 rfl) ?_
      refine lv_imul hx hb d_M_disk_26 ?_
      refine lv_iload_n hx hb d_M_disk_27 rfl (lv_at hl 2 rfl) ?_
      refine lv_iadd hx hb d_M_disk_28 ?_
      obtain ⟨hi, hw⟩ := hw
      refine va_iald (f := (S3.2.1 31)) hx hb hK hP 18 0 rfl rfl hi d_M_disk_29 ?_
      refine lv_goto hx hb d_M_disk_30 (tgt := 34) (by decide) ?_
      exact J34 S3 (((S3.2.1 31) (Int32.toNatClampNeg (((16 * a0) + a1))))) _ _ _ hw (lv_sub hl [] rfl) hP hD hS
theorem d_M_items_0 : decode b_M_items 0 = .ok (.iload_n 1, 1) := by decide +kernel
theorem d_M_items_1 : decode b_M_items 1 = .ok (.bipush 100, 2) := by decide +kernel
theorem d_M_items_3 : decode b_M_items 3 = .ok (.bipush 99, 2) := by decide +kernel
theorem d_M_items_5 : decode b_M_items 5 = .ok (.aload_n 0, 1) := by decide +kernel
theorem d_M_items_6 : decode b_M_items 6 = .ok (.getfield 227, 3) := by decide +kernel
theorem d_M_items_9 : decode b_M_items 9 = .ok (.iadd, 1) := by decide +kernel
theorem d_M_items_10 : decode b_M_items 10 = .ok (.invokestatic 212, 3) := by decide +kernel
theorem d_M_items_13 : decode b_M_items 13 = .ok (.ifCond .eq 15, 3) := by decide +kernel
theorem d_M_items_16 : decode b_M_items 16 = .ok (.aload_n 0, 1) := by decide +kernel
theorem d_M_items_17 : decode b_M_items 17 = .ok (.getfield 33, 3) := by decide +kernel
theorem d_M_items_20 : decode b_M_items 20 = .ok (.iload_n 1, 1) := by decide +kernel
theorem d_M_items_21 : decode b_M_items 21 = .ok (.bipush 100, 2) := by decide +kernel
theorem d_M_items_23 : decode b_M_items 23 = .ok (.isub, 1) := by decide +kernel
theorem d_M_items_24 : decode b_M_items 24 = .ok (.iaload, 1) := by decide +kernel
theorem d_M_items_25 : decode b_M_items 25 = .ok (.goto 4, 3) := by decide +kernel
theorem d_M_items_28 : decode b_M_items 28 = .ok (.iconst (-1), 1) := by decide +kernel
theorem d_M_items_29 : decode b_M_items 29 = .ok (.ireturn, 1) := by decide +kernel
def wq_M_items_29 (post : Int32 → StM → Prop)  (S : StM) (t0 : Int32) : Prop :=
  post (t0) S
def wp_M_items (post : Int32 → StM → Prop) (S : StM) (a0 : Int32) : Prop :=
  wp_M_in (fun (r2 : Int32) (S1 : StM) => (((r2 = 0) → wq_M_items_29 post  S1 ((-1))) ∧ (¬ (r2 = 0) → (vp_in (a0 - 100) 25) ∧ (wq_M_items_29 post  S1 (((S1.2.1 17) (Int32.toNatClampNeg ((a0 - 100))))))))) S (a0) (100) ((99 + (S.1 20)))
set_option maxRecDepth 100000 in
set_option maxHeartbeats 4000000 in
theorem c_M_items (l : Launch) (g : Gm) (sz : Nat) (S : StM) (a0 : Int32) (post : Int32 → StM → Prop) (hw : wp_M_items post S a0) : Met l y_M_items (.code y_M_items b_M_items 2 (some .int) :: w_M) (rmM 1 22) (va_Pc [.ref (g.2.2 0), .int (a0)] (PM g sz S)) (va_Qi post (BM g sz) (AM g sz)) 0 0 (AM g sz) := by
  refine ofM_i (by decide) (Nat.le_of_ble_eq_true rfl) (fun p e s m args below meth c Q H locs ls hx hb hml hts hown hK hA kr hl hP hD hS => ?_)
  have hl : lv_has ls 2 [(0, .ref (g.2.2 0)), (1, .int (a0))] := hl
  unfold wp_M_items at hw
  have J29 : ∀ (S : StM) (t0 : Int32) (H : Heap) (locs : List Loc) (ls : Array Slot), wq_M_items_29 post  S t0 → lv_has ls 2 [] → va_P g.1 classes (wM g S) H → va_D (AM g s.heap.size) (wM g S) → va_S (AM g s.heap.size) s.heap H locs → W p l e (rmM 1 22) s m args below meth c H locs 0 0 Q (F0 m 29 ls [.int (t0)]) := by
    intro S t0 H locs ls hw hl hP hD hS
    unfold wq_M_items_29 at hw
    exact kr (t0) S _ _ _ _ hw hP hD hS d_M_items_29
  refine lv_iload_n hx hb d_M_items_0 rfl (lv_at hl 1 rfl) ?_
  refine lv_bipush (v := 100) hx hb d_M_items_1 (by decide) ?_
  refine lv_bipush (v := 99) hx hb d_M_items_3 (by decide) ?_
  refine lv_aload_n hx hb d_M_items_5 rfl (lv_at hl 0 rfl) ?_
  refine gt_M (v := .int ((S.1 20))) hx hb hown hts hK hP 20 (by decide) rfl k_M_126 d_M_items_6 ?_
  refine lv_iadd hx hb d_M_items_9 ?_
  refine cM_iS (As := [.int (a0), .int (100), .int ((99 + (S.1 20)))]) (rest := []) hx hb hml hown hts hK hP hD hS hA (Nat.zero_le _) (Nat.zero_le _) hl.1 (q_M_in hts ⟨Nat.le_of_ble_eq_true rfl, Nat.le_of_ble_eq_true rfl⟩) (c_M_in l g H.size _ (a0) (100) ((99 + (S.1 20))) _ hw) rfl rfl (Nat.le_of_ble_eq_true rfl) d_M_items_10 (fun r2 S1 H locs hw hP hD hS => ?_)
  refine lv_if_eq hx hb d_M_items_13 (tgt := 28) (by decide) (fun hc => ?_) (fun hc => ?_)
  · have hw := hw.1 hc
    refine lv_iconst (v := -1) hx hb d_M_items_28 (by decide) ?_
    exact J29 S1 ((-1)) _ _ _ hw (lv_sub hl [] rfl) hP hD hS
  · have hw := hw.2 hc
    refine lv_aload_n hx hb d_M_items_16 rfl (lv_at hl 0 rfl) ?_
    refine gt_M (v := .ref (g.2.2 18)) hx hb hown hts hK hP 17 (by decide) rfl k_M_123 d_M_items_17 ?_
    refine lv_iload_n hx hb d_M_items_20 rfl (lv_at hl 1 rfl) ?_
    refine lv_bipush (v := 100) hx hb d_M_items_21 (by decide) ?_
    refine lv_isub hx hb d_M_items_23 ?_
    obtain ⟨hi, hw⟩ := hw
    refine va_iald (f := (S1.2.1 17)) hx hb hK hP 8 0 rfl rfl hi d_M_items_24 ?_
    refine lv_goto hx hb d_M_items_25 (tgt := 29) (by decide) ?_
    exact J29 S1 (((S1.2.1 17) (Int32.toNatClampNeg ((a0 - 100))))) _ _ _ hw (lv_sub hl [] rfl) hP hD hS
theorem d_M_buffer_0 : decode b_M_buffer 0 = .ok (.iload_n 1, 1) := by decide +kernel
theorem d_M_buffer_1 : decode b_M_buffer 1 = .ok (.iconst 0, 1) := by decide +kernel
theorem d_M_buffer_2 : decode b_M_buffer 2 = .ok (.iconst 1, 1) := by decide +kernel
theorem d_M_buffer_3 : decode b_M_buffer 3 = .ok (.invokestatic 212, 3) := by decide +kernel
theorem d_M_buffer_6 : decode b_M_buffer 6 = .ok (.ifCond .eq 39, 3) := by decide +kernel
theorem d_M_buffer_9 : decode b_M_buffer 9 = .ok (.aload_n 0, 1) := by decide +kernel
theorem d_M_buffer_10 : decode b_M_buffer 10 = .ok (.getfield 66, 3) := by decide +kernel
theorem d_M_buffer_13 : decode b_M_buffer 13 = .ok (.iload_n 1, 1) := by decide +kernel
theorem d_M_buffer_14 : decode b_M_buffer 14 = .ok (.iaload, 1) := by decide +kernel
theorem d_M_buffer_15 : decode b_M_buffer 15 = .ok (.ifCond .lt 30, 3) := by decide +kernel
theorem d_M_buffer_18 : decode b_M_buffer 18 = .ok (.bipush 10, 2) := by decide +kernel
theorem d_M_buffer_20 : decode b_M_buffer 20 = .ok (.aload_n 0, 1) := by decide +kernel
theorem d_M_buffer_21 : decode b_M_buffer 21 = .ok (.getfield 66, 3) := by decide +kernel
theorem d_M_buffer_24 : decode b_M_buffer 24 = .ok (.iload_n 1, 1) := by decide +kernel
theorem d_M_buffer_25 : decode b_M_buffer 25 = .ok (.iaload, 1) := by decide +kernel
theorem d_M_buffer_26 : decode b_M_buffer 26 = .ok (.imul, 1) := by decide +kernel
theorem d_M_buffer_27 : decode b_M_buffer 27 = .ok (.aload_n 0, 1) := by decide +kernel
theorem d_M_buffer_28 : decode b_M_buffer 28 = .ok (.getfield 69, 3) := by decide +kernel
theorem d_M_buffer_31 : decode b_M_buffer 31 = .ok (.iload_n 1, 1) := by decide +kernel
theorem d_M_buffer_32 : decode b_M_buffer 32 = .ok (.baload, 1) := by decide +kernel
theorem d_M_buffer_33 : decode b_M_buffer 33 = .ok (.ifCond .eq 7, 3) := by decide +kernel
theorem d_M_buffer_36 : decode b_M_buffer 36 = .ok (.iconst 1, 1) := by decide +kernel
theorem d_M_buffer_37 : decode b_M_buffer 37 = .ok (.goto 4, 3) := by decide +kernel
theorem d_M_buffer_40 : decode b_M_buffer 40 = .ok (.iconst 0, 1) := by decide +kernel
theorem d_M_buffer_41 : decode b_M_buffer 41 = .ok (.iadd, 1) := by decide +kernel
theorem d_M_buffer_42 : decode b_M_buffer 42 = .ok (.goto 4, 3) := by decide +kernel
theorem d_M_buffer_45 : decode b_M_buffer 45 = .ok (.iconst (-1), 1) := by decide +kernel
theorem d_M_buffer_46 : decode b_M_buffer 46 = .ok (.ireturn, 1) := by decide +kernel
def wq_M_buffer_46 (post : Int32 → StM → Prop)  (S : StM) (t0 : Int32) : Prop :=
  post (t0) S
def wq_M_buffer_45 (post : Int32 → StM → Prop)  (S : StM)  : Prop :=
  wq_M_buffer_46 post  S ((-1))
def wq_M_buffer_41 (post : Int32 → StM → Prop)  (S : StM) (t0 : Int32) (t1 : Int32) : Prop :=
  wq_M_buffer_46 post  S ((t1 + t0))
def wp_M_buffer (post : Int32 → StM → Prop) (S : StM) (a0 : Int32) : Prop :=
  wp_M_in (fun (r2 : Int32) (S1 : StM) => (((r2 = 0) → wq_M_buffer_45 post  S1 ) ∧ (¬ (r2 = 0) → (vp_in a0 2) ∧ (((((S1.2.1 32) (Int32.toNatClampNeg (a0))) < 0) → wq_M_buffer_45 post  S1 ) ∧ (¬ (((S1.2.1 32) (Int32.toNatClampNeg (a0))) < 0) → (vp_in a0 2) ∧ ((vp_in a0 2) ∧ (((((S1.2.1 33) (Int32.toNatClampNeg (a0))) = 0) → wq_M_buffer_41 post  S1 (0) ((10 * ((S1.2.1 32) (Int32.toNatClampNeg (a0)))))) ∧ (¬ (((S1.2.1 33) (Int32.toNatClampNeg (a0))) = 0) → wq_M_buffer_41 post  S1 (1) ((10 * ((S1.2.1 32) (Int32.toNatClampNeg (a0))))))))))))) S (a0) (0) (1)
set_option maxRecDepth 100000 in
set_option maxHeartbeats 4000000 in
theorem c_M_buffer (l : Launch) (g : Gm) (sz : Nat) (S : StM) (a0 : Int32) (post : Int32 → StM → Prop) (hw : wp_M_buffer post S a0) : Met l y_M_buffer (.code y_M_buffer b_M_buffer 2 (some .int) :: w_M) (rmM 1 22) (va_Pc [.ref (g.2.2 0), .int (a0)] (PM g sz S)) (va_Qi post (BM g sz) (AM g sz)) 0 0 (AM g sz) := by
  refine ofM_i (by decide) (Nat.le_of_ble_eq_true rfl) (fun p e s m args below meth c Q H locs ls hx hb hml hts hown hK hA kr hl hP hD hS => ?_)
  have hl : lv_has ls 2 [(0, .ref (g.2.2 0)), (1, .int (a0))] := hl
  unfold wp_M_buffer at hw
  have J46 : ∀ (S : StM) (t0 : Int32) (H : Heap) (locs : List Loc) (ls : Array Slot), wq_M_buffer_46 post  S t0 → lv_has ls 2 [] → va_P g.1 classes (wM g S) H → va_D (AM g s.heap.size) (wM g S) → va_S (AM g s.heap.size) s.heap H locs → W p l e (rmM 1 22) s m args below meth c H locs 0 0 Q (F0 m 46 ls [.int (t0)]) := by
    intro S t0 H locs ls hw hl hP hD hS
    unfold wq_M_buffer_46 at hw
    exact kr (t0) S _ _ _ _ hw hP hD hS d_M_buffer_46
  have J45 : ∀ (S : StM)  (H : Heap) (locs : List Loc) (ls : Array Slot), wq_M_buffer_45 post  S  → lv_has ls 2 [] → va_P g.1 classes (wM g S) H → va_D (AM g s.heap.size) (wM g S) → va_S (AM g s.heap.size) s.heap H locs → W p l e (rmM 1 22) s m args below meth c H locs 0 0 Q (F0 m 45 ls []) := by
    intro S  H locs ls hw hl hP hD hS
    unfold wq_M_buffer_45 at hw
    refine lv_iconst (v := -1) hx hb d_M_buffer_45 (by decide) ?_
    exact J46 S ((-1)) _ _ _ hw (lv_sub hl [] rfl) hP hD hS
  have J41 : ∀ (S : StM) (t0 : Int32) (t1 : Int32) (H : Heap) (locs : List Loc) (ls : Array Slot), wq_M_buffer_41 post  S t0 t1 → lv_has ls 2 [] → va_P g.1 classes (wM g S) H → va_D (AM g s.heap.size) (wM g S) → va_S (AM g s.heap.size) s.heap H locs → W p l e (rmM 1 22) s m args below meth c H locs 0 0 Q (F0 m 41 ls [.int (t0), .int (t1)]) := by
    intro S t0 t1 H locs ls hw hl hP hD hS
    unfold wq_M_buffer_41 at hw
    refine lv_iadd hx hb d_M_buffer_41 ?_
    refine lv_goto hx hb d_M_buffer_42 (tgt := 46) (by decide) ?_
    exact J46 S ((t1 + t0)) _ _ _ hw (lv_sub hl [] rfl) hP hD hS
  refine lv_iload_n hx hb d_M_buffer_0 rfl (lv_at hl 1 rfl) ?_
  refine lv_iconst (v := 0) hx hb d_M_buffer_1 (by decide) ?_
  refine lv_iconst (v := 1) hx hb d_M_buffer_2 (by decide) ?_
  refine cM_iS (As := [.int (a0), .int (0), .int (1)]) (rest := []) hx hb hml hown hts hK hP hD hS hA (Nat.zero_le _) (Nat.zero_le _) hl.1 (q_M_in hts ⟨Nat.le_of_ble_eq_true rfl, Nat.le_of_ble_eq_true rfl⟩) (c_M_in l g H.size _ (a0) (0) (1) _ hw) rfl rfl (Nat.le_of_ble_eq_true rfl) d_M_buffer_3 (fun r2 S1 H locs hw hP hD hS => ?_)
  refine lv_if_eq hx hb d_M_buffer_6 (tgt := 45) (by decide) (fun hc => ?_) (fun hc => ?_)
  · have hw := hw.1 hc
    exact J45 S1  _ _ _ hw (lv_sub hl [] rfl) hP hD hS
  · have hw := hw.2 hc
    refine lv_aload_n hx hb d_M_buffer_9 rfl (lv_at hl 0 rfl) ?_
    refine gt_M (v := .ref (g.2.2 33)) hx hb hown hts hK hP 32 (by decide) rfl k_M_138 d_M_buffer_10 ?_
    refine lv_iload_n hx hb d_M_buffer_13 rfl (lv_at hl 1 rfl) ?_
    obtain ⟨hi, hw⟩ := hw
    refine va_iald (f := (S1.2.1 32)) hx hb hK hP 19 0 rfl rfl hi d_M_buffer_14 ?_
    refine lv_if_lt hx hb d_M_buffer_15 (tgt := 45) (by decide) (fun hc => ?_) (fun hc => ?_)
    · have hw := hw.1 hc
      exact J45 S1  _ _ _ hw (lv_sub hl [] rfl) hP hD hS
    · have hw := hw.2 hc
      refine lv_bipush (v := 10) hx hb d_M_buffer_18 (by decide) ?_
      refine lv_aload_n hx hb d_M_buffer_20 rfl (lv_at hl 0 rfl) ?_
      refine gt_M (v := .ref (g.2.2 33)) hx hb hown hts hK hP 32 (by decide) rfl k_M_138 d_M_buffer_21 ?_
      refine lv_iload_n hx hb d_M_buffer_24 rfl (lv_at hl 1 rfl) ?_
      obtain ⟨hi, hw⟩ := hw
      refine va_iald (f := (S1.2.1 32)) hx hb hK hP 19 0 rfl rfl hi d_M_buffer_25 ?_
      refine lv_imul hx hb d_M_buffer_26 ?_
      refine lv_aload_n hx hb d_M_buffer_27 rfl (lv_at hl 0 rfl) ?_
      refine gt_M (v := .ref (g.2.2 34)) hx hb hown hts hK hP 33 (by decide) rfl k_M_139 d_M_buffer_28 ?_
      refine lv_iload_n hx hb d_M_buffer_31 rfl (lv_at hl 1 rfl) ?_
      obtain ⟨hi, hw⟩ := hw
      refine va_zald (f := (S1.2.1 33)) hx hb hK hP 20 1 rfl rfl hi d_M_buffer_32 ?_
      refine lv_if_eq hx hb d_M_buffer_33 (tgt := 40) (by decide) (fun hc => ?_) (fun hc => ?_)
      · have hw := hw.1 hc
        refine lv_iconst (v := 0) hx hb d_M_buffer_40 (by decide) ?_
        exact J41 S1 (0) ((10 * ((S1.2.1 32) (Int32.toNatClampNeg (a0))))) _ _ _ hw (lv_sub hl [] rfl) hP hD hS
      · have hw := hw.2 hc
        refine lv_iconst (v := 1) hx hb d_M_buffer_36 (by decide) ?_
        refine lv_goto hx hb d_M_buffer_37 (tgt := 41) (by decide) ?_
        exact J41 S1 (1) ((10 * ((S1.2.1 32) (Int32.toNatClampNeg (a0))))) _ _ _ hw (lv_sub hl [] rfl) hP hD hS
