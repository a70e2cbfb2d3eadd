theorem d_M_parsing_0 : decode b_M_parsing 0 = .ok (.aload_n 0, 1) := by decide +kernel
theorem d_M_parsing_1 : decode b_M_parsing 1 = .ok (.getfield 206, 3) := by decide +kernel
theorem d_M_parsing_4 : decode b_M_parsing 4 = .ok (.istore_n 2, 1) := by decide +kernel
theorem d_M_parsing_5 : decode b_M_parsing 5 = .ok (.aload_n 0, 1) := by decide +kernel
theorem d_M_parsing_6 : decode b_M_parsing 6 = .ok (.getfield 260, 3) := by decide +kernel
theorem d_M_parsing_9 : decode b_M_parsing 9 = .ok (.ifCond .ne 16, 3) := by decide +kernel
theorem d_M_parsing_12 : decode b_M_parsing 12 = .ok (.iload_n 1, 1) := by decide +kernel
theorem d_M_parsing_13 : decode b_M_parsing 13 = .ok (.bipush 36, 2) := by decide +kernel
theorem d_M_parsing_15 : decode b_M_parsing 15 = .ok (.if_icmp .ne 19, 3) := by decide +kernel
theorem d_M_parsing_18 : decode b_M_parsing 18 = .ok (.aload_n 0, 1) := by decide +kernel
theorem d_M_parsing_19 : decode b_M_parsing 19 = .ok (.getfield 227, 3) := by decide +kernel
theorem d_M_parsing_22 : decode b_M_parsing 22 = .ok (.ifCond .ne 12, 3) := by decide +kernel
theorem d_M_parsing_25 : decode b_M_parsing 25 = .ok (.aload_n 0, 1) := by decide +kernel
theorem d_M_parsing_26 : decode b_M_parsing 26 = .ok (.bipush 6, 2) := by decide +kernel
theorem d_M_parsing_28 : decode b_M_parsing 28 = .ok (.invokevirtual 196, 3) := by decide +kernel
theorem d_M_parsing_31 : decode b_M_parsing 31 = .ok (.goto 150, 3) := by decide +kernel
theorem d_M_parsing_34 : decode b_M_parsing 34 = .ok (.iload_n 1, 1) := by decide +kernel
theorem d_M_parsing_35 : decode b_M_parsing 35 = .ok (.bipush 36, 2) := by decide +kernel
theorem d_M_parsing_37 : decode b_M_parsing 37 = .ok (.if_icmp .ne 18, 3) := by decide +kernel
theorem d_M_parsing_40 : decode b_M_parsing 40 = .ok (.aload_n 0, 1) := by decide +kernel
theorem d_M_parsing_41 : decode b_M_parsing 41 = .ok (.getfield 29, 3) := by decide +kernel
theorem d_M_parsing_44 : decode b_M_parsing 44 = .ok (.aload_n 0, 1) := by decide +kernel
theorem d_M_parsing_45 : decode b_M_parsing 45 = .ok (.getfield 227, 3) := by decide +kernel
theorem d_M_parsing_48 : decode b_M_parsing 48 = .ok (.iconst 1, 1) := by decide +kernel
theorem d_M_parsing_49 : decode b_M_parsing 49 = .ok (.isub, 1) := by decide +kernel
theorem d_M_parsing_50 : decode b_M_parsing 50 = .ok (.iconst 1, 1) := by decide +kernel
theorem d_M_parsing_51 : decode b_M_parsing 51 = .ok (.bastore, 1) := by decide +kernel
theorem d_M_parsing_52 : decode b_M_parsing 52 = .ok (.goto 129, 3) := by decide +kernel
theorem d_M_parsing_55 : decode b_M_parsing 55 = .ok (.aload_n 0, 1) := by decide +kernel
theorem d_M_parsing_56 : decode b_M_parsing 56 = .ok (.invokevirtual 264, 3) := by decide +kernel
theorem d_M_parsing_59 : decode b_M_parsing 59 = .ok (.pop, 1) := by decide +kernel
theorem d_M_parsing_60 : decode b_M_parsing 60 = .ok (.aload_n 0, 1) := by decide +kernel
theorem d_M_parsing_61 : decode b_M_parsing 61 = .ok (.invokevirtual 267, 3) := by decide +kernel
theorem d_M_parsing_64 : decode b_M_parsing 64 = .ok (.istore_n 3, 1) := by decide +kernel
theorem d_M_parsing_65 : decode b_M_parsing 65 = .ok (.aload_n 0, 1) := by decide +kernel
theorem d_M_parsing_66 : decode b_M_parsing 66 = .ok (.invokevirtual 220, 3) := by decide +kernel
theorem d_M_parsing_69 : decode b_M_parsing 69 = .ok (.ifCond .ne 12, 3) := by decide +kernel
theorem d_M_parsing_72 : decode b_M_parsing 72 = .ok (.aload_n 0, 1) := by decide +kernel
theorem d_M_parsing_73 : decode b_M_parsing 73 = .ok (.bipush 6, 2) := by decide +kernel
theorem d_M_parsing_75 : decode b_M_parsing 75 = .ok (.invokevirtual 196, 3) := by decide +kernel
theorem d_M_parsing_78 : decode b_M_parsing 78 = .ok (.goto 98, 3) := by decide +kernel
theorem d_M_parsing_81 : decode b_M_parsing 81 = .ok (.iload_n 1, 1) := by decide +kernel
theorem d_M_parsing_82 : decode b_M_parsing 82 = .ok (.bipush 32, 2) := by decide +kernel
theorem d_M_parsing_84 : decode b_M_parsing 84 = .ok (.if_icmp .ne 15, 3) := by decide +kernel
theorem d_M_parsing_87 : decode b_M_parsing 87 = .ok (.iload_n 3, 1) := by decide +kernel
theorem d_M_parsing_88 : decode b_M_parsing 88 = .ok (.ifCond .ge 11, 3) := by decide +kernel
theorem d_M_parsing_91 : decode b_M_parsing 91 = .ok (.aload_n 0, 1) := by decide +kernel
theorem d_M_parsing_92 : decode b_M_parsing 92 = .ok (.iconst 1, 1) := by decide +kernel
theorem d_M_parsing_93 : decode b_M_parsing 93 = .ok (.invokevirtual 196, 3) := by decide +kernel
theorem d_M_parsing_96 : decode b_M_parsing 96 = .ok (.goto 80, 3) := by decide +kernel
theorem d_M_parsing_99 : decode b_M_parsing 99 = .ok (.iload_n 1, 1) := by decide +kernel
theorem d_M_parsing_100 : decode b_M_parsing 100 = .ok (.bipush 32, 2) := by decide +kernel
theorem d_M_parsing_102 : decode b_M_parsing 102 = .ok (.if_icmp .ne 11, 3) := by decide +kernel
theorem d_M_parsing_105 : decode b_M_parsing 105 = .ok (.aload_n 0, 1) := by decide +kernel
theorem d_M_parsing_106 : decode b_M_parsing 106 = .ok (.iload_n 3, 1) := by decide +kernel
theorem d_M_parsing_107 : decode b_M_parsing 107 = .ok (.invokevirtual 238, 3) := by decide +kernel
theorem d_M_parsing_110 : decode b_M_parsing 110 = .ok (.goto 66, 3) := by decide +kernel
theorem d_M_parsing_113 : decode b_M_parsing 113 = .ok (.iload_n 1, 1) := by decide +kernel
theorem d_M_parsing_114 : decode b_M_parsing 114 = .ok (.bipush 34, 2) := by decide +kernel
theorem d_M_parsing_116 : decode b_M_parsing 116 = .ok (.if_icmp .ne 19, 3) := by decide +kernel
theorem d_M_parsing_119 : decode b_M_parsing 119 = .ok (.aload_n 0, 1) := by decide +kernel
theorem d_M_parsing_120 : decode b_M_parsing 120 = .ok (.iconst 1, 1) := by decide +kernel
theorem d_M_parsing_121 : decode b_M_parsing 121 = .ok (.invokevirtual 230, 3) := by decide +kernel
theorem d_M_parsing_124 : decode b_M_parsing 124 = .ok (.ifCond .ne 11, 3) := by decide +kernel
theorem d_M_parsing_127 : decode b_M_parsing 127 = .ok (.aload_n 0, 1) := by decide +kernel
theorem d_M_parsing_128 : decode b_M_parsing 128 = .ok (.iload_n 2, 1) := by decide +kernel
theorem d_M_parsing_129 : decode b_M_parsing 129 = .ok (.putfield 206, 3) := by decide +kernel
theorem d_M_parsing_132 : decode b_M_parsing 132 = .ok (.goto 44, 3) := by decide +kernel
theorem d_M_parsing_135 : decode b_M_parsing 135 = .ok (.aload_n 0, 1) := by decide +kernel
theorem d_M_parsing_136 : decode b_M_parsing 136 = .ok (.getfield 227, 3) := by decide +kernel
theorem d_M_parsing_139 : decode b_M_parsing 139 = .ok (.bipush 24, 2) := by decide +kernel
theorem d_M_parsing_141 : decode b_M_parsing 141 = .ok (.if_icmp .ge 18, 3) := by decide +kernel
theorem d_M_parsing_144 : decode b_M_parsing 144 = .ok (.iload_n 1, 1) := by decide +kernel
theorem d_M_parsing_145 : decode b_M_parsing 145 = .ok (.bipush 33, 2) := by decide +kernel
theorem d_M_parsing_147 : decode b_M_parsing 147 = .ok (.if_icmp .ne 20, 3) := by decide +kernel
theorem d_M_parsing_150 : decode b_M_parsing 150 = .ok (.aload_n 0, 1) := by decide +kernel
theorem d_M_parsing_151 : decode b_M_parsing 151 = .ok (.getfield 251, 3) := by decide +kernel
theorem d_M_parsing_154 : decode b_M_parsing 154 = .ok (.bipush 64, 2) := by decide +kernel
theorem d_M_parsing_156 : decode b_M_parsing 156 = .ok (.if_icmp .lt 11, 3) := by decide +kernel
theorem d_M_parsing_159 : decode b_M_parsing 159 = .ok (.aload_n 0, 1) := by decide +kernel
theorem d_M_parsing_160 : decode b_M_parsing 160 = .ok (.iconst 3, 1) := by decide +kernel
theorem d_M_parsing_161 : decode b_M_parsing 161 = .ok (.invokevirtual 196, 3) := by decide +kernel
theorem d_M_parsing_164 : decode b_M_parsing 164 = .ok (.goto 12, 3) := by decide +kernel
theorem d_M_parsing_167 : decode b_M_parsing 167 = .ok (.aload_n 0, 1) := by decide +kernel
theorem d_M_parsing_168 : decode b_M_parsing 168 = .ok (.invokevirtual 270, 3) := by decide +kernel
theorem d_M_parsing_171 : decode b_M_parsing 171 = .ok (.aload_n 0, 1) := by decide +kernel
theorem d_M_parsing_172 : decode b_M_parsing 172 = .ok (.iload_n 1, 1) := by decide +kernel
theorem d_M_parsing_173 : decode b_M_parsing 173 = .ok (.invokevirtual 273, 3) := by decide +kernel
theorem d_M_parsing_176 : decode b_M_parsing 176 = .ok (.aload_n 0, 1) := by decide +kernel
theorem d_M_parsing_177 : decode b_M_parsing 177 = .ok (.iload_n 2, 1) := by decide +kernel
theorem d_M_parsing_178 : decode b_M_parsing 178 = .ok (.putfield 206, 3) := by decide +kernel
theorem d_M_parsing_181 : decode b_M_parsing 181 = .ok (.return_, 1) := by decide +kernel
def wq_M_parsing_181 (post : StM → Prop)  (S : StM)  : Prop :=
  post S
def wq_M_parsing_176 (post : StM → Prop)  (S : StM) (x2 : Int32) : Prop :=
  wq_M_parsing_181 post  ((upd S.1 3 (x2)), S.2) 
def wq_M_parsing_167 (post : StM → Prop)  (S : StM) (x1 : Int32) (x2 : Int32) : Prop :=
  wp_M_open (fun S1 : StM => (wp_M_begin (fun S2 : StM => (wq_M_parsing_176 post  S2 (x2))) S1 (x1))) S 
def wq_M_parsing_159 (post : StM → Prop)  (S : StM) (x2 : Int32) : Prop :=
  wp_M_fail (fun S3 : StM => (wq_M_parsing_176 post  S3 (x2))) S (3)
def wq_M_parsing_135 (post : StM → Prop)  (S : StM) (x1 : Int32) (x2 : Int32) : Prop :=
  ((24 ≤ (S.1 20)) → wq_M_parsing_159 post  S (x2)) ∧ (¬ (24 ≤ (S.1 20)) → ((x1 = 33) → (((S.1 10) < 64) → wq_M_parsing_167 post  S (x1) (x2)) ∧ (¬ ((S.1 10) < 64) → wq_M_parsing_159 post  S (x2))) ∧ (¬ (x1 = 33) → wq_M_parsing_167 post  S (x1) (x2)))
def wq_M_parsing_99 (post : StM → Prop)  (S : StM) (x1 : Int32) (x2 : Int32) (x3 : Int32) : Prop :=
  ((x1 = 32) → wp_M_push (fun S6 : StM => (wq_M_parsing_176 post  S6 (x2))) S (x3)) ∧ (¬ (x1 = 32) → ((x1 = 34) → wp_M_needs (fun (r5 : Int32) (S4 : StM) => (((r5 = 0) → wq_M_parsing_176 post  ((upd S4.1 3 (x2)), S4.2) (x2)) ∧ (¬ (r5 = 0) → wq_M_parsing_135 post  S4 (x1) (x2)))) S (1)) ∧ (¬ (x1 = 34) → wq_M_parsing_135 post  S (x1) (x2)))
def wq_M_parsing_34 (post : StM → Prop)  (S : StM) (x1 : Int32) (x2 : Int32) : Prop :=
  ((x1 = 36) → (vp_in ((S.1 20) - 1) 25) ∧ (wq_M_parsing_181 post  (S.1, (va_up S.2.1 16 (upd (S.2.1 16) (Int32.toNatClampNeg (((S.1 20) - 1))) (vp_nar .boolean (1)))), S.2.2) )) ∧ (¬ (x1 = 36) → wp_M_nextToken (fun (r8 : Int32) (S7 : StM) => (wp_M_find (fun (r10 : Int32) (S9 : StM) => (wp_M_isName (fun (r12 : Int32) (S11 : StM) => (((r12 = 0) → wp_M_fail (fun S14 : StM => (wq_M_parsing_176 post  S14 (x2))) S11 (6)) ∧ (¬ (r12 = 0) → ((x1 = 32) → ((0 ≤ r10) → wq_M_parsing_99 post  S11 (x1) (x2) (r10)) ∧ (¬ (0 ≤ r10) → wp_M_fail (fun S13 : StM => (wq_M_parsing_176 post  S13 (x2))) S11 (1))) ∧ (¬ (x1 = 32) → wq_M_parsing_99 post  S11 (x1) (x2) (r10))))) S9 )) S7 )) S )
def wq_M_parsing_25 (post : StM → Prop)  (S : StM)  : Prop :=
  wp_M_fail (fun S15 : StM => (wq_M_parsing_181 post  S15 )) S (6)
def wp_M_parsing (post : StM → Prop) (S : StM) (a0 : Int32) : Prop :=
  (((S.1 21) = 0) → ((a0 = 36) → (((S.1 20) = 0) → wq_M_parsing_25 post  S ) ∧ (¬ ((S.1 20) = 0) → wq_M_parsing_34 post  S (a0) ((S.1 3)))) ∧ (¬ (a0 = 36) → wq_M_parsing_34 post  S (a0) ((S.1 3)))) ∧ (¬ ((S.1 21) = 0) → wq_M_parsing_25 post  S )
set_option maxRecDepth 100000 in
set_option maxHeartbeats 4000000 in
theorem c_M_parsing (l : Launch) (g : Gm) (sz : Nat) (S : StM) (a0 : Int32) (post : StM → Prop) (hw : wp_M_parsing post S a0) : Met l y_M_parsing (.code y_M_parsing b_M_parsing 4 none :: w_M) (rmM 4 89) (va_Pc [.ref (g.2.2 0), .int (a0)] (PM g sz S)) (va_Qv post (BM g sz) (AM g sz)) 0 0 (AM g sz) := by
  refine ofM_v (by decide) (Nat.le_of_ble_eq_true rfl) (fun p e s m args below meth c Q H locs ls hx hb hml hts hown hK hA kr hl hP hD hS => ?_)
  have hl : lv_has ls 4 [(0, .ref (g.2.2 0)), (1, .int (a0))] := hl
  unfold wp_M_parsing at hw
  have J181 : ∀ (S : StM)  (H : Heap) (locs : List Loc) (ls : Array Slot), wq_M_parsing_181 post  S  → lv_has ls 4 [] → va_P g.1 classes (wM g S) H → va_D (AM g s.heap.size) (wM g S) → va_S (AM g s.heap.size) s.heap H locs → W p l e (rmM 4 89) s m args below meth c H locs 0 0 Q (F0 m 181 ls []) := by
    intro S  H locs ls hw hl hP hD hS
    unfold wq_M_parsing_181 at hw
    exact kr S _ _ _ _ hw hP hD hS d_M_parsing_181
  have J176 : ∀ (S : StM) (x2 : Int32) (H : Heap) (locs : List Loc) (ls : Array Slot), wq_M_parsing_176 post  S x2 → lv_has ls 4 [(0, .ref (g.2.2 0)), (2, .int (x2))] → va_P g.1 classes (wM g S) H → va_D (AM g s.heap.size) (wM g S) → va_S (AM g s.heap.size) s.heap H locs → W p l e (rmM 4 89) s m args below meth c H locs 0 0 Q (F0 m 176 ls []) := by
    intro S x2 H locs ls hw hl hP hD hS
    unfold wq_M_parsing_176 at hw
    refine lv_aload_n hx hb d_M_parsing_176 rfl (lv_at hl 0 rfl) ?_
    refine lv_iload_n hx hb d_M_parsing_177 rfl (lv_at hl 1 rfl) ?_
    refine pt_M (S2 := ((upd S.1 3 (x2)), S.2)) (v := .int (x2)) hx hb hown hts hK hP hD hS 3 (by decide) rfl rfl rfl (sI_M_3 g _ _) k_M_109 d_M_parsing_178 (fun H locs hP hD hS => ?_)
    exact J181 ((upd S.1 3 (x2)), S.2)  _ _ _ hw (lv_sub hl [] rfl) hP hD hS
  have J167 : ∀ (S : StM) (x1 : Int32) (x2 : Int32) (H : Heap) (locs : List Loc) (ls : Array Slot), wq_M_parsing_167 post  S x1 x2 → lv_has ls 4 [(0, .ref (g.2.2 0)), (1, .int (x1)), (2, .int (x2))] → va_P g.1 classes (wM g S) H → va_D (AM g s.heap.size) (wM g S) → va_S (AM g s.heap.size) s.heap H locs → W p l e (rmM 4 89) s m args below meth c H locs 0 0 Q (F0 m 167 ls []) := by
    intro S x1 x2 H locs ls hw hl hP hD hS
    unfold wq_M_parsing_167 at hw
    refine lv_aload_n hx hb d_M_parsing_167 rfl (lv_at hl 0 rfl) ?_
    refine cM_v (As := []) (rest := []) hx hb hml hown hts hK hP hD hS hA (Nat.zero_le _) (Nat.zero_le _) hl.1 (q_M_open hts ⟨Nat.le_of_ble_eq_true rfl, Nat.le_of_ble_eq_true rfl⟩) (c_M_open l g H.size _  _ hw) rfl rfl (Nat.le_of_ble_eq_true rfl) d_M_parsing_168 (fun S1 H locs hw hP hD hS => ?_)
    refine lv_aload_n hx hb d_M_parsing_171 rfl (lv_at hl 0 rfl) ?_
    refine lv_iload_n hx hb d_M_parsing_172 rfl (lv_at hl 1 rfl) ?_
    refine cM_v (As := [.int (x1)]) (rest := []) hx hb hml hown hts hK hP hD hS hA (Nat.zero_le _) (Nat.zero_le _) hl.1 (q_M_begin hts ⟨Nat.le_of_ble_eq_true rfl, Nat.le_of_ble_eq_true rfl⟩) (c_M_begin l g H.size _ (x1) _ hw) rfl rfl (Nat.le_of_ble_eq_true rfl) d_M_parsing_173 (fun S2 H locs hw hP hD hS => ?_)
    exact J176 S2 (x2) _ _ _ hw (lv_sub hl [0, 2] rfl) hP hD hS
  have J159 : ∀ (S : StM) (x2 : Int32) (H : Heap) (locs : List Loc) (ls : Array Slot), wq_M_parsing_159 post  S x2 → lv_has ls 4 [(0, .ref (g.2.2 0)), (2, .int (x2))] → va_P g.1 classes (wM g S) H → va_D (AM g s.heap.size) (wM g S) → va_S (AM g s.heap.size) s.heap H locs → W p l e (rmM 4 89) s m args below meth c H locs 0 0 Q (F0 m 159 ls []) := by
    intro S x2 H locs ls hw hl hP hD hS
    unfold wq_M_parsing_159 at hw
    refine lv_aload_n hx hb d_M_parsing_159 rfl (lv_at hl 0 rfl) ?_
    refine lv_iconst (v := 3) hx hb d_M_parsing_160 (by decide) ?_
    refine cM_v (As := [.int (3)]) (rest := []) hx hb hml hown hts hK hP hD hS hA (Nat.zero_le _) (Nat.zero_le _) hl.1 (q_M_fail hts ⟨Nat.le_of_ble_eq_true rfl, Nat.le_of_ble_eq_true rfl⟩) (c_M_fail l g H.size _ (3) _ hw) rfl rfl (Nat.le_of_ble_eq_true rfl) d_M_parsing_161 (fun S3 H locs hw hP hD hS => ?_)
    refine lv_goto hx hb d_M_parsing_164 (tgt := 176) (by decide) ?_
    exact J176 S3 (x2) _ _ _ hw (lv_sub hl [0, 1] rfl) hP hD hS
  have J135 : ∀ (S : StM) (x1 : Int32) (x2 : Int32) (H : Heap) (locs : List Loc) (ls : Array Slot), wq_M_parsing_135 post  S x1 x2 → lv_has ls 4 [(0, .ref (g.2.2 0)), (1, .int (x1)), (2, .int (x2))] → va_P g.1 classes (wM g S) H → va_D (AM g s.heap.size) (wM g S) → va_S (AM g s.heap.size) s.heap H locs → W p l e (rmM 4 89) s m args below meth c H locs 0 0 Q (F0 m 135 ls []) := by
    intro S x1 x2 H locs ls hw hl hP hD hS
    unfold wq_M_parsing_135 at hw
    refine lv_aload_n hx hb d_M_parsing_135 rfl (lv_at hl 0 rfl) ?_
    refine gt_M (v := .int ((S.1 20))) hx hb hown hts hK hP 20 (by decide) rfl k_M_126 d_M_parsing_136 ?_
    refine lv_bipush (v := 24) hx hb d_M_parsing_139 (by decide) ?_
    refine lv_icmp_ge hx hb d_M_parsing_141 (tgt := 159) (by decide) (fun hc => ?_) (fun hc => ?_)
    · have hw := hw.1 hc
      exact J159 S (x2) _ _ _ hw (lv_sub hl [0, 2] rfl) hP hD hS
    · have hw := hw.2 hc
      refine lv_iload_n hx hb d_M_parsing_144 rfl (lv_at hl 1 rfl) ?_
      refine lv_bipush (v := 33) hx hb d_M_parsing_145 (by decide) ?_
      refine lv_icmp_ne hx hb d_M_parsing_147 (tgt := 167) (by decide) (fun hc => ?_) (fun hc => ?_)
      · have hw := hw.2 hc
        exact J167 S (x1) (x2) _ _ _ hw (lv_sub hl [0, 1, 2] rfl) hP hD hS
      · have hw := hw.1 hc
        refine lv_aload_n hx hb d_M_parsing_150 rfl (lv_at hl 0 rfl) ?_
        refine gt_M (v := .int ((S.1 10))) hx hb hown hts hK hP 10 (by decide) rfl k_M_116 d_M_parsing_151 ?_
        refine lv_bipush (v := 64) hx hb d_M_parsing_154 (by decide) ?_
        refine lv_icmp_lt hx hb d_M_parsing_156 (tgt := 167) (by decide) (fun hc => ?_) (fun hc => ?_)
        · have hw := hw.1 hc
          exact J167 S (x1) (x2) _ _ _ hw (lv_sub hl [0, 1, 2] rfl) hP hD hS
        · have hw := hw.2 hc
          exact J159 S (x2) _ _ _ hw (lv_sub hl [0, 2] rfl) hP hD hS
  have J99 : ∀ (S : StM) (x1 : Int32) (x2 : Int32) (x3 : Int32) (H : Heap) (locs : List Loc) (ls : Array Slot), wq_M_parsing_99 post  S x1 x2 x3 → lv_has ls 4 [(0, .ref (g.2.2 0)), (1, .int (x1)), (2, .int (x2)), (3, .int (x3))] → va_P g.1 classes (wM g S) H → va_D (AM g s.heap.size) (wM g S) → va_S (AM g s.heap.size) s.heap H locs → W p l e (rmM 4 89) s m args below meth c H locs 0 0 Q (F0 m 99 ls []) := by
    intro S x1 x2 x3 H locs ls hw hl hP hD hS
    unfold wq_M_parsing_99 at hw
    refine lv_iload_n hx hb d_M_parsing_99 rfl (lv_at hl 1 rfl) ?_
    refine lv_bipush (v := 32) hx hb d_M_parsing_100 (by decide) ?_
    refine lv_icmp_ne hx hb d_M_parsing_102 (tgt := 113) (by decide) (fun hc => ?_) (fun hc => ?_)
    · have hw := hw.2 hc
      refine lv_iload_n hx hb d_M_parsing_113 rfl (lv_at hl 1 rfl) ?_
      refine lv_bipush (v := 34) hx hb d_M_parsing_114 (by decide) ?_
      refine lv_icmp_ne hx hb d_M_parsing_116 (tgt := 135) (by decide) (fun hc => ?_) (fun hc => ?_)
      · have hw := hw.2 hc
        exact J135 S (x1) (x2) _ _ _ hw (lv_sub hl [0, 1, 2] rfl) hP hD hS
      · have hw := hw.1 hc
        refine lv_aload_n hx hb d_M_parsing_119 rfl (lv_at hl 0 rfl) ?_
        refine lv_iconst (v := 1) hx hb d_M_parsing_120 (by decide) ?_
        refine cM_i (As := [.int (1)]) (rest := []) hx hb hml hown hts hK hP hD hS hA (Nat.zero_le _) (Nat.zero_le _) hl.1 (q_M_needs hts ⟨Nat.le_of_ble_eq_true rfl, Nat.le_of_ble_eq_true rfl⟩) (c_M_needs l g H.size _ (1) _ hw) rfl rfl (Nat.le_of_ble_eq_true rfl) d_M_parsing_121 (fun r5 S4 H locs hw hP hD hS => ?_)
        refine lv_if_ne hx hb d_M_parsing_124 (tgt := 135) (by decide) (fun hc => ?_) (fun hc => ?_)
        · have hw := hw.2 hc
          exact J135 S4 (x1) (x2) _ _ _ hw (lv_sub hl [0, 1, 2] rfl) hP hD hS
        · have hw := hw.1 hc
          refine lv_aload_n hx hb d_M_parsing_127 rfl (lv_at hl 0 rfl) ?_
          refine lv_iload_n hx hb d_M_parsing_128 rfl (lv_at hl 2 rfl) ?_
          refine pt_M (S2 := ((upd S4.1 3 (x2)), S4.2)) (v := .int (x2)) hx hb hown hts hK hP hD hS 3 (by decide) rfl rfl rfl (sI_M_3 g _ _) k_M_109 d_M_parsing_129 (fun H locs hP hD hS => ?_)
          refine lv_goto hx hb d_M_parsing_132 (tgt := 176) (by decide) ?_
          exact J176 ((upd S4.1 3 (x2)), S4.2) (x2) _ _ _ hw (lv_sub hl [0, 2] rfl) hP hD hS
    · have hw := hw.1 hc
      refine lv_aload_n hx hb d_M_parsing_105 rfl (lv_at hl 0 rfl) ?_
      refine lv_iload_n hx hb d_M_parsing_106 rfl (lv_at hl 3 rfl) ?_
      refine cM_v (As := [.int (x3)]) (rest := []) hx hb hml hown hts hK hP hD hS hA (Nat.zero_le _) (Nat.zero_le _) hl.1 (q_M_push hts ⟨Nat.le_of_ble_eq_true rfl, Nat.le_of_ble_eq_true rfl⟩) (c_M_push l g H.size _ (x3) _ hw) rfl rfl (Nat.le_of_ble_eq_true rfl) d_M_parsing_107 (fun S6 H locs hw hP hD hS => ?_)
      refine lv_goto hx hb d_M_parsing_110 (tgt := 176) (by decide) ?_
      exact J176 S6 (x2) _ _ _ hw (lv_sub hl [0, 2] rfl) hP hD hS
  have J34 : ∀ (S : StM) (x1 : Int32) (x2 : Int32) (H : Heap) (locs : List Loc) (ls : Array Slot), wq_M_parsing_34 post  S x1 x2 → lv_has ls 4 [(0, .ref (g.2.2 0)), (1, .int (x1)), (2, .int (x2))] → va_P g.1 classes (wM g S) H → va_D (AM g s.heap.size) (wM g S) → va_S (AM g s.heap.size) s.heap H locs → W p l e (rmM 4 89) s m args below meth c H locs 0 0 Q (F0 m 34 ls []) := by
    intro S x1 x2 H locs ls hw hl hP hD hS
    unfold wq_M_parsing_34 at hw
    refine lv_iload_n hx hb d_M_parsing_34 rfl (lv_at hl 1 rfl) ?_
    refine lv_bipush (v := 36) hx hb d_M_parsing_35 (by decide) ?_
    refine lv_icmp_ne hx hb d_M_parsing_37 (tgt := 55) (by decide) (fun hc => ?_) (fun hc => ?_)
    · have hw := hw.2 hc
      refine lv_aload_n hx hb d_M_parsing_55 rfl (lv_at hl 0 rfl) ?_
      refine cM_i (As := []) (rest := []) hx hb hml hown hts hK hP hD hS hA (Nat.zero_le _) (Nat.zero_le _) hl.1 (q_M_nextToken hts ⟨Nat.le_of_ble_eq_true rfl, Nat.le_of_ble_eq_true rfl⟩) (c_M_nextToken l g H.size _  _ hw) rfl rfl (Nat.le_of_ble_eq_true rfl) d_M_parsing_56 (fun r8 S7 H locs hw hP hD hS => ?_)
      refine lv_pop hx hb d_M_parsing_59 rfl ?_
      refine lv_aload_n hx hb d_M_parsing_60 rfl (lv_at hl 0 rfl) ?_
      refine cM_i (As := []) (rest := []) hx hb hml hown hts hK hP hD hS hA (Nat.zero_le _) (Nat.zero_le _) hl.1 (q_M_find hts ⟨Nat.le_of_ble_eq_true rfl, Nat.le_of_ble_eq_true rfl⟩) (c_M_find l g H.size _  _ hw) rfl rfl (Nat.le_of_ble_eq_true rfl) d_M_parsing_61 (fun r10 S9 H locs hw hP hD hS => ?_)
      refine lv_istore_n (lv' := [(3, .int (r10)), (0, .ref (g.2.2 0)), (1, .int (x1)), (2, .int (x2))]) hx hb d_M_parsing_64 rfl hl (by decide) rfl (fun ls hl => ?_)
      refine lv_aload_n hx hb d_M_parsing_65 rfl (lv_at hl 1 rfl) ?_
      refine cM_i (As := []) (rest := []) hx hb hml hown hts hK hP hD hS hA (Nat.zero_le _) (Nat.zero_le _) hl.1 (q_M_isName hts ⟨Nat.le_of_ble_eq_true rfl, Nat.le_of_ble_eq_true rfl⟩) (c_M_isName l g H.size _  _ hw) rfl rfl (Nat.le_of_ble_eq_true rfl) d_M_parsing_66 (fun r12 S11 H locs hw hP hD hS => ?_)
      refine lv_if_ne hx hb d_M_parsing_69 (tgt := 81) (by decide) (fun hc => ?_) (fun hc => ?_)
      · have hw := hw.2 hc
        refine lv_iload_n hx hb d_M_parsing_81 rfl (lv_at hl 2 rfl) ?_
        refine lv_bipush (v := 32) hx hb d_M_parsing_82 (by decide) ?_
        refine lv_icmp_ne hx hb d_M_parsing_84 (tgt := 99) (by decide) (fun hc => ?_) (fun hc => ?_)
        · have hw := hw.2 hc
          exact J99 S11 (x1) (x2) (r10) _ _ _ hw (lv_sub hl [1, 2, 3, 0] rfl) hP hD hS
        · have hw := hw.1 hc
          refine lv_iload_n hx hb d_M_parsing_87 rfl (lv_at hl 0 rfl) ?_
          refine lv_if_ge hx hb d_M_parsing_88 (tgt := 99) (by decide) (fun hc => ?_) (fun hc => ?_)
          · have hw := hw.1 hc
            exact J99 S11 (x1) (x2) (r10) _ _ _ hw (lv_sub hl [1, 2, 3, 0] rfl) hP hD hS
          · have hw := hw.2 hc
            refine lv_aload_n hx hb d_M_parsing_91 rfl (lv_at hl 1 rfl) ?_
            refine lv_iconst (v := 1) hx hb d_M_parsing_92 (by decide) ?_
            refine cM_v (As := [.int (1)]) (rest := []) hx hb hml hown hts hK hP hD hS hA (Nat.zero_le _) (Nat.zero_le _) hl.1 (q_M_fail hts ⟨Nat.le_of_ble_eq_true rfl, Nat.le_of_ble_eq_true rfl⟩) (c_M_fail l g H.size _ (1) _ hw) rfl rfl (Nat.le_of_ble_eq_true rfl) d_M_parsing_93 (fun S13 H locs hw hP hD hS => ?_)
            refine lv_goto hx hb d_M_parsing_96 (tgt := 176) (by decide) ?_
            exact J176 S13 (x2) _ _ _ hw (lv_sub hl [1, 3] rfl) hP hD hS
      · have hw := hw.1 hc
        refine lv_aload_n hx hb d_M_parsing_72 rfl (lv_at hl 1 rfl) ?_
        refine lv_bipush (v := 6) hx hb d_M_parsing_73 (by decide) ?_
        refine cM_v (As := [.int (6)]) (rest := []) hx hb hml hown hts hK hP hD hS hA (Nat.zero_le _) (Nat.zero_le _) hl.1 (q_M_fail hts ⟨Nat.le_of_ble_eq_true rfl, Nat.le_of_ble_eq_true rfl⟩) (c_M_fail l g H.size _ (6) _ hw) rfl rfl (Nat.le_of_ble_eq_true rfl) d_M_parsing_75 (fun S14 H locs hw hP hD hS => ?_)
        refine lv_goto hx hb d_M_parsing_78 (tgt := 176) (by decide) ?_
        exact J176 S14 (x2) _ _ _ hw (lv_sub hl [1, 3] rfl) hP hD hS
    · have hw := hw.1 hc
      refine lv_aload_n hx hb d_M_parsing_40 rfl (lv_at hl 0 rfl) ?_
      refine gt_M (v := .ref (g.2.2 17)) hx hb hown hts hK hP 16 (by decide) rfl k_M_122 d_M_parsing_41 ?_
      refine lv_aload_n hx hb d_M_parsing_44 rfl (lv_at hl 0 rfl) ?_
      refine gt_M (v := .int ((S.1 20))) hx hb hown hts hK hP 20 (by decide) rfl k_M_126 d_M_parsing_45 ?_
      refine lv_iconst (v := 1) hx hb d_M_parsing_48 (by decide) ?_
      refine lv_isub hx hb d_M_parsing_49 ?_
      refine lv_iconst (v := 1) hx hb d_M_parsing_50 (by decide) ?_
      obtain ⟨hi, hw⟩ := hw
      refine za_M (S2 := (S.1, (va_up S.2.1 16 (upd (S.2.1 16) (Int32.toNatClampNeg (((S.1 20) - 1))) (vp_nar .boolean (1)))), S.2.2)) (f := (S.2.1 16)) hx hb hK hP hD hS 7 rfl hi d_M_parsing_51 (sA_M_16 g _ _) (fun H locs hP hD hS => ?_)
      refine lv_goto hx hb d_M_parsing_52 (tgt := 181) (by decide) ?_
      exact J181 (S.1, (va_up S.2.1 16 (upd (S.2.1 16) (Int32.toNatClampNeg (((S.1 20) - 1))) (vp_nar .boolean (1)))), S.2.2)  _ _ _ hw (lv_sub hl [] rfl) hP hD hS
  have J25 : ∀ (S : StM)  (H : Heap) (locs : List Loc) (ls : Array Slot), wq_M_parsing_25 post  S  → lv_has ls 4 [(0, .ref (g.2.2 0))] → va_P g.1 classes (wM g S) H → va_D (AM g s.heap.size) (wM g S) → va_S (AM g s.heap.size) s.heap H locs → W p l e (rmM 4 89) s m args below meth c H locs 0 0 Q (F0 m 25 ls []) := by
    intro S  H locs ls hw hl hP hD hS
    unfold wq_M_parsing_25 at hw
    refine lv_aload_n hx hb d_M_parsing_25 rfl (lv_at hl 0 rfl) ?_
    refine lv_bipush (v := 6) hx hb d_M_parsing_26 (by decide) ?_
    refine cM_v (As := [.int (6)]) (rest := []) hx hb hml hown hts hK hP hD hS hA (Nat.zero_le _) (Nat.zero_le _) hl.1 (q_M_fail hts ⟨Nat.le_of_ble_eq_true rfl, Nat.le_of_ble_eq_true rfl⟩) (c_M_fail l g H.size _ (6) _ hw) rfl rfl (Nat.le_of_ble_eq_true rfl) d_M_parsing_28 (fun S15 H locs hw hP hD hS => ?_)
    refine lv_goto hx hb d_M_parsing_31 (tgt := 181) (by decide) ?_
    exact J181 S15  _ _ _ hw (lv_sub hl [] rfl) hP hD hS
  refine lv_aload_n hx hb d_M_parsing_0 rfl (lv_at hl 0 rfl) ?_
  refine gt_M (v := .int ((S.1 3))) hx hb hown hts hK hP 3 (by decide) rfl k_M_109 d_M_parsing_1 ?_
  refine lv_istore_n (lv' := [(2, .int ((S.1 3))), (0, .ref (g.2.2 0)), (1, .int (a0))]) hx hb d_M_parsing_4 rfl hl (by decide) rfl (fun ls hl => ?_)
  refine lv_aload_n hx hb d_M_parsing_5 rfl (lv_at hl 1 rfl) ?_
  refine gt_M (v := .int ((S.1 21))) hx hb hown hts hK hP 21 (by decide) rfl k_M_127 d_M_parsing_6 ?_
  refine lv_if_ne hx hb d_M_parsing_9 (tgt := 25) (by decide) (fun hc => ?_) (fun hc => ?_)
  · have hw := hw.2 hc
    exact J25 S  _ _ _ hw (lv_sub hl [1] rfl) hP hD hS
  · have hw := hw.1 hc
    refine lv_iload_n hx hb d_M_parsing_12 rfl (lv_at hl 2 rfl) ?_
    refine lv_bipush (v := 36) hx hb d_M_parsing_13 (by decide) ?_
    refine lv_icmp_ne hx hb d_M_parsing_15 (tgt := 34) (by decide) (fun hc => ?_) (fun hc => ?_)
    · have hw := hw.2 hc
      exact J34 S (a0) ((S.1 3)) _ _ _ hw (lv_sub hl [1, 2, 0] rfl) hP hD hS
    · have hw := hw.1 hc
      refine lv_aload_n hx hb d_M_parsing_18 rfl (lv_at hl 1 rfl) ?_
      refine gt_M (v := .int ((S.1 20))) hx hb hown hts hK hP 20 (by decide) rfl k_M_126 d_M_parsing_19 ?_
      refine lv_if_ne hx hb d_M_parsing_22 (tgt := 34) (by decide) (fun hc => ?_) (fun hc => ?_)
      · have hw := hw.2 hc
        exact J34 S (a0) ((S.1 3)) _ _ _ hw (lv_sub hl [1, 2, 0] rfl) hP hD hS
      · have hw := hw.1 hc
        exact J25 S  _ _ _ hw (lv_sub hl [1] rfl) hP hD hS
theorem d_M_settle_0 : decode b_M_settle 0 = .ok (.aload_n 0, 1) := by decide +kernel
theorem d_M_settle_1 : decode b_M_settle 1 = .ok (.aload_n 0, 1) := by decide +kernel
theorem d_M_settle_2 : decode b_M_settle 2 = .ok (.getfield 276, 3) := by decide +kernel
theorem d_M_settle_5 : decode b_M_settle 5 = .ok (.iconst 1, 1) := by decide +kernel
theorem d_M_settle_6 : decode b_M_settle 6 = .ok (.isub, 1) := by decide +kernel
theorem d_M_settle_7 : decode b_M_settle 7 = .ok (.putfield 276, 3) := by decide +kernel
theorem d_M_settle_10 : decode b_M_settle 10 = .ok (.aload_n 0, 1) := by decide +kernel
theorem d_M_settle_11 : decode b_M_settle 11 = .ok (.getfield 39, 3) := by decide +kernel
theorem d_M_settle_14 : decode b_M_settle 14 = .ok (.bipush 60, 2) := by decide +kernel
theorem d_M_settle_16 : decode b_M_settle 16 = .ok (.aload_n 0, 1) := by decide +kernel
theorem d_M_settle_17 : decode b_M_settle 17 = .ok (.getfield 227, 3) := by decide +kernel
theorem d_M_settle_20 : decode b_M_settle 20 = .ok (.imul, 1) := by decide +kernel
theorem d_M_settle_21 : decode b_M_settle 21 = .ok (.aload_n 0, 1) := by decide +kernel
theorem d_M_settle_22 : decode b_M_settle 22 = .ok (.getfield 45, 3) := by decide +kernel
theorem d_M_settle_25 : decode b_M_settle 25 = .ok (.aload_n 0, 1) := by decide +kernel
theorem d_M_settle_26 : decode b_M_settle 26 = .ok (.getfield 276, 3) := by decide +kernel
theorem d_M_settle_29 : decode b_M_settle 29 = .ok (.iaload, 1) := by decide +kernel
theorem d_M_settle_30 : decode b_M_settle 30 = .ok (.iadd, 1) := by decide +kernel
theorem d_M_settle_31 : decode b_M_settle 31 = .ok (.aload_n 0, 1) := by decide +kernel
theorem d_M_settle_32 : decode b_M_settle 32 = .ok (.getfield 33, 3) := by decide +kernel
theorem d_M_settle_35 : decode b_M_settle 35 = .ok (.aload_n 0, 1) := by decide +kernel
theorem d_M_settle_36 : decode b_M_settle 36 = .ok (.getfield 227, 3) := by decide +kernel
theorem d_M_settle_39 : decode b_M_settle 39 = .ok (.iaload, 1) := by decide +kernel
theorem d_M_settle_40 : decode b_M_settle 40 = .ok (.iastore, 1) := by decide +kernel
theorem d_M_settle_41 : decode b_M_settle 41 = .ok (.return_, 1) := by decide +kernel
def wp_M_settle (post : StM → Prop) (S : StM)  : Prop :=
  (vp_in ((S.1 22) - 1) 8) ∧ ((vp_in (S.1 20) 25) ∧ ((vp_in ((60 * (S.1 20)) + ((S.2.1 24) (Int32.toNatClampNeg (((S.1 22) - 1))))) 1500) ∧ (post ((upd S.1 22 (((S.1 22) - 1))), (va_up S.2.1 19 (upd (S.2.1 19) (Int32.toNatClampNeg (((60 * (S.1 20)) + ((S.2.1 24) (Int32.toNatClampNeg (((S.1 22) - 1))))))) (((S.2.1 17) (Int32.toNatClampNeg ((S.1 20))))))), S.2.2))))
set_option maxRecDepth 100000 in
set_option maxHeartbeats 4000000 in
theorem c_M_settle (l : Launch) (g : Gm) (sz : Nat) (S : StM)  (post : StM → Prop) (hw : wp_M_settle post S ) : Met l y_M_settle (.code y_M_settle b_M_settle 1 none :: w_M) (rmM 0 0) (va_Pc [.ref (g.2.2 0)] (PM g sz S)) (va_Qv post (BM g sz) (AM g sz)) 0 0 (AM g sz) := by
  refine ofM_v (by decide) (Nat.le_of_ble_eq_true rfl) (fun p e s m args below meth c Q H locs ls hx hb hml hts hown hK hA kr hl hP hD hS => ?_)
  have hl : lv_has ls 1 [(0, .ref (g.2.2 0))] := hl
  unfold wp_M_settle at hw
  refine lv_aload_n hx hb d_M_settle_0 rfl (lv_at hl 0 rfl) ?_
  refine lv_aload_n hx hb d_M_settle_1 rfl (lv_at hl 0 rfl) ?_
  refine gt_M (v := .int ((S.1 22))) hx hb hown hts hK hP 22 (by decide) rfl k_M_128 d_M_settle_2 ?_
  refine lv_iconst (v := 1) hx hb d_M_settle_5 (by decide) ?_
  refine lv_isub hx hb d_M_settle_6 ?_
  refine pt_M (S2 := ((upd S.1 22 (((S.1 22) - 1))), S.2)) (v := .int (((S.1 22) - 1))) hx hb hown hts hK hP hD hS 22 (by decide) rfl rfl rfl (sI_M_22 g _ _) k_M_128 d_M_settle_7 (fun H locs hP hD hS => ?_)
  refine lv_aload_n hx hb d_M_settle_10 rfl (lv_at hl 0 rfl) ?_
  refine gt_M (v := .ref (g.2.2 20)) hx hb hown hts hK hP 19 (by decide) rfl k_M_125 d_M_settle_11 ?_
  refine lv_bipush (v := 60) hx hb d_M_settle_14 (by decide) ?_
  refine lv_aload_n hx hb d_M_settle_16 rfl (lv_at hl 0 rfl) ?_
  refine gt_M (v := .int ((S.1 20))) hx hb hown hts hK hP 20 (by decide) rfl k_M_126 d_M_settle_17 ?_
  refine lv_imul hx hb d_M_settle_20 ?_
  refine lv_aload_n hx hb d_M_settle_21 rfl (lv_at hl 0 rfl) ?_
  refine gt_M (v := .ref (g.2.2 25)) hx hb hown hts hK hP 24 (by decide) rfl k_M_130 d_M_settle_22 ?_
  refine lv_aload_n hx hb d_M_settle_25 rfl (lv_at hl 0 rfl) ?_
  refine gt_M (v := .int (((S.1 22) - 1))) hx hb hown hts hK hP 22 (by decide) rfl k_M_128 d_M_settle_26 ?_
  obtain ⟨hi, hw⟩ := hw
  refine va_iald (f := (S.2.1 24)) hx hb hK hP 12 0 rfl rfl hi d_M_settle_29 ?_
  refine lv_iadd hx hb d_M_settle_30 ?_
  refine lv_aload_n hx hb d_M_settle_31 rfl (lv_at hl 0 rfl) ?_
  refine gt_M (v := .ref (g.2.2 18)) hx hb hown hts hK hP 17 (by decide) rfl k_M_123 d_M_settle_32 ?_
  refine lv_aload_n hx hb d_M_settle_35 rfl (lv_at hl 0 rfl) ?_
  refine gt_M (v := .int ((S.1 20))) hx hb hown hts hK hP 20 (by decide) rfl k_M_126 d_M_settle_36 ?_
  obtain ⟨hi, hw⟩ := hw
  refine va_iald (f := (S.2.1 17)) hx hb hK hP 8 0 rfl rfl hi d_M_settle_39 ?_
  obtain ⟨hi, hw⟩ := hw
  refine ia_M (S2 := ((upd S.1 22 (((S.1 22) - 1))), (va_up S.2.1 19 (upd (S.2.1 19) (Int32.toNatClampNeg (((60 * (S.1 20)) + ((S.2.1 24) (Int32.toNatClampNeg (((S.1 22) - 1))))))) (((S.2.1 17) (Int32.toNatClampNeg ((S.1 20))))))), S.2.2)) (f := (S.2.1 19)) hx hb hK hP hD hS 10 rfl hi d_M_settle_40 (sA_M_19 g _ _) (fun H locs hP hD hS => ?_)
  exact kr ((upd S.1 22 (((S.1 22) - 1))), (va_up S.2.1 19 (upd (S.2.1 19) (Int32.toNatClampNeg (((60 * (S.1 20)) + ((S.2.1 24) (Int32.toNatClampNeg (((S.1 22) - 1))))))) (((S.2.1 17) (Int32.toNatClampNeg ((S.1 20))))))), S.2.2) _ _ _ _ hw hP hD hS d_M_settle_41
theorem d_M_openOne_0 : decode b_M_openOne 0 = .ok (.aload_n 0, 1) := by decide +kernel
theorem d_M_openOne_1 : decode b_M_openOne 1 = .ok (.getfield 42, 3) := by decide +kernel
theorem d_M_openOne_4 : decode b_M_openOne 4 = .ok (.aload_n 0, 1) := by decide +kernel
theorem d_M_openOne_5 : decode b_M_openOne 5 = .ok (.getfield 276, 3) := by decide +kernel
theorem d_M_openOne_8 : decode b_M_openOne 8 = .ok (.iload_n 1, 1) := by decide +kernel
theorem d_M_openOne_9 : decode b_M_openOne 9 = .ok (.iastore, 1) := by decide +kernel
theorem d_M_openOne_10 : decode b_M_openOne 10 = .ok (.aload_n 0, 1) := by decide +kernel
theorem d_M_openOne_11 : decode b_M_openOne 11 = .ok (.getfield 45, 3) := by decide +kernel
theorem d_M_openOne_14 : decode b_M_openOne 14 = .ok (.aload_n 0, 1) := by decide +kernel
theorem d_M_openOne_15 : decode b_M_openOne 15 = .ok (.getfield 276, 3) := by decide +kernel
theorem d_M_openOne_18 : decode b_M_openOne 18 = .ok (.iload_n 2, 1) := by decide +kernel
theorem d_M_openOne_19 : decode b_M_openOne 19 = .ok (.iastore, 1) := by decide +kernel
theorem d_M_openOne_20 : decode b_M_openOne 20 = .ok (.aload_n 0, 1) := by decide +kernel
theorem d_M_openOne_21 : decode b_M_openOne 21 = .ok (.aload_n 0, 1) := by decide +kernel
theorem d_M_openOne_22 : decode b_M_openOne 22 = .ok (.getfield 276, 3) := by decide +kernel
theorem d_M_openOne_25 : decode b_M_openOne 25 = .ok (.iconst 1, 1) := by decide +kernel
theorem d_M_openOne_26 : decode b_M_openOne 26 = .ok (.iadd, 1) := by decide +kernel
theorem d_M_openOne_27 : decode b_M_openOne 27 = .ok (.putfield 276, 3) := by decide +kernel
theorem d_M_openOne_30 : decode b_M_openOne 30 = .ok (.return_, 1) := by decide +kernel
def wp_M_openOne (post : StM → Prop) (S : StM) (a0 : Int32) (a1 : Int32) : Prop :=
  (vp_in (S.1 22) 8) ∧ ((vp_in (S.1 22) 8) ∧ (post ((upd S.1 22 (((S.1 22) + 1))), (va_up (va_up S.2.1 23 (upd (S.2.1 23) (Int32.toNatClampNeg ((S.1 22))) (a0))) 24 (upd (S.2.1 24) (Int32.toNatClampNeg ((S.1 22))) (a1))), S.2.2)))
set_option maxRecDepth 100000 in
set_option maxHeartbeats 4000000 in
theorem c_M_openOne (l : Launch) (g : Gm) (sz : Nat) (S : StM) (a0 : Int32) (a1 : Int32) (post : StM → Prop) (hw : wp_M_openOne post S a0 a1) : Met l y_M_openOne (.code y_M_openOne b_M_openOne 3 none :: w_M) (rmM 0 0) (va_Pc [.ref (g.2.2 0), .int (a0), .int (a1)] (PM g sz S)) (va_Qv post (BM g sz) (AM g sz)) 0 0 (AM g sz) := by
  refine ofM_v (by decide) (Nat.le_of_ble_eq_true rfl) (fun p e s m args below meth c Q H locs ls hx hb hml hts hown hK hA kr hl hP hD hS => ?_)
  have hl : lv_has ls 3 [(0, .ref (g.2.2 0)), (1, .int (a0)), (2, .int (a1))] := hl
  unfold wp_M_openOne at hw
  refine lv_aload_n hx hb d_M_openOne_0 rfl (lv_at hl 0 rfl) ?_
  refine gt_M (v := .ref (g.2.2 24)) hx hb hown hts hK hP 23 (by decide) rfl k_M_129 d_M_openOne_1 ?_
  refine lv_aload_n hx hb d_M_openOne_4 rfl (lv_at hl 0 rfl) ?_
  refine gt_M (v := .int ((S.1 22))) hx hb hown hts hK hP 22 (by decide) rfl k_M_128 d_M_openOne_5 ?_
  refine lv_iload_n hx hb d_M_openOne_8 rfl (lv_at hl 1 rfl) ?_
  obtain ⟨hi, hw⟩ := hw
  refine ia_M (S2 := (S.1, (va_up S.2.1 23 (upd (S.2.1 23) (Int32.toNatClampNeg ((S.1 22))) (a0))), S.2.2)) (f := (S.2.1 23)) hx hb hK hP hD hS 11 rfl hi d_M_openOne_9 (sA_M_23 g _ _) (fun H locs hP hD hS => ?_)
  refine lv_aload_n hx hb d_M_openOne_10 rfl (lv_at hl 0 rfl) ?_
  refine gt_M (v := .ref (g.2.2 25)) hx hb hown hts hK hP 24 (by decide) rfl k_M_130 d_M_openOne_11 ?_
  refine lv_aload_n hx hb d_M_openOne_14 rfl (lv_at hl 0 rfl) ?_
  refine gt_M (v := .int ((S.1 22))) hx hb hown hts hK hP 22 (by decide) rfl k_M_128 d_M_openOne_15 ?_
  refine lv_iload_n hx hb d_M_openOne_18 rfl (lv_at hl 2 rfl) ?_
  obtain ⟨hi, hw⟩ := hw
  refine ia_M (S2 := (S.1, (va_up (va_up S.2.1 23 (upd (S.2.1 23) (Int32.toNatClampNeg ((S.1 22))) (a0))) 24 (upd (S.2.1 24) (Int32.toNatClampNeg ((S.1 22))) (a1))), S.2.2)) (f := (S.2.1 24)) hx hb hK hP hD hS 12 rfl hi d_M_openOne_19 (sA_M_24 g _ _) (fun H locs hP hD hS => ?_)
  refine lv_aload_n hx hb d_M_openOne_20 rfl (lv_at hl 0 rfl) ?_
  refine lv_aload_n hx hb d_M_openOne_21 rfl (lv_at hl 0 rfl) ?_
  refine gt_M (v := .int ((S.1 22))) hx hb hown hts hK hP 22 (by decide) rfl k_M_128 d_M_openOne_22 ?_
  refine lv_iconst (v := 1) hx hb d_M_openOne_25 (by decide) ?_
  refine lv_iadd hx hb d_M_openOne_26 ?_
  refine pt_M (S2 := ((upd S.1 22 (((S.1 22) + 1))), (va_up (va_up S.2.1 23 (upd (S.2.1 23) (Int32.toNatClampNeg ((S.1 22))) (a0))) 24 (upd (S.2.1 24) (Int32.toNatClampNeg ((S.1 22))) (a1))), S.2.2)) (v := .int (((S.1 22) + 1))) hx hb hown hts hK hP hD hS 22 (by decide) rfl rfl rfl (sI_M_22 g _ _) k_M_128 d_M_openOne_27 (fun H locs hP hD hS => ?_)
  exact kr ((upd S.1 22 (((S.1 22) + 1))), (va_up (va_up S.2.1 23 (upd (S.2.1 23) (Int32.toNatClampNeg ((S.1 22))) (a0))) 24 (upd (S.2.1 24) (Int32.toNatClampNeg ((S.1 22))) (a1))), S.2.2) _ _ _ _ hw hP hD hS d_M_openOne_30
theorem d_M_fits_0 : decode b_M_fits 0 = .ok (.aload_n 0, 1) := by decide +kernel
theorem d_M_fits_1 : decode b_M_fits 1 = .ok (.getfield 276, 3) := by decide +kernel
theorem d_M_fits_4 : decode b_M_fits 4 = .ok (.ifCond .le 17, 3) := by decide +kernel
theorem d_M_fits_7 : decode b_M_fits 7 = .ok (.aload_n 0, 1) := by decide +kernel
theorem d_M_fits_8 : decode b_M_fits 8 = .ok (.getfield 42, 3) := by decide +kernel
theorem d_M_fits_11 : decode b_M_fits 11 = .ok (.aload_n 0, 1) := by decide +kernel
theorem d_M_fits_12 : decode b_M_fits 12 = .ok (.getfield 276, 3) := by decide +kernel
theorem d_M_fits_15 : decode b_M_fits 15 = .ok (.iconst 1, 1) := by decide +kernel
theorem d_M_fits_16 : decode b_M_fits 16 = .ok (.isub, 1) := by decide +kernel
theorem d_M_fits_17 : decode b_M_fits 17 = .ok (.iaload, 1) := by decide +kernel
theorem d_M_fits_18 : decode b_M_fits 18 = .ok (.goto 4, 3) := by decide +kernel
theorem d_M_fits_21 : decode b_M_fits 21 = .ok (.iconst 0, 1) := by decide +kernel
theorem d_M_fits_22 : decode b_M_fits 22 = .ok (.istore_n 2, 1) := by decide +kernel
theorem d_M_fits_23 : decode b_M_fits 23 = .ok (.iload_n 1, 1) := by decide +kernel
theorem d_M_fits_24 : decode b_M_fits 24 = .ok (.bipush 40, 2) := by decide +kernel
theorem d_M_fits_26 : decode b_M_fits 26 = .ok (.if_icmp .ne 16, 3) := by decide +kernel
theorem d_M_fits_29 : decode b_M_fits 29 = .ok (.aload_n 0, 1) := by decide +kernel
theorem d_M_fits_30 : decode b_M_fits 30 = .ok (.getfield 276, 3) := by decide +kernel
theorem d_M_fits_33 : decode b_M_fits 33 = .ok (.ifCond .ne 7, 3) := by decide +kernel
theorem d_M_fits_36 : decode b_M_fits 36 = .ok (.iconst 1, 1) := by decide +kernel
theorem d_M_fits_37 : decode b_M_fits 37 = .ok (.goto 4, 3) := by decide +kernel
theorem d_M_fits_40 : decode b_M_fits 40 = .ok (.iconst 0, 1) := by decide +kernel
theorem d_M_fits_41 : decode b_M_fits 41 = .ok (.ireturn, 1) := by decide +kernel
theorem d_M_fits_42 : decode b_M_fits 42 = .ok (.iload_n 1, 1) := by decide +kernel
theorem d_M_fits_43 : decode b_M_fits 43 = .ok (.bipush 42, 2) := by decide +kernel
theorem d_M_fits_45 : decode b_M_fits 45 = .ok (.if_icmp .ne 21, 3) := by decide +kernel
theorem d_M_fits_48 : decode b_M_fits 48 = .ok (.iload_n 2, 1) := by decide +kernel
theorem d_M_fits_49 : decode b_M_fits 49 = .ok (.bipush 41, 2) := by decide +kernel
theorem d_M_fits_51 : decode b_M_fits 51 = .ok (.if_icmp .eq 9, 3) := by decide +kernel
theorem d_M_fits_54 : decode b_M_fits 54 = .ok (.iload_n 2, 1) := by decide +kernel
theorem d_M_fits_55 : decode b_M_fits 55 = .ok (.bipush 43, 2) := by decide +kernel
theorem d_M_fits_57 : decode b_M_fits 57 = .ok (.if_icmp .ne 7, 3) := by decide +kernel
theorem d_M_fits_60 : decode b_M_fits 60 = .ok (.iconst 1, 1) := by decide +kernel
theorem d_M_fits_61 : decode b_M_fits 61 = .ok (.goto 4, 3) := by decide +kernel
theorem d_M_fits_64 : decode b_M_fits 64 = .ok (.iconst 0, 1) := by decide +kernel
theorem d_M_fits_65 : decode b_M_fits 65 = .ok (.ireturn, 1) := by decide +kernel
theorem d_M_fits_66 : decode b_M_fits 66 = .ok (.iload_n 1, 1) := by decide +kernel
theorem d_M_fits_67 : decode b_M_fits 67 = .ok (.bipush 43, 2) := by decide +kernel
theorem d_M_fits_69 : decode b_M_fits 69 = .ok (.if_icmp .ne 15, 3) := by decide +kernel
theorem d_M_fits_72 : decode b_M_fits 72 = .ok (.iload_n 2, 1) := by decide +kernel
theorem d_M_fits_73 : decode b_M_fits 73 = .ok (.bipush 41, 2) := by decide +kernel
theorem d_M_fits_75 : decode b_M_fits 75 = .ok (.if_icmp .ne 7, 3) := by decide +kernel
theorem d_M_fits_78 : decode b_M_fits 78 = .ok (.iconst 1, 1) := by decide +kernel
theorem d_M_fits_79 : decode b_M_fits 79 = .ok (.goto 4, 3) := by decide +kernel
theorem d_M_fits_82 : decode b_M_fits 82 = .ok (.iconst 0, 1) := by decide +kernel
theorem d_M_fits_83 : decode b_M_fits 83 = .ok (.ireturn, 1) := by decide +kernel
theorem d_M_fits_84 : decode b_M_fits 84 = .ok (.iload_n 1, 1) := by decide +kernel
theorem d_M_fits_85 : decode b_M_fits 85 = .ok (.bipush 45, 2) := by decide +kernel
theorem d_M_fits_87 : decode b_M_fits 87 = .ok (.bipush 47, 2) := by decide +kernel
theorem d_M_fits_89 : decode b_M_fits 89 = .ok (.invokestatic 212, 3) := by decide +kernel
theorem d_M_fits_92 : decode b_M_fits 92 = .ok (.ifCond .eq 15, 3) := by decide +kernel
theorem d_M_fits_95 : decode b_M_fits 95 = .ok (.iload_n 2, 1) := by decide +kernel
theorem d_M_fits_96 : decode b_M_fits 96 = .ok (.bipush 44, 2) := by decide +kernel
theorem d_M_fits_98 : decode b_M_fits 98 = .ok (.if_icmp .ne 7, 3) := by decide +kernel
theorem d_M_fits_101 : decode b_M_fits 101 = .ok (.iconst 1, 1) := by decide +kernel
theorem d_M_fits_102 : decode b_M_fits 102 = .ok (.goto 4, 3) := by decide +kernel
theorem d_M_fits_105 : decode b_M_fits 105 = .ok (.iconst 0, 1) := by decide +kernel
theorem d_M_fits_106 : decode b_M_fits 106 = .ok (.ireturn, 1) := by decide +kernel
theorem d_M_fits_107 : decode b_M_fits 107 = .ok (.iload_n 1, 1) := by decide +kernel
theorem d_M_fits_108 : decode b_M_fits 108 = .ok (.bipush 48, 2) := by decide +kernel
theorem d_M_fits_110 : decode b_M_fits 110 = .ok (.if_icmp .ne 17, 3) := by decide +kernel
theorem d_M_fits_113 : decode b_M_fits 113 = .ok (.iload_n 2, 1) := by decide +kernel
theorem d_M_fits_114 : decode b_M_fits 114 = .ok (.bipush 47, 2) := by decide +kernel
theorem d_M_fits_116 : decode b_M_fits 116 = .ok (.if_icmp .ne 7, 3) := by decide +kernel
theorem d_M_fits_119 : decode b_M_fits 119 = .ok (.iconst 1, 1) := by decide +kernel
theorem d_M_fits_120 : decode b_M_fits 120 = .ok (.goto 24, 3) := by decide +kernel
theorem d_M_fits_123 : decode b_M_fits 123 = .ok (.iconst 0, 1) := by decide +kernel
theorem d_M_fits_124 : decode b_M_fits 124 = .ok (.goto 20, 3) := by decide +kernel
theorem d_M_fits_127 : decode b_M_fits 127 = .ok (.iload_n 1, 1) := by decide +kernel
theorem d_M_fits_128 : decode b_M_fits 128 = .ok (.bipush 50, 2) := by decide +kernel
theorem d_M_fits_130 : decode b_M_fits 130 = .ok (.if_icmp .ne 9, 3) := by decide +kernel
theorem d_M_fits_133 : decode b_M_fits 133 = .ok (.iload_n 2, 1) := by decide +kernel
theorem d_M_fits_134 : decode b_M_fits 134 = .ok (.bipush 49, 2) := by decide +kernel
theorem d_M_fits_136 : decode b_M_fits 136 = .ok (.if_icmp .ne 7, 3) := by decide +kernel
theorem d_M_fits_139 : decode b_M_fits 139 = .ok (.iconst 1, 1) := by decide +kernel
theorem d_M_fits_140 : decode b_M_fits 140 = .ok (.goto 4, 3) := by decide +kernel
theorem d_M_fits_143 : decode b_M_fits 143 = .ok (.iconst 0, 1) := by decide +kernel
theorem d_M_fits_144 : decode b_M_fits 144 = .ok (.ireturn, 1) := by decide +kernel
def wq_M_fits_144 (post : Int32 → StM → Prop)  (S : StM) (t0 : Int32) : Prop :=
  (narrow .boolean (.int (t0)) = .int (t0)) ∧ (post (t0) S)
def wq_M_fits_139 (post : Int32 → StM → Prop)  (S : StM)  : Prop :=
  wq_M_fits_144 post  S (1)
def wq_M_fits_106 (post : Int32 → StM → Prop)  (S : StM) (t0 : Int32) : Prop :=
  (narrow .boolean (.int (t0)) = .int (t0)) ∧ (post (t0) S)
def wq_M_fits_83 (post : Int32 → StM → Prop)  (S : StM) (t0 : Int32) : Prop :=
  (narrow .boolean (.int (t0)) = .int (t0)) ∧ (post (t0) S)
def wq_M_fits_65 (post : Int32 → StM → Prop)  (S : StM) (t0 : Int32) : Prop :=
  (narrow .boolean (.int (t0)) = .int (t0)) ∧ (post (t0) S)
def wq_M_fits_60 (post : Int32 → StM → Prop)  (S : StM)  : Prop :=
  wq_M_fits_65 post  S (1)
def wq_M_fits_41 (post : Int32 → StM → Prop)  (S : StM) (t0 : Int32) : Prop :=
  (narrow .boolean (.int (t0)) = .int (t0)) ∧ (post (t0) S)
def wq_M_fits_22 (post : Int32 → StM → Prop)  (S : StM) (x1 : Int32) (t0 : Int32) : Prop :=
  ((x1 = 40) → (((S.1 22) = 0) → wq_M_fits_41 post  S (1)) ∧ (¬ ((S.1 22) = 0) → wq_M_fits_41 post  S (0))) ∧ (¬ (x1 = 40) → ((x1 = 42) → ((t0 = 41) → wq_M_fits_60 post  S ) ∧ (¬ (t0 = 41) → ((t0 = 43) → wq_M_fits_60 post  S ) ∧ (¬ (t0 = 43) → wq_M_fits_65 post  S (0)))) ∧ (¬ (x1 = 42) → ((x1 = 43) → ((t0 = 41) → wq_M_fits_83 post  S (1)) ∧ (¬ (t0 = 41) → wq_M_fits_83 post  S (0))) ∧ (¬ (x1 = 43) → wp_M_in (fun (r2 : Int32) (S1 : StM) => (((r2 = 0) → ((x1 = 48) → ((t0 = 47) → wq_M_fits_144 post  S1 (1)) ∧ (¬ (t0 = 47) → wq_M_fits_144 post  S1 (0))) ∧ (¬ (x1 = 48) → ((x1 = 50) → ((t0 = 49) → wq_M_fits_139 post  S1 ) ∧ (¬ (t0 = 49) → wq_M_fits_144 post  S1 (0))) ∧ (¬ (x1 = 50) → wq_M_fits_139 post  S1 ))) ∧ (¬ (r2 = 0) → ((t0 = 44) → wq_M_fits_106 post  S1 (1)) ∧ (¬ (t0 = 44) → wq_M_fits_106 post  S1 (0))))) S (x1) (45) (47))))
def wp_M_fits (post : Int32 → StM → Prop) (S : StM) (a0 : Int32) : Prop :=
  (((S.1 22) ≤ 0) → wq_M_fits_22 post  S (a0) (0)) ∧ (¬ ((S.1 22) ≤ 0) → (vp_in ((S.1 22) - 1) 8) ∧ (wq_M_fits_22 post  S (a0) (((S.2.1 23) (Int32.toNatClampNeg (((S.1 22) - 1)))))))
set_option maxRecDepth 100000 in
set_option maxHeartbeats 4000000 in
theorem c_M_fits (l : Launch) (g : Gm) (sz : Nat) (S : StM) (a0 : Int32) (post : Int32 → StM → Prop) (hw : wp_M_fits post S a0) : Met l y_M_fits (.code y_M_fits b_M_fits 3 (some .boolean) :: w_M) (rmM 1 22) (va_Pc [.ref (g.2.2 0), .int (a0)] (PM g sz S)) (va_Qi post (BM g sz) (AM g sz)) 0 0 (AM g sz) := by
  refine ofM_z (by decide) (Nat.le_of_ble_eq_true rfl) (fun p e s m args below meth c Q H locs ls hx hb hml hts hown hK hA kr hl hP hD hS => ?_)
  have hl : lv_has ls 3 [(0, .ref (g.2.2 0)), (1, .int (a0))] := hl
  unfold wp_M_fits at hw
  have J144 : ∀ (S : StM) (t0 : Int32) (H : Heap) (locs : List Loc) (ls : Array Slot), wq_M_fits_144 post  S t0 → lv_has ls 3 [] → va_P g.1 classes (wM g S) H → va_D (AM g s.heap.size) (wM g S) → va_S (AM g s.heap.size) s.heap H locs → W p l e (rmM 1 22) s m args below meth c H locs 0 0 Q (F0 m 144 ls [.int (t0)]) := by
    intro S t0 H locs ls hw hl hP hD hS
    unfold wq_M_fits_144 at hw
    obtain ⟨hnz, hw⟩ := hw
    exact kr (t0) S _ _ _ _ hnz hw hP hD hS d_M_fits_144
  have J139 : ∀ (S : StM)  (H : Heap) (locs : List Loc) (ls : Array Slot), wq_M_fits_139 post  S  → lv_has ls 3 [] → va_P g.1 classes (wM g S) H → va_D (AM g s.heap.size) (wM g S) → va_S (AM g s.heap.size) s.heap H locs → W p l e (rmM 1 22) s m args below meth c H locs 0 0 Q (F0 m 139 ls []) := by
    intro S  H locs ls hw hl hP hD hS
    unfold wq_M_fits_139 at hw
    refine lv_iconst (v := 1) hx hb d_M_fits_139 (by decide) ?_
    refine lv_goto hx hb d_M_fits_140 (tgt := 144) (by decide) ?_
    exact J144 S (1) _ _ _ hw (lv_sub hl [] rfl) hP hD hS
  have J106 : ∀ (S : StM) (t0 : Int32) (H : Heap) (locs : List Loc) (ls : Array Slot), wq_M_fits_106 post  S t0 → lv_has ls 3 [] → va_P g.1 classes (wM g S) H → va_D (AM g s.heap.size) (wM g S) → va_S (AM g s.heap.size) s.heap H locs → W p l e (rmM 1 22) s m args below meth c H locs 0 0 Q (F0 m 106 ls [.int (t0)]) := by
    intro S t0 H locs ls hw hl hP hD hS
    unfold wq_M_fits_106 at hw
    obtain ⟨hnz, hw⟩ := hw
    exact kr (t0) S _ _ _ _ hnz hw hP hD hS d_M_fits_106
  have J83 : ∀ (S : StM) (t0 : Int32) (H : Heap) (locs : List Loc) (ls : Array Slot), wq_M_fits_83 post  S t0 → lv_has ls 3 [] → va_P g.1 classes (wM g S) H → va_D (AM g s.heap.size) (wM g S) → va_S (AM g s.heap.size) s.heap H locs → W p l e (rmM 1 22) s m args below meth c H locs 0 0 Q (F0 m 83 ls [.int (t0)]) := by
    intro S t0 H locs ls hw hl hP hD hS
    unfold wq_M_fits_83 at hw
    obtain ⟨hnz, hw⟩ := hw
    exact kr (t0) S _ _ _ _ hnz hw hP hD hS d_M_fits_83
  have J65 : ∀ (S : StM) (t0 : Int32) (H : Heap) (locs : List Loc) (ls : Array Slot), wq_M_fits_65 post  S t0 → lv_has ls 3 [] → va_P g.1 classes (wM g S) H → va_D (AM g s.heap.size) (wM g S) → va_S (AM g s.heap.size) s.heap H locs → W p l e (rmM 1 22) s m args below meth c H locs 0 0 Q (F0 m 65 ls [.int (t0)]) := by
    intro S t0 H locs ls hw hl hP hD hS
    unfold wq_M_fits_65 at hw
    obtain ⟨hnz, hw⟩ := hw
    exact kr (t0) S _ _ _ _ hnz hw hP hD hS d_M_fits_65
  have J60 : ∀ (S : StM)  (H : Heap) (locs : List Loc) (ls : Array Slot), wq_M_fits_60 post  S  → lv_has ls 3 [] → va_P g.1 classes (wM g S) H → va_D (AM g s.heap.size) (wM g S) → va_S (AM g s.heap.size) s.heap H locs → W p l e (rmM 1 22) s m args below meth c H locs 0 0 Q (F0 m 60 ls []) := by
    intro S  H locs ls hw hl hP hD hS
    unfold wq_M_fits_60 at hw
    refine lv_iconst (v := 1) hx hb d_M_fits_60 (by decide) ?_
    refine lv_goto hx hb d_M_fits_61 (tgt := 65) (by decide) ?_
    exact J65 S (1) _ _ _ hw (lv_sub hl [] rfl) hP hD hS
  have J41 : ∀ (S : StM) (t0 : Int32) (H : Heap) (locs : List Loc) (ls : Array Slot), wq_M_fits_41 post  S t0 → lv_has ls 3 [] → va_P g.1 classes (wM g S) H → va_D (AM g s.heap.size) (wM g S) → va_S (AM g s.heap.size) s.heap H locs → W p l e (rmM 1 22) s m args below meth c H locs 0 0 Q (F0 m 41 ls [.int (t0)]) := by
    intro S t0 H locs ls hw hl hP hD hS
    unfold wq_M_fits_41 at hw
    obtain ⟨hnz, hw⟩ := hw
    exact kr (t0) S _ _ _ _ hnz hw hP hD hS d_M_fits_41
  have J22 : ∀ (S : StM) (x1 : Int32) (t0 : Int32) (H : Heap) (locs : List Loc) (ls : Array Slot), wq_M_fits_22 post  S x1 t0 → lv_has ls 3 [(0, .ref (g.2.2 0)), (1, .int (x1))] → va_P g.1 classes (wM g S) H → va_D (AM g s.heap.size) (wM g S) → va_S (AM g s.heap.size) s.heap H locs → W p l e (rmM 1 22) s m args below meth c H locs 0 0 Q (F0 m 22 ls [.int (t0)]) := by
    intro S x1 t0 H locs ls hw hl hP hD hS
    unfold wq_M_fits_22 at hw
    refine lv_istore_n (lv' := [(2, .int (t0)), (0, .ref (g.2.2 0)), (1, .int (x1))]) hx hb d_M_fits_22 rfl hl (by decide) rfl (fun ls hl => ?_)
    refine lv_iload_n hx hb d_M_fits_23 rfl (lv_at hl 2 rfl) ?_
    refine lv_bipush (v := 40) hx hb d_M_fits_24 (by decide) ?_
    refine lv_icmp_ne hx hb d_M_fits_26 (tgt := 42) (by decide) (fun hc => ?_) (fun hc => ?_)
    · have hw := hw.2 hc
      refine lv_iload_n hx hb d_M_fits_42 rfl (lv_at hl 2 rfl) ?_
      refine lv_bipush (v := 42) hx hb d_M_fits_43 (by decide) ?_
      refine lv_icmp_ne hx hb d_M_fits_45 (tgt := 66) (by decide) (fun hc => ?_) (fun hc => ?_)
      · have hw := hw.2 hc
        refine lv_iload_n hx hb d_M_fits_66 rfl (lv_at hl 2 rfl) ?_
        refine lv_bipush (v := 43) hx hb d_M_fits_67 (by decide) ?_
        refine lv_icmp_ne hx hb d_M_fits_69 (tgt := 84) (by decide) (fun hc => ?_) (fun hc => ?_)
        · have hw := hw.2 hc
          refine lv_iload_n hx hb d_M_fits_84 rfl (lv_at hl 2 rfl) ?_
          refine lv_bipush (v := 45) hx hb d_M_fits_85 (by decide) ?_
          refine lv_bipush (v := 47) hx hb d_M_fits_87 (by decide) ?_
          refine cM_iS (As := [.int (x1), .int (45), .int (47)]) (rest := []) hx hb hml hown hts hK hP hD hS hA (Nat.zero_le _) (Nat.zero_le _) hl.1 (q_M_in hts ⟨Nat.le_of_ble_eq_true rfl, Nat.le_of_ble_eq_true rfl⟩) (c_M_in l g H.size _ (x1) (45) (47) _ hw) rfl rfl (Nat.le_of_ble_eq_true rfl) d_M_fits_89 (fun r2 S1 H locs hw hP hD hS => ?_)
          refine lv_if_eq hx hb d_M_fits_92 (tgt := 107) (by decide) (fun hc => ?_) (fun hc => ?_)
          · have hw := hw.1 hc
            refine lv_iload_n hx hb d_M_fits_107 rfl (lv_at hl 2 rfl) ?_
            refine lv_bipush (v := 48) hx hb d_M_fits_108 (by decide) ?_
            refine lv_icmp_ne hx hb d_M_fits_110 (tgt := 127) (by decide) (fun hc => ?_) (fun hc => ?_)
            · have hw := hw.2 hc
              refine lv_iload_n hx hb d_M_fits_127 rfl (lv_at hl 2 rfl) ?_
              refine lv_bipush (v := 50) hx hb d_M_fits_128 (by decide) ?_
              refine lv_icmp_ne hx hb d_M_fits_130 (tgt := 139) (by decide) (fun hc => ?_) (fun hc => ?_)
              · have hw := hw.2 hc
                exact J139 S1  _ _ _ hw (lv_sub hl [] rfl) hP hD hS
              · have hw := hw.1 hc
                refine lv_iload_n hx hb d_M_fits_133 rfl (lv_at hl 0 rfl) ?_
                refine lv_bipush (v := 49) hx hb d_M_fits_134 (by decide) ?_
                refine lv_icmp_ne hx hb d_M_fits_136 (tgt := 143) (by decide) (fun hc => ?_) (fun hc => ?_)
                · have hw := hw.2 hc
                  refine lv_iconst (v := 0) hx hb d_M_fits_143 (by decide) ?_
                  exact J144 S1 (0) _ _ _ hw (lv_sub hl [] rfl) hP hD hS
                · have hw := hw.1 hc
                  exact J139 S1  _ _ _ hw (lv_sub hl [] rfl) hP hD hS
            · have hw := hw.1 hc
              refine lv_iload_n hx hb d_M_fits_113 rfl (lv_at hl 0 rfl) ?_
              refine lv_bipush (v := 47) hx hb d_M_fits_114 (by decide) ?_
              refine lv_icmp_ne hx hb d_M_fits_116 (tgt := 123) (by decide) (fun hc => ?_) (fun hc => ?_)
              · have hw := hw.2 hc
                refine lv_iconst (v := 0) hx hb d_M_fits_123 (by decide) ?_
                refine lv_goto hx hb d_M_fits_124 (tgt := 144) (by decide) ?_
                exact J144 S1 (0) _ _ _ hw (lv_sub hl [] rfl) hP hD hS
              · have hw := hw.1 hc
                refine lv_iconst (v := 1) hx hb d_M_fits_119 (by decide) ?_
                refine lv_goto hx hb d_M_fits_120 (tgt := 144) (by decide) ?_
                exact J144 S1 (1) _ _ _ hw (lv_sub hl [] rfl) hP hD hS
          · have hw := hw.2 hc
            refine lv_iload_n hx hb d_M_fits_95 rfl (lv_at hl 0 rfl) ?_
            refine lv_bipush (v := 44) hx hb d_M_fits_96 (by decide) ?_
            refine lv_icmp_ne hx hb d_M_fits_98 (tgt := 105) (by decide) (fun hc => ?_) (fun hc => ?_)
            · have hw := hw.2 hc
              refine lv_iconst (v := 0) hx hb d_M_fits_105 (by decide) ?_
              exact J106 S1 (0) _ _ _ hw (lv_sub hl [] rfl) hP hD hS
            · have hw := hw.1 hc
              refine lv_iconst (v := 1) hx hb d_M_fits_101 (by decide) ?_
              refine lv_goto hx hb d_M_fits_102 (tgt := 106) (by decide) ?_
              exact J106 S1 (1) _ _ _ hw (lv_sub hl [] rfl) hP hD hS
        · have hw := hw.1 hc
          refine lv_iload_n hx hb d_M_fits_72 rfl (lv_at hl 0 rfl) ?_
          refine lv_bipush (v := 41) hx hb d_M_fits_73 (by decide) ?_
          refine lv_icmp_ne hx hb d_M_fits_75 (tgt := 82) (by decide) (fun hc => ?_) (fun hc => ?_)
          · have hw := hw.2 hc
            refine lv_iconst (v := 0) hx hb d_M_fits_82 (by decide) ?_
            exact J83 S (0) _ _ _ hw (lv_sub hl [] rfl) hP hD hS
          · have hw := hw.1 hc
            refine lv_iconst (v := 1) hx hb d_M_fits_78 (by decide) ?_
            refine lv_goto hx hb d_M_fits_79 (tgt := 83) (by decide) ?_
            exact J83 S (1) _ _ _ hw (lv_sub hl [] rfl) hP hD hS
      · have hw := hw.1 hc
        refine lv_iload_n hx hb d_M_fits_48 rfl (lv_at hl 0 rfl) ?_
        refine lv_bipush (v := 41) hx hb d_M_fits_49 (by decide) ?_
        refine lv_icmp_eq hx hb d_M_fits_51 (tgt := 60) (by decide) (fun hc => ?_) (fun hc => ?_)
        · have hw := hw.1 hc
          exact J60 S  _ _ _ hw (lv_sub hl [] rfl) hP hD hS
        · have hw := hw.2 hc
          refine lv_iload_n hx hb d_M_fits_54 rfl (lv_at hl 0 rfl) ?_
          refine lv_bipush (v := 43) hx hb d_M_fits_55 (by decide) ?_
          refine lv_icmp_ne hx hb d_M_fits_57 (tgt := 64) (by decide) (fun hc => ?_) (fun hc => ?_)
          · have hw := hw.2 hc
            refine lv_iconst (v := 0) hx hb d_M_fits_64 (by decide) ?_
            exact J65 S (0) _ _ _ hw (lv_sub hl [] rfl) hP hD hS
          · have hw := hw.1 hc
            exact J60 S  _ _ _ hw (lv_sub hl [] rfl) hP hD hS
    · have hw := hw.1 hc
      refine lv_aload_n hx hb d_M_fits_29 rfl (lv_at hl 1 rfl) ?_
      refine gt_M (v := .int ((S.1 22))) hx hb hown hts hK hP 22 (by decide) rfl k_M_128 d_M_fits_30 ?_
      refine lv_if_ne hx hb d_M_fits_33 (tgt := 40) (by decide) (fun hc => ?_) (fun hc => ?_)
      · have hw := hw.2 hc
        refine lv_iconst (v := 0) hx hb d_M_fits_40 (by decide) ?_
        exact J41 S (0) _ _ _ hw (lv_sub hl [] rfl) hP hD hS
      · have hw := hw.1 hc
        refine lv_iconst (v := 1) hx hb d_M_fits_36 (by decide) ?_
        refine lv_goto hx hb d_M_fits_37 (tgt := 41) (by decide) ?_
        exact J41 S (1) _ _ _ hw (lv_sub hl [] rfl) hP hD hS
  refine lv_aload_n hx hb d_M_fits_0 rfl (lv_at hl 0 rfl) ?_
  refine gt_M (v := .int ((S.1 22))) hx hb hown hts hK hP 22 (by decide) rfl k_M_128 d_M_fits_1 ?_
  refine lv_if_le hx hb d_M_fits_4 (tgt := 21) (by decide) (fun hc => ?_) (fun hc => ?_)
  · have hw := hw.1 hc
    refine lv_iconst (v := 0) hx hb d_M_fits_21 (by decide) ?_
    exact J22 S (a0) (0) _ _ _ hw (lv_sub hl [0, 1] rfl) hP hD hS
  · have hw := hw.2 hc
    refine lv_aload_n hx hb d_M_fits_7 rfl (lv_at hl 0 rfl) ?_
    refine gt_M (v := .ref (g.2.2 24)) hx hb hown hts hK hP 23 (by decide) rfl k_M_129 d_M_fits_8 ?_
    refine lv_aload_n hx hb d_M_fits_11 rfl (lv_at hl 0 rfl) ?_
    refine gt_M (v := .int ((S.1 22))) hx hb hown hts hK hP 22 (by decide) rfl k_M_128 d_M_fits_12 ?_
    refine lv_iconst (v := 1) hx hb d_M_fits_15 (by decide) ?_
    refine lv_isub hx hb d_M_fits_16 ?_
    obtain ⟨hi, hw⟩ := hw
    refine va_iald (f := (S.2.1 23)) hx hb hK hP 11 0 rfl rfl hi d_M_fits_17 ?_
    refine lv_goto hx hb d_M_fits_18 (tgt := 22) (by decide) ?_
    exact J22 S (a0) (((S.2.1 23) (Int32.toNatClampNeg (((S.1 22) - 1))))) _ _ _ hw (lv_sub hl [0, 1] rfl) hP hD hS
theorem d_M_after_0 : decode b_M_after 0 = .ok (.iload_n 1, 1) := by decide +kernel
theorem d_M_after_1 : decode b_M_after 1 = .ok (.bipush 42, 2) := by decide +kernel
theorem d_M_after_3 : decode b_M_after 3 = .ok (.if_icmp .eq 15, 3) := by decide +kernel
theorem d_M_after_6 : decode b_M_after 6 = .ok (.iload_n 1, 1) := by decide +kernel
theorem d_M_after_7 : decode b_M_after 7 = .ok (.bipush 43, 2) := by decide +kernel
theorem d_M_after_9 : decode b_M_after 9 = .ok (.if_icmp .eq 9, 3) := by decide +kernel
theorem d_M_after_12 : decode b_M_after 12 = .ok (.iload_n 1, 1) := by decide +kernel
theorem d_M_after_13 : decode b_M_after 13 = .ok (.bipush 48, 2) := by decide +kernel
theorem d_M_after_15 : decode b_M_after 15 = .ok (.if_icmp .ne 7, 3) := by decide +kernel
theorem d_M_after_18 : decode b_M_after 18 = .ok (.aload_n 0, 1) := by decide +kernel
theorem d_M_after_19 : decode b_M_after 19 = .ok (.invokevirtual 289, 3) := by decide +kernel
theorem d_M_after_22 : decode b_M_after 22 = .ok (.iload_n 1, 1) := by decide +kernel
theorem d_M_after_23 : decode b_M_after 23 = .ok (.bipush 45, 2) := by decide +kernel
theorem d_M_after_25 : decode b_M_after 25 = .ok (.if_icmp .eq 21, 3) := by decide +kernel
theorem d_M_after_28 : decode b_M_after 28 = .ok (.iload_n 1, 1) := by decide +kernel
theorem d_M_after_29 : decode b_M_after 29 = .ok (.bipush 46, 2) := by decide +kernel
theorem d_M_after_31 : decode b_M_after 31 = .ok (.if_icmp .eq 15, 3) := by decide +kernel
theorem d_M_after_34 : decode b_M_after 34 = .ok (.iload_n 1, 1) := by decide +kernel
theorem d_M_after_35 : decode b_M_after 35 = .ok (.bipush 48, 2) := by decide +kernel
theorem d_M_after_37 : decode b_M_after 37 = .ok (.if_icmp .eq 9, 3) := by decide +kernel
theorem d_M_after_40 : decode b_M_after 40 = .ok (.iload_n 1, 1) := by decide +kernel
theorem d_M_after_41 : decode b_M_after 41 = .ok (.bipush 50, 2) := by decide +kernel
theorem d_M_after_43 : decode b_M_after 43 = .ok (.if_icmp .ne 13, 3) := by decide +kernel
theorem d_M_after_46 : decode b_M_after 46 = .ok (.aload_n 0, 1) := by decide +kernel
theorem d_M_after_47 : decode b_M_after 47 = .ok (.aload_n 0, 1) := by decide +kernel
theorem d_M_after_48 : decode b_M_after 48 = .ok (.getfield 276, 3) := by decide +kernel
theorem d_M_after_51 : decode b_M_after 51 = .ok (.iconst 1, 1) := by decide +kernel
theorem d_M_after_52 : decode b_M_after 52 = .ok (.isub, 1) := by decide +kernel
theorem d_M_after_53 : decode b_M_after 53 = .ok (.putfield 276, 3) := by decide +kernel
theorem d_M_after_56 : decode b_M_after 56 = .ok (.iload_n 1, 1) := by decide +kernel
theorem d_M_after_57 : decode b_M_after 57 = .ok (.bipush 41, 2) := by decide +kernel
theorem d_M_after_59 : decode b_M_after 59 = .ok (.if_icmp .eq 27, 3) := by decide +kernel
theorem d_M_after_62 : decode b_M_after 62 = .ok (.iload_n 1, 1) := by decide +kernel
theorem d_M_after_63 : decode b_M_after 63 = .ok (.bipush 43, 2) := by decide +kernel
theorem d_M_after_65 : decode b_M_after 65 = .ok (.if_icmp .eq 21, 3) := by decide +kernel
theorem d_M_after_68 : decode b_M_after 68 = .ok (.iload_n 1, 1) := by decide +kernel
theorem d_M_after_69 : decode b_M_after 69 = .ok (.bipush 44, 2) := by decide +kernel
theorem d_M_after_71 : decode b_M_after 71 = .ok (.if_icmp .eq 15, 3) := by decide +kernel
theorem d_M_after_74 : decode b_M_after 74 = .ok (.iload_n 1, 1) := by decide +kernel
theorem d_M_after_75 : decode b_M_after 75 = .ok (.bipush 47, 2) := by decide +kernel
theorem d_M_after_77 : decode b_M_after 77 = .ok (.if_icmp .eq 9, 3) := by decide +kernel
theorem d_M_after_80 : decode b_M_after 80 = .ok (.iload_n 1, 1) := by decide +kernel
theorem d_M_after_81 : decode b_M_after 81 = .ok (.bipush 49, 2) := by decide +kernel
theorem d_M_after_83 : decode b_M_after 83 = .ok (.if_icmp .ne 21, 3) := by decide +kernel
theorem d_M_after_86 : decode b_M_after 86 = .ok (.aload_n 0, 1) := by decide +kernel
theorem d_M_after_87 : decode b_M_after 87 = .ok (.iload_n 1, 1) := by decide +kernel
theorem d_M_after_88 : decode b_M_after 88 = .ok (.iload_n 1, 1) := by decide +kernel
theorem d_M_after_89 : decode b_M_after 89 = .ok (.bipush 49, 2) := by decide +kernel
theorem d_M_after_91 : decode b_M_after 91 = .ok (.if_icmp .ne 9, 3) := by decide +kernel
theorem d_M_after_94 : decode b_M_after 94 = .ok (.iload_n 2, 1) := by decide +kernel
theorem d_M_after_95 : decode b_M_after 95 = .ok (.iconst 1, 1) := by decide +kernel
theorem d_M_after_96 : decode b_M_after 96 = .ok (.iadd, 1) := by decide +kernel
theorem d_M_after_97 : decode b_M_after 97 = .ok (.goto 4, 3) := by decide +kernel
theorem d_M_after_100 : decode b_M_after 100 = .ok (.iload_n 2, 1) := by decide +kernel
theorem d_M_after_101 : decode b_M_after 101 = .ok (.invokevirtual 292, 3) := by decide +kernel
theorem d_M_after_104 : decode b_M_after 104 = .ok (.return_, 1) := by decide +kernel
def wq_M_after_104 (post : StM → Prop)  (S : StM)  : Prop :=
  post S
def wq_M_after_101 (post : StM → Prop)  (S : StM) (t0 : Int32) (t1 : Int32) : Prop :=
  wp_M_openOne (fun S1 : StM => (wq_M_after_104 post  S1 )) S (t1) (t0)
def wq_M_after_86 (post : StM → Prop)  (S : StM) (x1 : Int32) (x2 : Int32) : Prop :=
  ((x1 = 49) → wq_M_after_101 post  S ((x2 + 1)) (x1)) ∧ (¬ (x1 = 49) → wq_M_after_101 post  S (x2) (x1))
def wq_M_after_56 (post : StM → Prop)  (S : StM) (x1 : Int32) (x2 : Int32) : Prop :=
  ((x1 = 41) → wq_M_after_86 post  S (x1) (x2)) ∧ (¬ (x1 = 41) → ((x1 = 43) → wq_M_after_86 post  S (x1) (x2)) ∧ (¬ (x1 = 43) → ((x1 = 44) → wq_M_after_86 post  S (x1) (x2)) ∧ (¬ (x1 = 44) → ((x1 = 47) → wq_M_after_86 post  S (x1) (x2)) ∧ (¬ (x1 = 47) → ((x1 = 49) → wq_M_after_86 post  S (x1) (x2)) ∧ (¬ (x1 = 49) → wq_M_after_104 post  S )))))
def wq_M_after_46 (post : StM → Prop)  (S : StM) (x1 : Int32) (x2 : Int32) : Prop :=
  wq_M_after_56 post  ((upd S.1 22 (((S.1 22) - 1))), S.2) (x1) (x2)
def wq_M_after_22 (post : StM → Prop)  (S : StM) (x1 : Int32) (x2 : Int32) : Prop :=
  ((x1 = 45) → wq_M_after_46 post  S (x1) (x2)) ∧ (¬ (x1 = 45) → ((x1 = 46) → wq_M_after_46 post  S (x1) (x2)) ∧ (¬ (x1 = 46) → ((x1 = 48) → wq_M_after_46 post  S (x1) (x2)) ∧ (¬ (x1 = 48) → ((x1 = 50) → wq_M_after_46 post  S (x1) (x2)) ∧ (¬ (x1 = 50) → wq_M_after_56 post  S (x1) (x2)))))
def wq_M_after_18 (post : StM → Prop)  (S : StM) (x1 : Int32) (x2 : Int32) : Prop :=
  wp_M_settle (fun S2 : StM => (wq_M_after_22 post  S2 (x1) (x2))) S 
def wp_M_after (post : StM → Prop) (S : StM) (a0 : Int32) (a1 : Int32) : Prop :=
  ((a0 = 42) → wq_M_after_18 post  S (a0) (a1)) ∧ (¬ (a0 = 42) → ((a0 = 43) → wq_M_after_18 post  S (a0) (a1)) ∧ (¬ (a0 = 43) → ((a0 = 48) → wq_M_after_18 post  S (a0) (a1)) ∧ (¬ (a0 = 48) → wq_M_after_22 post  S (a0) (a1))))
set_option maxRecDepth 100000 in
set_option maxHeartbeats 4000000 in
theorem c_M_after (l : Launch) (g : Gm) (sz : Nat) (S : StM) (a0 : Int32) (a1 : Int32) (post : StM → Prop) (hw : wp_M_after post S a0 a1) : Met l y_M_after (.code y_M_after b_M_after 3 none :: w_M) (rmM 1 22) (va_Pc [.ref (g.2.2 0), .int (a0), .int (a1)] (PM g sz S)) (va_Qv post (BM g sz) (AM g sz)) 0 0 (AM g sz) := by
  refine ofM_v (by decide) (Nat.le_of_ble_eq_true rfl) (fun p e s m args below meth c Q H locs ls hx hb hml hts hown hK hA kr hl hP hD hS => ?_)
  have hl : lv_has ls 3 [(0, .ref (g.2.2 0)), (1, .int (a0)), (2, .int (a1))] := hl
  unfold wp_M_after at hw
  have J104 : ∀ (S : StM)  (H : Heap) (locs : List Loc) (ls : Array Slot), wq_M_after_104 post  S  → lv_has ls 3 [] → va_P g.1 classes (wM g S) H → va_D (AM g s.heap.size) (wM g S) → va_S (AM g s.heap.size) s.heap H locs → W p l e (rmM 1 22) s m args below meth c H locs 0 0 Q (F0 m 104 ls []) := by
    intro S  H locs ls hw hl hP hD hS
    unfold wq_M_after_104 at hw
    exact kr S _ _ _ _ hw hP hD hS d_M_after_104
  have J101 : ∀ (S : StM) (t0 : Int32) (t1 : Int32) (H : Heap) (locs : List Loc) (ls : Array Slot), wq_M_after_101 post  S t0 t1 → lv_has ls 3 [] → va_P g.1 classes (wM g S) H → va_D (AM g s.heap.size) (wM g S) → va_S (AM g s.heap.size) s.heap H locs → W p l e (rmM 1 22) s m args below meth c H locs 0 0 Q (F0 m 101 ls [.int (t0), .int (t1), .ref (g.2.2 0)]) := by
    intro S t0 t1 H locs ls hw hl hP hD hS
    unfold wq_M_after_101 at hw
    refine cM_v (As := [.int (t1), .int (t0)]) (rest := []) hx hb hml hown hts hK hP hD hS hA (Nat.zero_le _) (Nat.zero_le _) hl.1 (q_M_openOne hts ⟨Nat.le_of_ble_eq_true rfl, Nat.le_of_ble_eq_true rfl⟩) (c_M_openOne l g H.size _ (t1) (t0) _ hw) rfl rfl (Nat.le_of_ble_eq_true rfl) d_M_after_101 (fun S1 H locs hw hP hD hS => ?_)
    exact J104 S1  _ _ _ hw (lv_sub hl [] rfl) hP hD hS
  have J86 : ∀ (S : StM) (x1 : Int32) (x2 : Int32) (H : Heap) (locs : List Loc) (ls : Array Slot), wq_M_after_86 post  S x1 x2 → lv_has ls 3 [(0, .ref (g.2.2 0)), (1, .int (x1)), (2, .int (x2))] → va_P g.1 classes (wM g S) H → va_D (AM g s.heap.size) (wM g S) → va_S (AM g s.heap.size) s.heap H locs → W p l e (rmM 1 22) s m args below meth c H locs 0 0 Q (F0 m 86 ls []) := by
    intro S x1 x2 H locs ls hw hl hP hD hS
    unfold wq_M_after_86 at hw
    refine lv_aload_n hx hb d_M_after_86 rfl (lv_at hl 0 rfl) ?_
    refine lv_iload_n hx hb d_M_after_87 rfl (lv_at hl 1 rfl) ?_
    refine lv_iload_n hx hb d_M_after_88 rfl (lv_at hl 1 rfl) ?_
    refine lv_bipush (v := 49) hx hb d_M_after_89 (by decide) ?_
    refine lv_icmp_ne hx hb d_M_after_91 (tgt := 100) (by decide) (fun hc => ?_) (fun hc => ?_)
    · have hw := hw.2 hc
      refine lv_iload_n hx hb d_M_after_100 rfl (lv_at hl 2 rfl) ?_
      exact J101 S (x2) (x1) _ _ _ hw (lv_sub hl [] rfl) hP hD hS
    · have hw := hw.1 hc
      refine lv_iload_n hx hb d_M_after_94 rfl (lv_at hl 2 rfl) ?_
      refine lv_iconst (v := 1) hx hb d_M_after_95 (by decide) ?_
      refine lv_iadd hx hb d_M_after_96 ?_
      refine lv_goto hx hb d_M_after_97 (tgt := 101) (by decide) ?_
      exact J101 S ((x2 + 1)) (x1) _ _ _ hw (lv_sub hl [] rfl) hP hD hS
  have J56 : ∀ (S : StM) (x1 : Int32) (x2 : Int32) (H : Heap) (locs : List Loc) (ls : Array Slot), wq_M_after_56 post  S x1 x2 → lv_has ls 3 [(0, .ref (g.2.2 0)), (1, .int (x1)), (2, .int (x2))] → va_P g.1 classes (wM g S) H → va_D (AM g s.heap.size) (wM g S) → va_S (AM g s.heap.size) s.heap H locs → W p l e (rmM 1 22) s m args below meth c H locs 0 0 Q (F0 m 56 ls []) := by
    intro S x1 x2 H locs ls hw hl hP hD hS
    unfold wq_M_after_56 at hw
    refine lv_iload_n hx hb d_M_after_56 rfl (lv_at hl 1 rfl) ?_
    refine lv_bipush (v := 41) hx hb d_M_after_57 (by decide) ?_
    refine lv_icmp_eq hx hb d_M_after_59 (tgt := 86) (by decide) (fun hc => ?_) (fun hc => ?_)
    · have hw := hw.1 hc
      exact J86 S (x1) (x2) _ _ _ hw (lv_sub hl [0, 1, 2] rfl) hP hD hS
    · have hw := hw.2 hc
      refine lv_iload_n hx hb d_M_after_62 rfl (lv_at hl 1 rfl) ?_
      refine lv_bipush (v := 43) hx hb d_M_after_63 (by decide) ?_
      refine lv_icmp_eq hx hb d_M_after_65 (tgt := 86) (by decide) (fun hc => ?_) (fun hc => ?_)
      · have hw := hw.1 hc
        exact J86 S (x1) (x2) _ _ _ hw (lv_sub hl [0, 1, 2] rfl) hP hD hS
      · have hw := hw.2 hc
        refine lv_iload_n hx hb d_M_after_68 rfl (lv_at hl 1 rfl) ?_
        refine lv_bipush (v := 44) hx hb d_M_after_69 (by decide) ?_
        refine lv_icmp_eq hx hb d_M_after_71 (tgt := 86) (by decide) (fun hc => ?_) (fun hc => ?_)
        · have hw := hw.1 hc
          exact J86 S (x1) (x2) _ _ _ hw (lv_sub hl [0, 1, 2] rfl) hP hD hS
        · have hw := hw.2 hc
          refine lv_iload_n hx hb d_M_after_74 rfl (lv_at hl 1 rfl) ?_
          refine lv_bipush (v := 47) hx hb d_M_after_75 (by decide) ?_
          refine lv_icmp_eq hx hb d_M_after_77 (tgt := 86) (by decide) (fun hc => ?_) (fun hc => ?_)
          · have hw := hw.1 hc
            exact J86 S (x1) (x2) _ _ _ hw (lv_sub hl [0, 1, 2] rfl) hP hD hS
          · have hw := hw.2 hc
            refine lv_iload_n hx hb d_M_after_80 rfl (lv_at hl 1 rfl) ?_
            refine lv_bipush (v := 49) hx hb d_M_after_81 (by decide) ?_
            refine lv_icmp_ne hx hb d_M_after_83 (tgt := 104) (by decide) (fun hc => ?_) (fun hc => ?_)
            · have hw := hw.2 hc
              exact J104 S  _ _ _ hw (lv_sub hl [] rfl) hP hD hS
            · have hw := hw.1 hc
              exact J86 S (x1) (x2) _ _ _ hw (lv_sub hl [0, 1, 2] rfl) hP hD hS
  have J46 : ∀ (S : StM) (x1 : Int32) (x2 : Int32) (H : Heap) (locs : List Loc) (ls : Array Slot), wq_M_after_46 post  S x1 x2 → lv_has ls 3 [(0, .ref (g.2.2 0)), (1, .int (x1)), (2, .int (x2))] → va_P g.1 classes (wM g S) H → va_D (AM g s.heap.size) (wM g S) → va_S (AM g s.heap.size) s.heap H locs → W p l e (rmM 1 22) s m args below meth c H locs 0 0 Q (F0 m 46 ls []) := by
    intro S x1 x2 H locs ls hw hl hP hD hS
    unfold wq_M_after_46 at hw
    refine lv_aload_n hx hb d_M_after_46 rfl (lv_at hl 0 rfl) ?_
    refine lv_aload_n hx hb d_M_after_47 rfl (lv_at hl 0 rfl) ?_
    refine gt_M (v := .int ((S.1 22))) hx hb hown hts hK hP 22 (by decide) rfl k_M_128 d_M_after_48 ?_
    refine lv_iconst (v := 1) hx hb d_M_after_51 (by decide) ?_
    refine lv_isub hx hb d_M_after_52 ?_
    refine pt_M (S2 := ((upd S.1 22 (((S.1 22) - 1))), S.2)) (v := .int (((S.1 22) - 1))) hx hb hown hts hK hP hD hS 22 (by decide) rfl rfl rfl (sI_M_22 g _ _) k_M_128 d_M_after_53 (fun H locs hP hD hS => ?_)
    exact J56 ((upd S.1 22 (((S.1 22) - 1))), S.2) (x1) (x2) _ _ _ hw (lv_sub hl [0, 1, 2] rfl) hP hD hS
  have J22 : ∀ (S : StM) (x1 : Int32) (x2 : Int32) (H : Heap) (locs : List Loc) (ls : Array Slot), wq_M_after_22 post  S x1 x2 → lv_has ls 3 [(0, .ref (g.2.2 0)), (1, .int (x1)), (2, .int (x2))] → va_P g.1 classes (wM g S) H → va_D (AM g s.heap.size) (wM g S) → va_S (AM g s.heap.size) s.heap H locs → W p l e (rmM 1 22) s m args below meth c H locs 0 0 Q (F0 m 22 ls []) := by
    intro S x1 x2 H locs ls hw hl hP hD hS
    unfold wq_M_after_22 at hw
    refine lv_iload_n hx hb d_M_after_22 rfl (lv_at hl 1 rfl) ?_
    refine lv_bipush (v := 45) hx hb d_M_after_23 (by decide) ?_
    refine lv_icmp_eq hx hb d_M_after_25 (tgt := 46) (by decide) (fun hc => ?_) (fun hc => ?_)
    · have hw := hw.1 hc
      exact J46 S (x1) (x2) _ _ _ hw (lv_sub hl [0, 1, 2] rfl) hP hD hS
    · have hw := hw.2 hc
      refine lv_iload_n hx hb d_M_after_28 rfl (lv_at hl 1 rfl) ?_
      refine lv_bipush (v := 46) hx hb d_M_after_29 (by decide) ?_
      refine lv_icmp_eq hx hb d_M_after_31 (tgt := 46) (by decide) (fun hc => ?_) (fun hc => ?_)
      · have hw := hw.1 hc
        exact J46 S (x1) (x2) _ _ _ hw (lv_sub hl [0, 1, 2] rfl) hP hD hS
      · have hw := hw.2 hc
        refine lv_iload_n hx hb d_M_after_34 rfl (lv_at hl 1 rfl) ?_
        refine lv_bipush (v := 48) hx hb d_M_after_35 (by decide) ?_
        refine lv_icmp_eq hx hb d_M_after_37 (tgt := 46) (by decide) (fun hc => ?_) (fun hc => ?_)
        · have hw := hw.1 hc
          exact J46 S (x1) (x2) _ _ _ hw (lv_sub hl [0, 1, 2] rfl) hP hD hS
        · have hw := hw.2 hc
          refine lv_iload_n hx hb d_M_after_40 rfl (lv_at hl 1 rfl) ?_
          refine lv_bipush (v := 50) hx hb d_M_after_41 (by decide) ?_
          refine lv_icmp_ne hx hb d_M_after_43 (tgt := 56) (by decide) (fun hc => ?_) (fun hc => ?_)
          · have hw := hw.2 hc
            exact J56 S (x1) (x2) _ _ _ hw (lv_sub hl [0, 1, 2] rfl) hP hD hS
          · have hw := hw.1 hc
            exact J46 S (x1) (x2) _ _ _ hw (lv_sub hl [0, 1, 2] rfl) hP hD hS
  have J18 : ∀ (S : StM) (x1 : Int32) (x2 : Int32) (H : Heap) (locs : List Loc) (ls : Array Slot), wq_M_after_18 post  S x1 x2 → lv_has ls 3 [(0, .ref (g.2.2 0)), (1, .int (x1)), (2, .int (x2))] → va_P g.1 classes (wM g S) H → va_D (AM g s.heap.size) (wM g S) → va_S (AM g s.heap.size) s.heap H locs → W p l e (rmM 1 22) s m args below meth c H locs 0 0 Q (F0 m 18 ls []) := by
    intro S x1 x2 H locs ls hw hl hP hD hS
    unfold wq_M_after_18 at hw
    refine lv_aload_n hx hb d_M_after_18 rfl (lv_at hl 0 rfl) ?_
    refine cM_v (As := []) (rest := []) hx hb hml hown hts hK hP hD hS hA (Nat.zero_le _) (Nat.zero_le _) hl.1 (q_M_settle hts ⟨Nat.le_of_ble_eq_true rfl, Nat.le_of_ble_eq_true rfl⟩) (c_M_settle l g H.size _  _ hw) rfl rfl (Nat.le_of_ble_eq_true rfl) d_M_after_19 (fun S2 H locs hw hP hD hS => ?_)
    exact J22 S2 (x1) (x2) _ _ _ hw (lv_sub hl [0, 1, 2] rfl) hP hD hS
  refine lv_iload_n hx hb d_M_after_0 rfl (lv_at hl 1 rfl) ?_
  refine lv_bipush (v := 42) hx hb d_M_after_1 (by decide) ?_
  refine lv_icmp_eq hx hb d_M_after_3 (tgt := 18) (by decide) (fun hc => ?_) (fun hc => ?_)
  · have hw := hw.1 hc
    exact J18 S (a0) (a1) _ _ _ hw (lv_sub hl [0, 1, 2] rfl) hP hD hS
  · have hw := hw.2 hc
    refine lv_iload_n hx hb d_M_after_6 rfl (lv_at hl 1 rfl) ?_
    refine lv_bipush (v := 43) hx hb d_M_after_7 (by decide) ?_
    refine lv_icmp_eq hx hb d_M_after_9 (tgt := 18) (by decide) (fun hc => ?_) (fun hc => ?_)
    · have hw := hw.1 hc
      exact J18 S (a0) (a1) _ _ _ hw (lv_sub hl [0, 1, 2] rfl) hP hD hS
    · have hw := hw.2 hc
      refine lv_iload_n hx hb d_M_after_12 rfl (lv_at hl 1 rfl) ?_
      refine lv_bipush (v := 48) hx hb d_M_after_13 (by decide) ?_
      refine lv_icmp_ne hx hb d_M_after_15 (tgt := 22) (by decide) (fun hc => ?_) (fun hc => ?_)
      · have hw := hw.2 hc
        exact J22 S (a0) (a1) _ _ _ hw (lv_sub hl [0, 1, 2] rfl) hP hD hS
      · have hw := hw.1 hc
        exact J18 S (a0) (a1) _ _ _ hw (lv_sub hl [0, 1, 2] rfl) hP hD hS
theorem d_M_control_0 : decode b_M_control 0 = .ok (.aload_n 0, 1) := by decide +kernel
theorem d_M_control_1 : decode b_M_control 1 = .ok (.getfield 33, 3) := by decide +kernel
theorem d_M_control_4 : decode b_M_control 4 = .ok (.aload_n 0, 1) := by decide +kernel
theorem d_M_control_5 : decode b_M_control 5 = .ok (.getfield 227, 3) := by decide +kernel
theorem d_M_control_8 : decode b_M_control 8 = .ok (.iaload, 1) := by decide +kernel
theorem d_M_control_9 : decode b_M_control 9 = .ok (.istore_n 2, 1) := by decide +kernel
theorem d_M_control_10 : decode b_M_control 10 = .ok (.iload_n 1, 1) := by decide +kernel
theorem d_M_control_11 : decode b_M_control 11 = .ok (.bipush 41, 2) := by decide +kernel
theorem d_M_control_13 : decode b_M_control 13 = .ok (.if_icmp .eq 21, 3) := by decide +kernel
theorem d_M_control_16 : decode b_M_control 16 = .ok (.iload_n 1, 1) := by decide +kernel
theorem d_M_control_17 : decode b_M_control 17 = .ok (.bipush 44, 2) := by decide +kernel
theorem d_M_control_19 : decode b_M_control 19 = .ok (.if_icmp .eq 15, 3) := by decide +kernel
theorem d_M_control_22 : decode b_M_control 22 = .ok (.iload_n 1, 1) := by decide +kernel
theorem d_M_control_23 : decode b_M_control 23 = .ok (.bipush 47, 2) := by decide +kernel
theorem d_M_control_25 : decode b_M_control 25 = .ok (.if_icmp .eq 9, 3) := by decide +kernel
theorem d_M_control_28 : decode b_M_control 28 = .ok (.iload_n 1, 1) := by decide +kernel
theorem d_M_control_29 : decode b_M_control 29 = .ok (.bipush 49, 2) := by decide +kernel
theorem d_M_control_31 : decode b_M_control 31 = .ok (.if_icmp .ne 7, 3) := by decide +kernel
theorem d_M_control_34 : decode b_M_control 34 = .ok (.iconst 1, 1) := by decide +kernel
theorem d_M_control_35 : decode b_M_control 35 = .ok (.goto 4, 3) := by decide +kernel
theorem d_M_control_38 : decode b_M_control 38 = .ok (.iconst 0, 1) := by decide +kernel
theorem d_M_control_39 : decode b_M_control 39 = .ok (.istore_n 3, 1) := by decide +kernel
theorem d_M_control_40 : decode b_M_control 40 = .ok (.aload_n 0, 1) := by decide +kernel
theorem d_M_control_41 : decode b_M_control 41 = .ok (.getfield 260, 3) := by decide +kernel
theorem d_M_control_44 : decode b_M_control 44 = .ok (.ifCond .eq 11, 3) := by decide +kernel
theorem d_M_control_47 : decode b_M_control 47 = .ok (.aload_n 0, 1) := by decide +kernel
theorem d_M_control_48 : decode b_M_control 48 = .ok (.iload_n 1, 1) := by decide +kernel
theorem d_M_control_49 : decode b_M_control 49 = .ok (.invokevirtual 283, 3) := by decide +kernel
theorem d_M_control_52 : decode b_M_control 52 = .ok (.ifCond .ne 12, 3) := by decide +kernel
theorem d_M_control_55 : decode b_M_control 55 = .ok (.aload_n 0, 1) := by decide +kernel
theorem d_M_control_56 : decode b_M_control 56 = .ok (.bipush 6, 2) := by decide +kernel
theorem d_M_control_58 : decode b_M_control 58 = .ok (.invokevirtual 196, 3) := by decide +kernel
theorem d_M_control_61 : decode b_M_control 61 = .ok (.goto 203, 3) := by decide +kernel
theorem d_M_control_64 : decode b_M_control 64 = .ok (.iload_n 1, 1) := by decide +kernel
theorem d_M_control_65 : decode b_M_control 65 = .ok (.bipush 40, 2) := by decide +kernel
theorem d_M_control_67 : decode b_M_control 67 = .ok (.if_icmp .ne 21, 3) := by decide +kernel
theorem d_M_control_70 : decode b_M_control 70 = .ok (.aload_n 0, 1) := by decide +kernel
theorem d_M_control_71 : decode b_M_control 71 = .ok (.aload_n 0, 1) := by decide +kernel
theorem d_M_control_72 : decode b_M_control 72 = .ok (.getfield 227, 3) := by decide +kernel
theorem d_M_control_75 : decode b_M_control 75 = .ok (.iconst 1, 1) := by decide +kernel
theorem d_M_control_76 : decode b_M_control 76 = .ok (.iadd, 1) := by decide +kernel
theorem d_M_control_77 : decode b_M_control 77 = .ok (.putfield 227, 3) := by decide +kernel
theorem d_M_control_80 : decode b_M_control 80 = .ok (.aload_n 0, 1) := by decide +kernel
theorem d_M_control_81 : decode b_M_control 81 = .ok (.iconst 0, 1) := by decide +kernel
theorem d_M_control_82 : decode b_M_control 82 = .ok (.putfield 260, 3) := by decide +kernel
theorem d_M_control_85 : decode b_M_control 85 = .ok (.goto 179, 3) := by decide +kernel
theorem d_M_control_88 : decode b_M_control 88 = .ok (.iload_n 3, 1) := by decide +kernel
theorem d_M_control_89 : decode b_M_control 89 = .ok (.ifCond .eq 20, 3) := by decide +kernel
theorem d_M_control_92 : decode b_M_control 92 = .ok (.aload_n 0, 1) := by decide +kernel
theorem d_M_control_93 : decode b_M_control 93 = .ok (.getfield 276, 3) := by decide +kernel
theorem d_M_control_96 : decode b_M_control 96 = .ok (.bipush 8, 2) := by decide +kernel
theorem d_M_control_98 : decode b_M_control 98 = .ok (.if_icmp .lt 11, 3) := by decide +kernel
theorem d_M_control_101 : decode b_M_control 101 = .ok (.aload_n 0, 1) := by decide +kernel
theorem d_M_control_102 : decode b_M_control 102 = .ok (.iconst 3, 1) := by decide +kernel
theorem d_M_control_103 : decode b_M_control 103 = .ok (.invokevirtual 196, 3) := by decide +kernel
theorem d_M_control_106 : decode b_M_control 106 = .ok (.goto 158, 3) := by decide +kernel
theorem d_M_control_109 : decode b_M_control 109 = .ok (.iload_n 1, 1) := by decide +kernel
theorem d_M_control_110 : decode b_M_control 110 = .ok (.bipush 48, 2) := by decide +kernel
theorem d_M_control_112 : decode b_M_control 112 = .ok (.if_icmp .ne 17, 3) := by decide +kernel
theorem d_M_control_115 : decode b_M_control 115 = .ok (.aload_n 0, 1) := by decide +kernel
theorem d_M_control_116 : decode b_M_control 116 = .ok (.getfield 45, 3) := by decide +kernel
theorem d_M_control_119 : decode b_M_control 119 = .ok (.aload_n 0, 1) := by decide +kernel
theorem d_M_control_120 : decode b_M_control 120 = .ok (.getfield 276, 3) := by decide +kernel
theorem d_M_control_123 : decode b_M_control 123 = .ok (.iconst 2, 1) := by decide +kernel
theorem d_M_control_124 : decode b_M_control 124 = .ok (.isub, 1) := by decide +kernel
theorem d_M_control_125 : decode b_M_control 125 = .ok (.iaload, 1) := by decide +kernel
theorem d_M_control_126 : decode b_M_control 126 = .ok (.goto 36, 3) := by decide +kernel
theorem d_M_control_129 : decode b_M_control 129 = .ok (.iload_n 1, 1) := by decide +kernel
theorem d_M_control_130 : decode b_M_control 130 = .ok (.bipush 45, 2) := by decide +kernel
theorem d_M_control_132 : decode b_M_control 132 = .ok (.if_icmp .eq 15, 3) := by decide +kernel
theorem d_M_control_135 : decode b_M_control 135 = .ok (.iload_n 1, 1) := by decide +kernel
theorem d_M_control_136 : decode b_M_control 136 = .ok (.bipush 46, 2) := by decide +kernel
theorem d_M_control_138 : decode b_M_control 138 = .ok (.if_icmp .eq 9, 3) := by decide +kernel
theorem d_M_control_141 : decode b_M_control 141 = .ok (.iload_n 1, 1) := by decide +kernel
theorem d_M_control_142 : decode b_M_control 142 = .ok (.bipush 50, 2) := by decide +kernel
theorem d_M_control_144 : decode b_M_control 144 = .ok (.if_icmp .ne 17, 3) := by decide +kernel
theorem d_M_control_147 : decode b_M_control 147 = .ok (.aload_n 0, 1) := by decide +kernel
theorem d_M_control_148 : decode b_M_control 148 = .ok (.getfield 45, 3) := by decide +kernel
theorem d_M_control_151 : decode b_M_control 151 = .ok (.aload_n 0, 1) := by decide +kernel
theorem d_M_control_152 : decode b_M_control 152 = .ok (.getfield 276, 3) := by decide +kernel
theorem d_M_control_155 : decode b_M_control 155 = .ok (.iconst 1, 1) := by decide +kernel
theorem d_M_control_156 : decode b_M_control 156 = .ok (.isub, 1) := by decide +kernel
theorem d_M_control_157 : decode b_M_control 157 = .ok (.iaload, 1) := by decide +kernel
theorem d_M_control_158 : decode b_M_control 158 = .ok (.goto 4, 3) := by decide +kernel
theorem d_M_control_161 : decode b_M_control 161 = .ok (.iconst 0, 1) := by decide +kernel
theorem d_M_control_162 : decode b_M_control 162 = .ok (.istore 4, 2) := by decide +kernel
theorem d_M_control_164 : decode b_M_control 164 = .ok (.iload_n 1, 1) := by decide +kernel
theorem d_M_control_165 : decode b_M_control 165 = .ok (.bipush 42, 2) := by decide +kernel
theorem d_M_control_167 : decode b_M_control 167 = .ok (.if_icmp .eq 84, 3) := by decide +kernel
theorem d_M_control_170 : decode b_M_control 170 = .ok (.iload_n 1, 1) := by decide +kernel
theorem d_M_control_171 : decode b_M_control 171 = .ok (.bipush 44, 2) := by decide +kernel
theorem d_M_control_173 : decode b_M_control 173 = .ok (.if_icmp .eq 78, 3) := by decide +kernel
theorem d_M_control_176 : decode b_M_control 176 = .ok (.aload_n 0, 1) := by decide +kernel
theorem d_M_control_177 : decode b_M_control 177 = .ok (.iload_n 1, 1) := by decide +kernel
theorem d_M_control_178 : decode b_M_control 178 = .ok (.bipush 41, 2) := by decide +kernel
theorem d_M_control_180 : decode b_M_control 180 = .ok (.if_icmp .eq 15, 3) := by decide +kernel
theorem d_M_control_183 : decode b_M_control 183 = .ok (.iload_n 1, 1) := by decide +kernel
theorem d_M_control_184 : decode b_M_control 184 = .ok (.bipush 45, 2) := by decide +kernel
theorem d_M_control_186 : decode b_M_control 186 = .ok (.if_icmp .eq 9, 3) := by decide +kernel
theorem d_M_control_189 : decode b_M_control 189 = .ok (.iload_n 1, 1) := by decide +kernel
theorem d_M_control_190 : decode b_M_control 190 = .ok (.bipush 47, 2) := by decide +kernel
theorem d_M_control_192 : decode b_M_control 192 = .ok (.if_icmp .ne 7, 3) := by decide +kernel
theorem d_M_control_195 : decode b_M_control 195 = .ok (.iconst 2, 1) := by decide +kernel
theorem d_M_control_196 : decode b_M_control 196 = .ok (.goto 34, 3) := by decide +kernel
theorem d_M_control_199 : decode b_M_control 199 = .ok (.iload_n 1, 1) := by decide +kernel
theorem d_M_control_200 : decode b_M_control 200 = .ok (.bipush 49, 2) := by decide +kernel
theorem d_M_control_202 : decode b_M_control 202 = .ok (.if_icmp .ne 7, 3) := by decide +kernel
theorem d_M_control_205 : decode b_M_control 205 = .ok (.iconst 4, 1) := by decide +kernel
theorem d_M_control_206 : decode b_M_control 206 = .ok (.goto 24, 3) := by decide +kernel
theorem d_M_control_209 : decode b_M_control 209 = .ok (.iload_n 1, 1) := by decide +kernel
theorem d_M_control_210 : decode b_M_control 210 = .ok (.bipush 50, 2) := by decide +kernel
theorem d_M_control_212 : decode b_M_control 212 = .ok (.if_icmp .ne 7, 3) := by decide +kernel
theorem d_M_control_215 : decode b_M_control 215 = .ok (.iconst 5, 1) := by decide +kernel
theorem d_M_control_216 : decode b_M_control 216 = .ok (.goto 14, 3) := by decide +kernel
theorem d_M_control_219 : decode b_M_control 219 = .ok (.iload_n 1, 1) := by decide +kernel
theorem d_M_control_220 : decode b_M_control 220 = .ok (.bipush 51, 2) := by decide +kernel
theorem d_M_control_222 : decode b_M_control 222 = .ok (.if_icmp .ne 7, 3) := by decide +kernel
theorem d_M_control_225 : decode b_M_control 225 = .ok (.iconst 0, 1) := by decide +kernel
theorem d_M_control_226 : decode b_M_control 226 = .ok (.goto 4, 3) := by decide +kernel
theorem d_M_control_229 : decode b_M_control 229 = .ok (.iconst 3, 1) := by decide +kernel
theorem d_M_control_230 : decode b_M_control 230 = .ok (.iload_n 1, 1) := by decide +kernel
theorem d_M_control_231 : decode b_M_control 231 = .ok (.bipush 51, 2) := by decide +kernel
theorem d_M_control_233 : decode b_M_control 233 = .ok (.if_icmp .ne 13, 3) := by decide +kernel
theorem d_M_control_236 : decode b_M_control 236 = .ok (.bipush 100, 2) := by decide +kernel
theorem d_M_control_238 : decode b_M_control 238 = .ok (.aload_n 0, 1) := by decide +kernel
theorem d_M_control_239 : decode b_M_control 239 = .ok (.getfield 227, 3) := by decide +kernel
theorem d_M_control_242 : decode b_M_control 242 = .ok (.iadd, 1) := by decide +kernel
theorem d_M_control_243 : decode b_M_control 243 = .ok (.goto 5, 3) := by decide +kernel
theorem d_M_control_246 : decode b_M_control 246 = .ok (.iload 4, 2) := by decide +kernel
theorem d_M_control_248 : decode b_M_control 248 = .ok (.invokevirtual 279, 3) := by decide +kernel
theorem d_M_control_251 : decode b_M_control 251 = .ok (.aload_n 0, 1) := by decide +kernel
theorem d_M_control_252 : decode b_M_control 252 = .ok (.getfield 190, 3) := by decide +kernel
theorem d_M_control_255 : decode b_M_control 255 = .ok (.ifCond .ne 9, 3) := by decide +kernel
theorem d_M_control_258 : decode b_M_control 258 = .ok (.aload_n 0, 1) := by decide +kernel
theorem d_M_control_259 : decode b_M_control 259 = .ok (.iload_n 1, 1) := by decide +kernel
theorem d_M_control_260 : decode b_M_control 260 = .ok (.iload_n 2, 1) := by decide +kernel
theorem d_M_control_261 : decode b_M_control 261 = .ok (.invokevirtual 286, 3) := by decide +kernel
theorem d_M_control_264 : decode b_M_control 264 = .ok (.return_, 1) := by decide +kernel
def wq_M_control_264 (post : StM → Prop)  (S : StM)  : Prop :=
  post S
def wq_M_control_251 (post : StM → Prop)  (S : StM) (x1 : Int32) (x2 : Int32) : Prop :=
  (((S.1 14) = 0) → wp_M_after (fun S1 : StM => (wq_M_control_264 post  S1 )) S (x1) (x2)) ∧ (¬ ((S.1 14) = 0) → wq_M_control_264 post  S )
def wq_M_control_248 (post : StM → Prop)  (S : StM) (x1 : Int32) (x2 : Int32) (t0 : Int32) (t1 : Int32) : Prop :=
  wp_M_compile (fun S2 : StM => (wq_M_control_251 post  S2 (x1) (x2))) S (t1) (t0)
def wq_M_control_230 (post : StM → Prop)  (S : StM) (x1 : Int32) (x2 : Int32) (x4 : Int32) (t0 : Int32) : Prop :=
  ((x1 = 51) → wq_M_control_248 post  S (x1) (x2) ((100 + (S.1 20))) (t0)) ∧ (¬ (x1 = 51) → wq_M_control_248 post  S (x1) (x2) (x4) (t0))
def wq_M_control_195 (post : StM → Prop)  (S : StM) (x1 : Int32) (x2 : Int32) (x4 : Int32) : Prop :=
  wq_M_control_230 post  S (x1) (x2) (x4) (2)
def wq_M_control_162 (post : StM → Prop)  (S : StM) (x1 : Int32) (x2 : Int32) (t0 : Int32) : Prop :=
  ((x1 = 42) → wq_M_control_251 post  S (x1) (x2)) ∧ (¬ (x1 = 42) → ((x1 = 44) → wq_M_control_251 post  S (x1) (x2)) ∧ (¬ (x1 = 44) → ((x1 = 41) → wq_M_control_195 post  S (x1) (x2) (t0)) ∧ (¬ (x1 = 41) → ((x1 = 45) → wq_M_control_195 post  S (x1) (x2) (t0)) ∧ (¬ (x1 = 45) → ((x1 = 47) → wq_M_control_195 post  S (x1) (x2) (t0)) ∧ (¬ (x1 = 47) → ((x1 = 49) → wq_M_control_230 post  S (x1) (x2) (t0) (4)) ∧ (¬ (x1 = 49) → ((x1 = 50) → wq_M_control_230 post  S (x1) (x2) (t0) (5)) ∧ (¬ (x1 = 50) → ((x1 = 51) → wq_M_control_230 post  S (x1) (x2) (t0) (0)) ∧ (¬ (x1 = 51) → wq_M_control_230 post  S (x1) (x2) (t0) (3)))))))))
def wq_M_control_147 (post : StM → Prop)  (S : StM) (x1 : Int32) (x2 : Int32) : Prop :=
  (vp_in ((S.1 22) - 1) 8) ∧ (wq_M_control_162 post  S (x1) (x2) (((S.2.1 24) (Int32.toNatClampNeg (((S.1 22) - 1))))))
def wq_M_control_109 (post : StM → Prop)  (S : StM) (x1 : Int32) (x2 : Int32) : Prop :=
  ((x1 = 48) → (vp_in ((S.1 22) - 2) 8) ∧ (wq_M_control_162 post  S (x1) (x2) (((S.2.1 24) (Int32.toNatClampNeg (((S.1 22) - 2))))))) ∧ (¬ (x1 = 48) → ((x1 = 45) → wq_M_control_147 post  S (x1) (x2)) ∧ (¬ (x1 = 45) → ((x1 = 46) → wq_M_control_147 post  S (x1) (x2)) ∧ (¬ (x1 = 46) → ((x1 = 50) → wq_M_control_147 post  S (x1) (x2)) ∧ (¬ (x1 = 50) → wq_M_control_162 post  S (x1) (x2) (0)))))
def wq_M_control_55 (post : StM → Prop)  (S : StM)  : Prop :=
  wp_M_fail (fun S3 : StM => (wq_M_control_264 post  S3 )) S (6)
def wq_M_control_39 (post : StM → Prop)  (S : StM) (x1 : Int32) (x2 : Int32) (t0 : Int32) : Prop :=
  (((S.1 21) = 0) → wq_M_control_55 post  S ) ∧ (¬ ((S.1 21) = 0) → wp_M_fits (fun (r5 : Int32) (S4 : StM) => (((r5 = 0) → wq_M_control_55 post  S4 ) ∧ (¬ (r5 = 0) → ((x1 = 40) → wq_M_control_264 post  ((upd (upd S4.1 20 (((S4.1 20) + 1))) 21 (0)), S4.2) ) ∧ (¬ (x1 = 40) → ((t0 = 0) → wq_M_control_109 post  S4 (x1) (x2)) ∧ (¬ (t0 = 0) → (((S4.1 22) < 8) → wq_M_control_109 post  S4 (x1) (x2)) ∧ (¬ ((S4.1 22) < 8) → wp_M_fail (fun S6 : StM => (wq_M_control_264 post  S6 )) S4 (3))))))) S (x1))
def wq_M_control_34 (post : StM → Prop)  (S : StM) (x1 : Int32) (x2 : Int32) : Prop :=
  wq_M_control_39 post  S (x1) (x2) (1)
def wp_M_control (post : StM → Prop) (S : StM) (a0 : Int32) : Prop :=
  (vp_in (S.1 20) 25) ∧ (((a0 = 41) → wq_M_control_34 post  S (a0) (((S.2.1 17) (Int32.toNatClampNeg ((S.1 20)))))) ∧ (¬ (a0 = 41) → ((a0 = 44) → wq_M_control_34 post  S (a0) (((S.2.1 17) (Int32.toNatClampNeg ((S.1 20)))))) ∧ (¬ (a0 = 44) → ((a0 = 47) → wq_M_control_34 post  S (a0) (((S.2.1 17) (Int32.toNatClampNeg ((S.1 20)))))) ∧ (¬ (a0 = 47) → ((a0 = 49) → wq_M_control_34 post  S (a0) (((S.2.1 17) (Int32.toNatClampNeg ((S.1 20)))))) ∧ (¬ (a0 = 49) → wq_M_control_39 post  S (a0) (((S.2.1 17) (Int32.toNatClampNeg ((S.1 20))))) (0))))))
set_option maxRecDepth 100000 in
set_option maxHeartbeats 4000000 in
theorem c_M_control (l : Launch) (g : Gm) (sz : Nat) (S : StM) (a0 : Int32) (post : StM → Prop) (hw : wp_M_control post S a0) : Met l y_M_control (.code y_M_control b_M_control 5 none :: w_M) (rmM 2 44) (va_Pc [.ref (g.2.2 0), .int (a0)] (PM g sz S)) (va_Qv post (BM g sz) (AM g sz)) 0 0 (AM g sz) := by
  refine ofM_v (by decide) (Nat.le_of_ble_eq_true rfl) (fun p e s m args below meth c Q H locs ls hx hb hml hts hown hK hA kr hl hP hD hS => ?_)
  have hl : lv_has ls 5 [(0, .ref (g.2.2 0)), (1, .int (a0))] := hl
  unfold wp_M_control at hw
  have J264 : ∀ (S : StM)  (H : Heap) (locs : List Loc) (ls : Array Slot), wq_M_control_264 post  S  → lv_has ls 5 [] → va_P g.1 classes (wM g S) H → va_D (AM g s.heap.size) (wM g S) → va_S (AM g s.heap.size) s.heap H locs → W p l e (rmM 2 44) s m args below meth c H locs 0 0 Q (F0 m 264 ls []) := by
    intro S  H locs ls hw hl hP hD hS
    unfold wq_M_control_264 at hw
    exact kr S _ _ _ _ hw hP hD hS d_M_control_264
  have J251 : ∀ (S : StM) (x1 : Int32) (x2 : Int32) (H : Heap) (locs : List Loc) (ls : Array Slot), wq_M_control_251 post  S x1 x2 → lv_has ls 5 [(0, .ref (g.2.2 0)), (1, .int (x1)), (2, .int (x2))] → va_P g.1 classes (wM g S) H → va_D (AM g s.heap.size) (wM g S) → va_S (AM g s.heap.size) s.heap H locs → W p l e (rmM 2 44) s m args below meth c H locs 0 0 Q (F0 m 251 ls []) := by
    intro S x1 x2 H locs ls hw hl hP hD hS
    unfold wq_M_control_251 at hw
    refine lv_aload_n hx hb d_M_control_251 rfl (lv_at hl 0 rfl) ?_
    refine gt_M (v := .int ((S.1 14))) hx hb hown hts hK hP 14 (by decide) rfl k_M_120 d_M_control_252 ?_
    refine lv_if_ne hx hb d_M_control_255 (tgt := 264) (by decide) (fun hc => ?_) (fun hc => ?_)
    · have hw := hw.2 hc
      exact J264 S  _ _ _ hw (lv_sub hl [] rfl) hP hD hS
    · have hw := hw.1 hc
      refine lv_aload_n hx hb d_M_control_258 rfl (lv_at hl 0 rfl) ?_
      refine lv_iload_n hx hb d_M_control_259 rfl (lv_at hl 1 rfl) ?_
      refine lv_iload_n hx hb d_M_control_260 rfl (lv_at hl 2 rfl) ?_
      refine cM_v (As := [.int (x1), .int (x2)]) (rest := []) hx hb hml hown hts hK hP hD hS hA (Nat.zero_le _) (Nat.zero_le _) hl.1 (q_M_after hts ⟨Nat.le_of_ble_eq_true rfl, Nat.le_of_ble_eq_true rfl⟩) (c_M_after l g H.size _ (x1) (x2) _ hw) rfl rfl (Nat.le_of_ble_eq_true rfl) d_M_control_261 (fun S1 H locs hw hP hD hS => ?_)
      exact J264 S1  _ _ _ hw (lv_sub hl [] rfl) hP hD hS
  have J248 : ∀ (S : StM) (x1 : Int32) (x2 : Int32) (t0 : Int32) (t1 : Int32) (H : Heap) (locs : List Loc) (ls : Array Slot), wq_M_control_248 post  S x1 x2 t0 t1 → lv_has ls 5 [(0, .ref (g.2.2 0)), (1, .int (x1)), (2, .int (x2))] → va_P g.1 classes (wM g S) H → va_D (AM g s.heap.size) (wM g S) → va_S (AM g s.heap.size) s.heap H locs → W p l e (rmM 2 44) s m args below meth c H locs 0 0 Q (F0 m 248 ls [.int (t0), .int (t1), .ref (g.2.2 0)]) := by
    intro S x1 x2 t0 t1 H locs ls hw hl hP hD hS
    unfold wq_M_control_248 at hw
    refine cM_v (As := [.int (t1), .int (t0)]) (rest := []) hx hb hml hown hts hK hP hD hS hA (Nat.zero_le _) (Nat.zero_le _) hl.1 (q_M_compile hts ⟨Nat.le_of_ble_eq_true rfl, Nat.le_of_ble_eq_true rfl⟩) (c_M_compile l g H.size _ (t1) (t0) _ hw) rfl rfl (Nat.le_of_ble_eq_true rfl) d_M_control_248 (fun S2 H locs hw hP hD hS => ?_)
    exact J251 S2 (x1) (x2) _ _ _ hw (lv_sub hl [0, 1, 2] rfl) hP hD hS
  have J230 : ∀ (S : StM) (x1 : Int32) (x2 : Int32) (x4 : Int32) (t0 : Int32) (H : Heap) (locs : List Loc) (ls : Array Slot), wq_M_control_230 post  S x1 x2 x4 t0 → lv_has ls 5 [(0, .ref (g.2.2 0)), (1, .int (x1)), (2, .int (x2)), (4, .int (x4))] → va_P g.1 classes (wM g S) H → va_D (AM g s.heap.size) (wM g S) → va_S (AM g s.heap.size) s.heap H locs → W p l e (rmM 2 44) s m args below meth c H locs 0 0 Q (F0 m 230 ls [.int (t0), .ref (g.2.2 0)]) := by
    intro S x1 x2 x4 t0 H locs ls hw hl hP hD hS
    unfold wq_M_control_230 at hw
    refine lv_iload_n hx hb d_M_control_230 rfl (lv_at hl 1 rfl) ?_
    refine lv_bipush (v := 51) hx hb d_M_control_231 (by decide) ?_
    refine lv_icmp_ne hx hb d_M_control_233 (tgt := 246) (by decide) (fun hc => ?_) (fun hc => ?_)
    · have hw := hw.2 hc
      refine lv_iload hx hb d_M_control_246 (lv_at hl 3 rfl) ?_
      exact J248 S (x1) (x2) (x4) (t0) _ _ _ hw (lv_sub hl [0, 1, 2] rfl) hP hD hS
    · have hw := hw.1 hc
      refine lv_bipush (v := 100) hx hb d_M_control_236 (by decide) ?_
      refine lv_aload_n hx hb d_M_control_238 rfl (lv_at hl 0 rfl) ?_
      refine gt_M (v := .int ((S.1 20))) hx hb hown hts hK hP 20 (by decide) rfl k_M_126 d_M_control_239 ?_
      refine lv_iadd hx hb d_M_control_242 ?_
      refine lv_goto hx hb d_M_control_243 (tgt := 248) (by decide) ?_
      exact J248 S (x1) (x2) ((100 + (S.1 20))) (t0) _ _ _ hw (lv_sub hl [0, 1, 2] rfl) hP hD hS
  have J195 : ∀ (S : StM) (x1 : Int32) (x2 : Int32) (x4 : Int32) (H : Heap) (locs : List Loc) (ls : Array Slot), wq_M_control_195 post  S x1 x2 x4 → lv_has ls 5 [(0, .ref (g.2.2 0)), (1, .int (x1)), (2, .int (x2)), (4, .int (x4))] → va_P g.1 classes (wM g S) H → va_D (AM g s.heap.size) (wM g S) → va_S (AM g s.heap.size) s.heap H locs → W p l e (rmM 2 44) s m args below meth c H locs 0 0 Q (F0 m 195 ls [.ref (g.2.2 0)]) := by
    intro S x1 x2 x4 H locs ls hw hl hP hD hS
    unfold wq_M_control_195 at hw
    refine lv_iconst (v := 2) hx hb d_M_control_195 (by decide) ?_
    refine lv_goto hx hb d_M_control_196 (tgt := 230) (by decide) ?_
    exact J230 S (x1) (x2) (x4) (2) _ _ _ hw (lv_sub hl [0, 1, 2, 3] rfl) hP hD hS
  have J162 : ∀ (S : StM) (x1 : Int32) (x2 : Int32) (t0 : Int32) (H : Heap) (locs : List Loc) (ls : Array Slot), wq_M_control_162 post  S x1 x2 t0 → lv_has ls 5 [(0, .ref (g.2.2 0)), (1, .int (x1)), (2, .int (x2))] → va_P g.1 classes (wM g S) H → va_D (AM g s.heap.size) (wM g S) → va_S (AM g s.heap.size) s.heap H locs → W p l e (rmM 2 44) s m args below meth c H locs 0 0 Q (F0 m 162 ls [.int (t0)]) := by
    intro S x1 x2 t0 H locs ls hw hl hP hD hS
    unfold wq_M_control_162 at hw
    refine lv_istore (lv' := [(4, .int (t0)), (0, .ref (g.2.2 0)), (1, .int (x1)), (2, .int (x2))]) hx hb d_M_control_162 hl (by decide) rfl (fun ls hl => ?_)
    refine lv_iload_n hx hb d_M_control_164 rfl (lv_at hl 2 rfl) ?_
    refine lv_bipush (v := 42) hx hb d_M_control_165 (by decide) ?_
    refine lv_icmp_eq hx hb d_M_control_167 (tgt := 251) (by decide) (fun hc => ?_) (fun hc => ?_)
    · have hw := hw.1 hc
      exact J251 S (x1) (x2) _ _ _ hw (lv_sub hl [1, 2, 3] rfl) hP hD hS
    · have hw := hw.2 hc
      refine lv_iload_n hx hb d_M_control_170 rfl (lv_at hl 2 rfl) ?_
      refine lv_bipush (v := 44) hx hb d_M_control_171 (by decide) ?_
      refine lv_icmp_eq hx hb d_M_control_173 (tgt := 251) (by decide) (fun hc => ?_) (fun hc => ?_)
      · have hw := hw.1 hc
        exact J251 S (x1) (x2) _ _ _ hw (lv_sub hl [1, 2, 3] rfl) hP hD hS
      · have hw := hw.2 hc
        refine lv_aload_n hx hb d_M_control_176 rfl (lv_at hl 1 rfl) ?_
        refine lv_iload_n hx hb d_M_control_177 rfl (lv_at hl 2 rfl) ?_
        refine lv_bipush (v := 41) hx hb d_M_control_178 (by decide) ?_
        refine lv_icmp_eq hx hb d_M_control_180 (tgt := 195) (by decide) (fun hc => ?_) (fun hc => ?_)
        · have hw := hw.1 hc
          exact J195 S (x1) (x2) (t0) _ _ _ hw (lv_sub hl [1, 2, 3, 0] rfl) hP hD hS
        · have hw := hw.2 hc
          refine lv_iload_n hx hb d_M_control_183 rfl (lv_at hl 2 rfl) ?_
          refine lv_bipush (v := 45) hx hb d_M_control_184 (by decide) ?_
          refine lv_icmp_eq hx hb d_M_control_186 (tgt := 195) (by decide) (fun hc => ?_) (fun hc => ?_)
          · have hw := hw.1 hc
            exact J195 S (x1) (x2) (t0) _ _ _ hw (lv_sub hl [1, 2, 3, 0] rfl) hP hD hS
          · have hw := hw.2 hc
            refine lv_iload_n hx hb d_M_control_189 rfl (lv_at hl 2 rfl) ?_
            refine lv_bipush (v := 47) hx hb d_M_control_190 (by decide) ?_
            refine lv_icmp_ne hx hb d_M_control_192 (tgt := 199) (by decide) (fun hc => ?_) (fun hc => ?_)
            · have hw := hw.2 hc
              refine lv_iload_n hx hb d_M_control_199 rfl (lv_at hl 2 rfl) ?_
              refine lv_bipush (v := 49) hx hb d_M_control_200 (by decide) ?_
              refine lv_icmp_ne hx hb d_M_control_202 (tgt := 209) (by decide) (fun hc => ?_) (fun hc => ?_)
              · have hw := hw.2 hc
                refine lv_iload_n hx hb d_M_control_209 rfl (lv_at hl 2 rfl) ?_
                refine lv_bipush (v := 50) hx hb d_M_control_210 (by decide) ?_
                refine lv_icmp_ne hx hb d_M_control_212 (tgt := 219) (by decide) (fun hc => ?_) (fun hc => ?_)
                · have hw := hw.2 hc
                  refine lv_iload_n hx hb d_M_control_219 rfl (lv_at hl 2 rfl) ?_
                  refine lv_bipush (v := 51) hx hb d_M_control_220 (by decide) ?_
                  refine lv_icmp_ne hx hb d_M_control_222 (tgt := 229) (by decide) (fun hc => ?_) (fun hc => ?_)
                  · have hw := hw.2 hc
                    refine lv_iconst (v := 3) hx hb d_M_control_229 (by decide) ?_
                    exact J230 S (x1) (x2) (t0) (3) _ _ _ hw (lv_sub hl [1, 2, 3, 0] rfl) hP hD hS
                  · have hw := hw.1 hc
                    refine lv_iconst (v := 0) hx hb d_M_control_225 (by decide) ?_
                    refine lv_goto hx hb d_M_control_226 (tgt := 230) (by decide) ?_
                    exact J230 S (x1) (x2) (t0) (0) _ _ _ hw (lv_sub hl [1, 2, 3, 0] rfl) hP hD hS
                · have hw := hw.1 hc
                  refine lv_iconst (v := 5) hx hb d_M_control_215 (by decide) ?_
                  refine lv_goto hx hb d_M_control_216 (tgt := 230) (by decide) ?_
                  exact J230 S (x1) (x2) (t0) (5) _ _ _ hw (lv_sub hl [1, 2, 3, 0] rfl) hP hD hS
              · have hw := hw.1 hc
                refine lv_iconst (v := 4) hx hb d_M_control_205 (by decide) ?_
                refine lv_goto hx hb d_M_control_206 (tgt := 230) (by decide) ?_
                exact J230 S (x1) (x2) (t0) (4) _ _ _ hw (lv_sub hl [1, 2, 3, 0] rfl) hP hD hS
            · have hw := hw.1 hc
              exact J195 S (x1) (x2) (t0) _ _ _ hw (lv_sub hl [1, 2, 3, 0] rfl) hP hD hS
  have J147 : ∀ (S : StM) (x1 : Int32) (x2 : Int32) (H : Heap) (locs : List Loc) (ls : Array Slot), wq_M_control_147 post  S x1 x2 → lv_has ls 5 [(0, .ref (g.2.2 0)), (1, .int (x1)), (2, .int (x2))] → va_P g.1 classes (wM g S) H → va_D (AM g s.heap.size) (wM g S) → va_S (AM g s.heap.size) s.heap H locs → W p l e (rmM 2 44) s m args below meth c H locs 0 0 Q (F0 m 147 ls []) := by
    intro S x1 x2 H locs ls hw hl hP hD hS
    unfold wq_M_control_147 at hw
    refine lv_aload_n hx hb d_M_control_147 rfl (lv_at hl 0 rfl) ?_
    refine gt_M (v := .ref (g.2.2 25)) hx hb hown hts hK hP 24 (by decide) rfl k_M_130 d_M_control_148 ?_
    refine lv_aload_n hx hb d_M_control_151 rfl (lv_at hl 0 rfl) ?_
    refine gt_M (v := .int ((S.1 22))) hx hb hown hts hK hP 22 (by decide) rfl k_M_128 d_M_control_152 ?_
    refine lv_iconst (v := 1) hx hb d_M_control_155 (by decide) ?_
    refine lv_isub hx hb d_M_control_156 ?_
    obtain ⟨hi, hw⟩ := hw
    refine va_iald (f := (S.2.1 24)) hx hb hK hP 12 0 rfl rfl hi d_M_control_157 ?_
    refine lv_goto hx hb d_M_control_158 (tgt := 162) (by decide) ?_
    exact J162 S (x1) (x2) (((S.2.1 24) (Int32.toNatClampNeg (((S.1 22) - 1))))) _ _ _ hw (lv_sub hl [0, 1, 2] rfl) hP hD hS
  have J109 : ∀ (S : StM) (x1 : Int32) (x2 : Int32) (H : Heap) (locs : List Loc) (ls : Array Slot), wq_M_control_109 post  S x1 x2 → lv_has ls 5 [(0, .ref (g.2.2 0)), (1, .int (x1)), (2, .int (x2))] → va_P g.1 classes (wM g S) H → va_D (AM g s.heap.size) (wM g S) → va_S (AM g s.heap.size) s.heap H locs → W p l e (rmM 2 44) s m args below meth c H locs 0 0 Q (F0 m 109 ls []) := by
    intro S x1 x2 H locs ls hw hl hP hD hS
    unfold wq_M_control_109 at hw
    refine lv_iload_n hx hb d_M_control_109 rfl (lv_at hl 1 rfl) ?_
    refine lv_bipush (v := 48) hx hb d_M_control_110 (by decide) ?_
    refine lv_icmp_ne hx hb d_M_control_112 (tgt := 129) (by decide) (fun hc => ?_) (fun hc => ?_)
    · have hw := hw.2 hc
      refine lv_iload_n hx hb d_M_control_129 rfl (lv_at hl 1 rfl) ?_
      refine lv_bipush (v := 45) hx hb d_M_control_130 (by decide) ?_
      refine lv_icmp_eq hx hb d_M_control_132 (tgt := 147) (by decide) (fun hc => ?_) (fun hc => ?_)
      · have hw := hw.1 hc
        exact J147 S (x1) (x2) _ _ _ hw (lv_sub hl [0, 1, 2] rfl) hP hD hS
      · have hw := hw.2 hc
        refine lv_iload_n hx hb d_M_control_135 rfl (lv_at hl 1 rfl) ?_
        refine lv_bipush (v := 46) hx hb d_M_control_136 (by decide) ?_
        refine lv_icmp_eq hx hb d_M_control_138 (tgt := 147) (by decide) (fun hc => ?_) (fun hc => ?_)
        · have hw := hw.1 hc
          exact J147 S (x1) (x2) _ _ _ hw (lv_sub hl [0, 1, 2] rfl) hP hD hS
        · have hw := hw.2 hc
          refine lv_iload_n hx hb d_M_control_141 rfl (lv_at hl 1 rfl) ?_
          refine lv_bipush (v := 50) hx hb d_M_control_142 (by decide) ?_
          refine lv_icmp_ne hx hb d_M_control_144 (tgt := 161) (by decide) (fun hc => ?_) (fun hc => ?_)
          · have hw := hw.2 hc
            refine lv_iconst (v := 0) hx hb d_M_control_161 (by decide) ?_
            exact J162 S (x1) (x2) (0) _ _ _ hw (lv_sub hl [0, 1, 2] rfl) hP hD hS
          · have hw := hw.1 hc
            exact J147 S (x1) (x2) _ _ _ hw (lv_sub hl [0, 1, 2] rfl) hP hD hS
    · have hw := hw.1 hc
      refine lv_aload_n hx hb d_M_control_115 rfl (lv_at hl 0 rfl) ?_
      refine gt_M (v := .ref (g.2.2 25)) hx hb hown hts hK hP 24 (by decide) rfl k_M_130 d_M_control_116 ?_
      refine lv_aload_n hx hb d_M_control_119 rfl (lv_at hl 0 rfl) ?_
      refine gt_M (v := .int ((S.1 22))) hx hb hown hts hK hP 22 (by decide) rfl k_M_128 d_M_control_120 ?_
      refine lv_iconst (v := 2) hx hb d_M_control_123 (by decide) ?_
      refine lv_isub hx hb d_M_control_124 ?_
      obtain ⟨hi, hw⟩ := hw
      refine va_iald (f := (S.2.1 24)) hx hb hK hP 12 0 rfl rfl hi d_M_control_125 ?_
      refine lv_goto hx hb d_M_control_126 (tgt := 162) (by decide) ?_
      exact J162 S (x1) (x2) (((S.2.1 24) (Int32.toNatClampNeg (((S.1 22) - 2))))) _ _ _ hw (lv_sub hl [0, 1, 2] rfl) hP hD hS
  have J55 : ∀ (S : StM)  (H : Heap) (locs : List Loc) (ls : Array Slot), wq_M_control_55 post  S  → lv_has ls 5 [(0, .ref (g.2.2 0))] → va_P g.1 classes (wM g S) H → va_D (AM g s.heap.size) (wM g S) → va_S (AM g s.heap.size) s.heap H locs → W p l e (rmM 2 44) s m args below meth c H locs 0 0 Q (F0 m 55 ls []) := by
    intro S  H locs ls hw hl hP hD hS
    unfold wq_M_control_55 at hw
    refine lv_aload_n hx hb d_M_control_55 rfl (lv_at hl 0 rfl) ?_
    refine lv_bipush (v := 6) hx hb d_M_control_56 (by decide) ?_
    refine cM_v (As := [.int (6)]) (rest := []) hx hb hml hown hts hK hP hD hS hA (Nat.zero_le _) (Nat.zero_le _) hl.1 (q_M_fail hts ⟨Nat.le_of_ble_eq_true rfl, Nat.le_of_ble_eq_true rfl⟩) (c_M_fail l g H.size _ (6) _ hw) rfl rfl (Nat.le_of_ble_eq_true rfl) d_M_control_58 (fun S3 H locs hw hP hD hS => ?_)
    refine lv_goto hx hb d_M_control_61 (tgt := 264) (by decide) ?_
    exact J264 S3  _ _ _ hw (lv_sub hl [] rfl) hP hD hS
  have J39 : ∀ (S : StM) (x1 : Int32) (x2 : Int32) (t0 : Int32) (H : Heap) (locs : List Loc) (ls : Array Slot), wq_M_control_39 post  S x1 x2 t0 → lv_has ls 5 [(0, .ref (g.2.2 0)), (1, .int (x1)), (2, .int (x2))] → va_P g.1 classes (wM g S) H → va_D (AM g s.heap.size) (wM g S) → va_S (AM g s.heap.size) s.heap H locs → W p l e (rmM 2 44) s m args below meth c H locs 0 0 Q (F0 m 39 ls [.int (t0)]) := by
    intro S x1 x2 t0 H locs ls hw hl hP hD hS
    unfold wq_M_control_39 at hw
    refine lv_istore_n (lv' := [(3, .int (t0)), (0, .ref (g.2.2 0)), (1, .int (x1)), (2, .int (x2))]) hx hb d_M_control_39 rfl hl (by decide) rfl (fun ls hl => ?_)
    refine lv_aload_n hx hb d_M_control_40 rfl (lv_at hl 1 rfl) ?_
    refine gt_M (v := .int ((S.1 21))) hx hb hown hts hK hP 21 (by decide) rfl k_M_127 d_M_control_41 ?_
    refine lv_if_eq hx hb d_M_control_44 (tgt := 55) (by decide) (fun hc => ?_) (fun hc => ?_)
    · have hw := hw.1 hc
      exact J55 S  _ _ _ hw (lv_sub hl [1] rfl) hP hD hS
    · have hw := hw.2 hc
      refine lv_aload_n hx hb d_M_control_47 rfl (lv_at hl 1 rfl) ?_
      refine lv_iload_n hx hb d_M_control_48 rfl (lv_at hl 2 rfl) ?_
      refine cM_i (As := [.int (x1)]) (rest := []) hx hb hml hown hts hK hP hD hS hA (Nat.zero_le _) (Nat.zero_le _) hl.1 (q_M_fits hts ⟨Nat.le_of_ble_eq_true rfl, Nat.le_of_ble_eq_true rfl⟩) (c_M_fits l g H.size _ (x1) _ hw) rfl rfl (Nat.le_of_ble_eq_true rfl) d_M_control_49 (fun r5 S4 H locs hw hP hD hS => ?_)
      refine lv_if_ne hx hb d_M_control_52 (tgt := 64) (by decide) (fun hc => ?_) (fun hc => ?_)
      · have hw := hw.2 hc
        refine lv_iload_n hx hb d_M_control_64 rfl (lv_at hl 2 rfl) ?_
        refine lv_bipush (v := 40) hx hb d_M_control_65 (by decide) ?_
        refine lv_icmp_ne hx hb d_M_control_67 (tgt := 88) (by decide) (fun hc => ?_) (fun hc => ?_)
        · have hw := hw.2 hc
          refine lv_iload_n hx hb d_M_control_88 rfl (lv_at hl 0 rfl) ?_
          refine lv_if_eq hx hb d_M_control_89 (tgt := 109) (by decide) (fun hc => ?_) (fun hc => ?_)
          · have hw := hw.1 hc
            exact J109 S4 (x1) (x2) _ _ _ hw (lv_sub hl [1, 2, 3] rfl) hP hD hS
          · have hw := hw.2 hc
            refine lv_aload_n hx hb d_M_control_92 rfl (lv_at hl 1 rfl) ?_
            refine gt_M (v := .int ((S4.1 22))) hx hb hown hts hK hP 22 (by decide) rfl k_M_128 d_M_control_93 ?_
            refine lv_bipush (v := 8) hx hb d_M_control_96 (by decide) ?_
            refine lv_icmp_lt hx hb d_M_control_98 (tgt := 109) (by decide) (fun hc => ?_) (fun hc => ?_)
            · have hw := hw.1 hc
              exact J109 S4 (x1) (x2) _ _ _ hw (lv_sub hl [1, 2, 3] rfl) hP hD hS
            · have hw := hw.2 hc
              refine lv_aload_n hx hb d_M_control_101 rfl (lv_at hl 1 rfl) ?_
              refine lv_iconst (v := 3) hx hb d_M_control_102 (by decide) ?_
              refine cM_v (As := [.int (3)]) (rest := []) hx hb hml hown hts hK hP hD hS hA (Nat.zero_le _) (Nat.zero_le _) hl.1 (q_M_fail hts ⟨Nat.le_of_ble_eq_true rfl, Nat.le_of_ble_eq_true rfl⟩) (c_M_fail l g H.size _ (3) _ hw) rfl rfl (Nat.le_of_ble_eq_true rfl) d_M_control_103 (fun S6 H locs hw hP hD hS => ?_)
              refine lv_goto hx hb d_M_control_106 (tgt := 264) (by decide) ?_
              exact J264 S6  _ _ _ hw (lv_sub hl [] rfl) hP hD hS
        · have hw := hw.1 hc
          refine lv_aload_n hx hb d_M_control_70 rfl (lv_at hl 1 rfl) ?_
          refine lv_aload_n hx hb d_M_control_71 rfl (lv_at hl 1 rfl) ?_
          refine gt_M (v := .int ((S4.1 20))) hx hb hown hts hK hP 20 (by decide) rfl k_M_126 d_M_control_72 ?_
          refine lv_iconst (v := 1) hx hb d_M_control_75 (by decide) ?_
          refine lv_iadd hx hb d_M_control_76 ?_
          refine pt_M (S2 := ((upd S4.1 20 (((S4.1 20) + 1))), S4.2)) (v := .int (((S4.1 20) + 1))) hx hb hown hts hK hP hD hS 20 (by decide) rfl rfl rfl (sI_M_20 g _ _) k_M_126 d_M_control_77 (fun H locs hP hD hS => ?_)
          refine lv_aload_n hx hb d_M_control_80 rfl (lv_at hl 1 rfl) ?_
          refine lv_iconst (v := 0) hx hb d_M_control_81 (by decide) ?_
          refine pt_M (S2 := ((upd (upd S4.1 20 (((S4.1 20) + 1))) 21 (0)), S4.2)) (v := .int (0)) hx hb hown hts hK hP hD hS 21 (by decide) rfl rfl rfl (sI_M_21 g _ _) k_M_127 d_M_control_82 (fun H locs hP hD hS => ?_)
          refine lv_goto hx hb d_M_control_85 (tgt := 264) (by decide) ?_
          exact J264 ((upd (upd S4.1 20 (((S4.1 20) + 1))) 21 (0)), S4.2)  _ _ _ hw (lv_sub hl [] rfl) hP hD hS
      · have hw := hw.1 hc
        exact J55 S4  _ _ _ hw (lv_sub hl [1] rfl) hP hD hS
  have J34 : ∀ (S : StM) (x1 : Int32) (x2 : Int32) (H : Heap) (locs : List Loc) (ls : Array Slot), wq_M_control_34 post  S x1 x2 → lv_has ls 5 [(0, .ref (g.2.2 0)), (1, .int (x1)), (2, .int (x2))] → va_P g.1 classes (wM g S) H → va_D (AM g s.heap.size) (wM g S) → va_S (AM g s.heap.size) s.heap H locs → W p l e (rmM 2 44) s m args below meth c H locs 0 0 Q (F0 m 34 ls []) := by
    intro S x1 x2 H locs ls hw hl hP hD hS
    unfold wq_M_control_34 at hw
    refine lv_iconst (v := 1) hx hb d_M_control_34 (by decide) ?_
    refine lv_goto hx hb d_M_control_35 (tgt := 39) (by decide) ?_
    exact J39 S (x1) (x2) (1) _ _ _ hw (lv_sub hl [0, 1, 2] rfl) hP hD hS
  refine lv_aload_n hx hb d_M_control_0 rfl (lv_at hl 0 rfl) ?_
  refine gt_M (v := .ref (g.2.2 18)) hx hb hown hts hK hP 17 (by decide) rfl k_M_123 d_M_control_1 ?_
  refine lv_aload_n hx hb d_M_control_4 rfl (lv_at hl 0 rfl) ?_
  refine gt_M (v := .int ((S.1 20))) hx hb hown hts hK hP 20 (by decide) rfl k_M_126 d_M_control_5 ?_
  obtain ⟨hi, hw⟩ := hw
  refine va_iald (f := (S.2.1 17)) hx hb hK hP 8 0 rfl rfl hi d_M_control_8 ?_
  refine lv_istore_n (lv' := [(2, .int (((S.2.1 17) (Int32.toNatClampNeg ((S.1 20)))))), (0, .ref (g.2.2 0)), (1, .int (a0))]) hx hb d_M_control_9 rfl hl (by decide) rfl (fun ls hl => ?_)
  refine lv_iload_n hx hb d_M_control_10 rfl (lv_at hl 2 rfl) ?_
  refine lv_bipush (v := 41) hx hb d_M_control_11 (by decide) ?_
  refine lv_icmp_eq hx hb d_M_control_13 (tgt := 34) (by decide) (fun hc => ?_) (fun hc => ?_)
  · have hw := hw.1 hc
    exact J34 S (a0) (((S.2.1 17) (Int32.toNatClampNeg ((S.1 20))))) _ _ _ hw (lv_sub hl [1, 2, 0] rfl) hP hD hS
  · have hw := hw.2 hc
    refine lv_iload_n hx hb d_M_control_16 rfl (lv_at hl 2 rfl) ?_
    refine lv_bipush (v := 44) hx hb d_M_control_17 (by decide) ?_
    refine lv_icmp_eq hx hb d_M_control_19 (tgt := 34) (by decide) (fun hc => ?_) (fun hc => ?_)
    · have hw := hw.1 hc
      exact J34 S (a0) (((S.2.1 17) (Int32.toNatClampNeg ((S.1 20))))) _ _ _ hw (lv_sub hl [1, 2, 0] rfl) hP hD hS
    · have hw := hw.2 hc
      refine lv_iload_n hx hb d_M_control_22 rfl (lv_at hl 2 rfl) ?_
      refine lv_bipush (v := 47) hx hb d_M_control_23 (by decide) ?_
      refine lv_icmp_eq hx hb d_M_control_25 (tgt := 34) (by decide) (fun hc => ?_) (fun hc => ?_)
      · have hw := hw.1 hc
        exact J34 S (a0) (((S.2.1 17) (Int32.toNatClampNeg ((S.1 20))))) _ _ _ hw (lv_sub hl [1, 2, 0] rfl) hP hD hS
      · have hw := hw.2 hc
        refine lv_iload_n hx hb d_M_control_28 rfl (lv_at hl 2 rfl) ?_
        refine lv_bipush (v := 49) hx hb d_M_control_29 (by decide) ?_
        refine lv_icmp_ne hx hb d_M_control_31 (tgt := 38) (by decide) (fun hc => ?_) (fun hc => ?_)
        · have hw := hw.2 hc
          refine lv_iconst (v := 0) hx hb d_M_control_38 (by decide) ?_
          exact J39 S (a0) (((S.2.1 17) (Int32.toNatClampNeg ((S.1 20))))) (0) _ _ _ hw (lv_sub hl [1, 2, 0] rfl) hP hD hS
        · have hw := hw.1 hc
          exact J34 S (a0) (((S.2.1 17) (Int32.toNatClampNeg ((S.1 20))))) _ _ _ hw (lv_sub hl [1, 2, 0] rfl) hP hD hS
theorem d_M_write_0 : decode b_M_write 0 = .ok (.iconst 0, 1) := by decide +kernel
theorem d_M_write_1 : decode b_M_write 1 = .ok (.istore_n 2, 1) := by decide +kernel
theorem d_M_write_2 : decode b_M_write 2 = .ok (.iload_n 2, 1) := by decide +kernel
theorem d_M_write_3 : decode b_M_write 3 = .ok (.bipush 16, 2) := by decide +kernel
theorem d_M_write_5 : decode b_M_write 5 = .ok (.if_icmp .ge 48, 3) := by decide +kernel
theorem d_M_write_8 : decode b_M_write 8 = .ok (.aload_n 0, 1) := by decide +kernel
theorem d_M_write_9 : decode b_M_write 9 = .ok (.getfield 69, 3) := by decide +kernel
theorem d_M_write_12 : decode b_M_write 12 = .ok (.iload_n 1, 1) := by decide +kernel
theorem d_M_write_13 : decode b_M_write 13 = .ok (.baload, 1) := by decide +kernel
theorem d_M_write_14 : decode b_M_write 14 = .ok (.ifCond .eq 39, 3) := by decide +kernel
theorem d_M_write_17 : decode b_M_write 17 = .ok (.aload_n 0, 1) := by decide +kernel
theorem d_M_write_18 : decode b_M_write 18 = .ok (.getfield 63, 3) := by decide +kernel
theorem d_M_write_21 : decode b_M_write 21 = .ok (.bipush 16, 2) := by decide +kernel
theorem d_M_write_23 : decode b_M_write 23 = .ok (.aload_n 0, 1) := by decide +kernel
theorem d_M_write_24 : decode b_M_write 24 = .ok (.getfield 66, 3) := by decide +kernel
theorem d_M_write_27 : decode b_M_write 27 = .ok (.iload_n 1, 1) := by decide +kernel
theorem d_M_write_28 : decode b_M_write 28 = .ok (.iaload, 1) := by decide +kernel
theorem d_M_write_29 : decode b_M_write 29 = .ok (.imul, 1) := by decide +kernel
theorem d_M_write_30 : decode b_M_write 30 = .ok (.iload_n 2, 1) := by decide +kernel
theorem d_M_write_31 : decode b_M_write 31 = .ok (.iadd, 1) := by decide +kernel
theorem d_M_write_32 : decode b_M_write 32 = .ok (.aload_n 0, 1) := by decide +kernel
theorem d_M_write_33 : decode b_M_write 33 = .ok (.getfield 19, 3) := by decide +kernel
theorem d_M_write_36 : decode b_M_write 36 = .ok (.bipush 64, 2) := by decide +kernel
theorem d_M_write_38 : decode b_M_write 38 = .ok (.bipush 16, 2) := by decide +kernel
theorem d_M_write_40 : decode b_M_write 40 = .ok (.iload_n 1, 1) := by decide +kernel
theorem d_M_write_41 : decode b_M_write 41 = .ok (.imul, 1) := by decide +kernel
theorem d_M_write_42 : decode b_M_write 42 = .ok (.iadd, 1) := by decide +kernel
theorem d_M_write_43 : decode b_M_write 43 = .ok (.iload_n 2, 1) := by decide +kernel
theorem d_M_write_44 : decode b_M_write 44 = .ok (.iadd, 1) := by decide +kernel
theorem d_M_write_45 : decode b_M_write 45 = .ok (.iaload, 1) := by decide +kernel
theorem d_M_write_46 : decode b_M_write 46 = .ok (.iastore, 1) := by decide +kernel
theorem d_M_write_47 : decode b_M_write 47 = .ok (.iinc 2 1, 3) := by decide +kernel
theorem d_M_write_50 : decode b_M_write 50 = .ok (.goto (-48), 3) := by decide +kernel
theorem d_M_write_53 : decode b_M_write 53 = .ok (.aload_n 0, 1) := by decide +kernel
theorem d_M_write_54 : decode b_M_write 54 = .ok (.getfield 69, 3) := by decide +kernel
theorem d_M_write_57 : decode b_M_write 57 = .ok (.iload_n 1, 1) := by decide +kernel
theorem d_M_write_58 : decode b_M_write 58 = .ok (.iconst 0, 1) := by decide +kernel
theorem d_M_write_59 : decode b_M_write 59 = .ok (.bastore, 1) := by decide +kernel
theorem d_M_write_60 : decode b_M_write 60 = .ok (.return_, 1) := by decide +kernel
def wq_M_write_53 (post : StM → Prop)  (S : StM) (x1 : Int32) : Prop :=
  (vp_in x1 2) ∧ (post (S.1, (va_up S.2.1 33 (upd (S.2.1 33) (Int32.toNatClampNeg (x1)) (vp_nar .boolean (0)))), S.2.2))
def wq_M_write_2 (post : StM → Prop)  : Nat → StM → Int32 → Int32 → Prop
  | 0, _, _, _ => False
  | n2 + 1, S, x1, x2 =>
    ((16 ≤ x2) → wq_M_write_53 post  S (x1)) ∧ (¬ (16 ≤ x2) → (vp_in x1 2) ∧ (((((S.2.1 33) (Int32.toNatClampNeg (x1))) = 0) → wq_M_write_53 post  S (x1)) ∧ (¬ (((S.2.1 33) (Int32.toNatClampNeg (x1))) = 0) → (vp_in x1 2) ∧ ((vp_in ((64 + (16 * x1)) + x2) 96) ∧ ((vp_in ((16 * ((S.2.1 32) (Int32.toNatClampNeg (x1)))) + x2) 64) ∧ ((wq_M_write_2 post  n2) (S.1, (va_up S.2.1 31 (upd (S.2.1 31) (Int32.toNatClampNeg (((16 * ((S.2.1 32) (Int32.toNatClampNeg (x1)))) + x2))) (((S.2.1 9) (Int32.toNatClampNeg (((64 + (16 * x1)) + x2))))))), S.2.2) (x1) ((x2 + 1))))))))
def wp_M_write (post : StM → Prop) (S : StM) (a0 : Int32) : Prop :=
  ∃ nn : Nat, wq_M_write_2 post  nn S (a0) (0)
set_option maxRecDepth 100000 in
set_option maxHeartbeats 4000000 in
theorem c_M_write (l : Launch) (g : Gm) (sz : Nat) (S : StM) (a0 : Int32) (post : StM → Prop) (hw : wp_M_write post S a0) : Met l y_M_write (.code y_M_write b_M_write 3 none :: w_M) (rmM 0 0) (va_Pc [.ref (g.2.2 0), .int (a0)] (PM g sz S)) (va_Qv post (BM g sz) (AM g sz)) 0 0 (AM g sz) := by
  refine ofM_v (by decide) (Nat.le_of_ble_eq_true rfl) (fun p e s m args below meth c Q H locs ls hx hb hml hts hown hK hA kr hl hP hD hS => ?_)
  have hl : lv_has ls 3 [(0, .ref (g.2.2 0)), (1, .int (a0))] := hl
  unfold wp_M_write at hw
  have J53 : ∀ (S : StM) (x1 : Int32) (H : Heap) (locs : List Loc) (ls : Array Slot), wq_M_write_53 post  S x1 → lv_has ls 3 [(0, .ref (g.2.2 0)), (1, .int (x1))] → va_P g.1 classes (wM g S) H → va_D (AM g s.heap.size) (wM g S) → va_S (AM g s.heap.size) s.heap H locs → W p l e (rmM 0 0) s m args below meth c H locs 0 0 Q (F0 m 53 ls []) := by
    intro S x1 H locs ls hw hl hP hD hS
    unfold wq_M_write_53 at hw
    refine lv_aload_n hx hb d_M_write_53 rfl (lv_at hl 0 rfl) ?_
    refine gt_M (v := .ref (g.2.2 34)) hx hb hown hts hK hP 33 (by decide) rfl k_M_139 d_M_write_54 ?_
    refine lv_iload_n hx hb d_M_write_57 rfl (lv_at hl 1 rfl) ?_
    refine lv_iconst (v := 0) hx hb d_M_write_58 (by decide) ?_
    obtain ⟨hi, hw⟩ := hw
    refine za_M (S2 := (S.1, (va_up S.2.1 33 (upd (S.2.1 33) (Int32.toNatClampNeg (x1)) (vp_nar .boolean (0)))), S.2.2)) (f := (S.2.1 33)) hx hb hK hP hD hS 20 rfl hi d_M_write_59 (sA_M_33 g _ _) (fun H locs hP hD hS => ?_)
    exact kr (S.1, (va_up S.2.1 33 (upd (S.2.1 33) (Int32.toNatClampNeg (x1)) (vp_nar .boolean (0)))), S.2.2) _ _ _ _ hw hP hD hS d_M_write_60
  have J2 : ∀ (n2 : Nat), ∀ (S : StM) (x1 : Int32) (x2 : Int32) (H : Heap) (locs : List Loc) (ls : Array Slot), wq_M_write_2 post  n2 S x1 x2 → lv_has ls 3 [(0, .ref (g.2.2 0)), (1, .int (x1)), (2, .int (x2))] → va_P g.1 classes (wM g S) H → va_D (AM g s.heap.size) (wM g S) → va_S (AM g s.heap.size) s.heap H locs → W p l e (rmM 0 0) s m args below meth c H locs 0 0 Q (F0 m 2 ls []) := by
    intro n2
    induction n2 with
    | zero => intro S x1 x2 H locs ls hw; exact hw.elim
    | succ n2 ih2 =>
      intro S x1 x2 H locs ls hw hl hP hD hS
      unfold wq_M_write_2 at hw
      refine lv_iload_n hx hb d_M_write_2 rfl (lv_at hl 2 rfl) ?_
      refine lv_bipush (v := 16) hx hb d_M_write_3 (by decide) ?_
      refine lv_icmp_ge hx hb d_M_write_5 (tgt := 53) (by decide) (fun hc => ?_) (fun hc => ?_)
      · have hw := hw.1 hc
        exact J53 S (x1) _ _ _ hw (lv_sub hl [0, 1] rfl) hP hD hS
      · have hw := hw.2 hc
        refine lv_aload_n hx hb d_M_write_8 rfl (lv_at hl 0 rfl) ?_
        refine gt_M (v := .ref (g.2.2 34)) hx hb hown hts hK hP 33 (by decide) rfl k_M_139 d_M_write_9 ?_
        refine lv_iload_n hx hb d_M_write_12 rfl (lv_at hl 1 rfl) ?_
        obtain ⟨hi, hw⟩ := hw
        refine va_zald (f := (S.2.1 33)) hx hb hK hP 20 1 rfl rfl hi d_M_write_13 ?_
        refine lv_if_eq hx hb d_M_write_14 (tgt := 53) (by decide) (fun hc => ?_) (fun hc => ?_)
        · have hw := hw.1 hc
          exact J53 S (x1) _ _ _ hw (lv_sub hl [0, 1] rfl) hP hD hS
        · have hw := hw.2 hc
          refine lv_aload_n hx hb d_M_write_17 rfl (lv_at hl 0 rfl) ?_
          refine gt_M (v := .ref (g.2.2 32)) hx hb hown hts hK hP 31 (by decide) rfl k_M_137 d_M_write_18 ?_
          refine lv_bipush (v := 16) hx hb d_M_write_21 (by decide) ?_
          refine lv_aload_n hx hb d_M_write_23 rfl (lv_at hl 0 rfl) ?_
          refine gt_M (v := .ref (g.2.2 33)) hx hb hown hts hK hP 32 (by decide) rfl k_M_138 d_M_write_24 ?_
          refine lv_iload_n hx hb d_M_write_27 rfl (lv_at hl 1 rfl) ?_
          obtain ⟨hi, hw⟩ := hw
          refine va_iald (f := (S.2.1 32)) hx hb hK hP 19 0 rfl rfl hi d_M_write_28 ?_
          refine lv_imul hx hb d_M_write_29 ?_
          refine lv_iload_n hx hb d_M_write_30 rfl (lv_at hl 2 rfl) ?_
          refine lv_iadd hx hb d_M_write_31 ?_
          refine lv_aload_n hx hb d_M_write_32 rfl (lv_at hl 0 rfl) ?_
          refine gt_M (v := .ref (g.2.2 10)) hx hb hown hts hK hP 9 (by decide) rfl k_M_115 d_M_write_33 ?_
          refine lv_bipush (v := 64) hx hb d_M_write_36 (by decide) ?_
          refine lv_bipush (v := 16) hx hb d_M_write_38 (by decide) ?_
          refine lv_iload_n hx hb d_M_write_40 rfl (lv_at hl 1 rfl) ?_
          refine lv_imul hx hb d_M_write_41 ?_
          refine lv_iadd hx hb d_M_write_42 ?_
          refine lv_iload_n hx hb d_M_write_43 rfl (lv_at hl 2 rfl) ?_
          refine lv_iadd hx hb d_M_write_44 ?_
          obtain ⟨hi, hw⟩ := hw
          refine va_iald (f := (S.2.1 9)) hx hb hK hP 4 0 rfl rfl hi d_M_write_45 ?_
          obtain ⟨hi, hw⟩ := hw
          refine ia_M (S2 := (S.1, (va_up S.2.1 31 (upd (S.2.1 31) (Int32.toNatClampNeg (((16 * ((S.2.1 32) (Int32.toNatClampNeg (x1)))) + x2))) (((S.2.1 9) (Int32.toNatClampNeg (((64 + (16 * x1)) + x2))))))), S.2.2)) (f := (S.2.1 31)) hx hb hK hP hD hS 18 rfl hi d_M_write_46 (sA_M_31 g _ _) (fun H locs hP hD hS => ?_)
          refine lv_iinc (k := 2) (v := (x2 + 1)) (lv' := [(2, .int ((x2 + 1))), (0, .ref (g.2.2 0)), (1, .int (x1))]) hx hb d_M_write_47 hl rfl rfl (by decide) rfl (fun ls hl => ?_)
          refine lv_goto hx hb d_M_write_50 (tgt := 2) (by decide) ?_
          exact ih2 (S.1, (va_up S.2.1 31 (upd (S.2.1 31) (Int32.toNatClampNeg (((16 * ((S.2.1 32) (Int32.toNatClampNeg (x1)))) + x2))) (((S.2.1 9) (Int32.toNatClampNeg (((64 + (16 * x1)) + x2))))))), S.2.2) (x1) ((x2 + 1)) _ _ _ hw (lv_sub hl [1, 2, 0] rfl) hP hD hS
  refine lv_iconst (v := 0) hx hb d_M_write_0 (by decide) ?_
  refine lv_istore_n (lv' := [(2, .int (0)), (0, .ref (g.2.2 0)), (1, .int (a0))]) hx hb d_M_write_1 rfl hl (by decide) rfl (fun ls hl => ?_)
  obtain ⟨nn, hw⟩ := hw
  exact J2 nn S (a0) (0) _ _ _ hw (lv_sub hl [1, 2, 0] rfl) hP hD hS
theorem d_M_block_0 : decode b_M_block 0 = .ok (.aload_n 0, 1) := by decide +kernel
theorem d_M_block_1 : decode b_M_block 1 = .ok (.iconst 1, 1) := by decide +kernel
theorem d_M_block_2 : decode b_M_block 2 = .ok (.invokevirtual 230, 3) := by decide +kernel
theorem d_M_block_5 : decode b_M_block 5 = .ok (.ifCond .ne 4, 3) := by decide +kernel
theorem d_M_block_8 : decode b_M_block 8 = .ok (.return_, 1) := by decide +kernel
theorem d_M_block_9 : decode b_M_block 9 = .ok (.aload_n 0, 1) := by decide +kernel
theorem d_M_block_10 : decode b_M_block 10 = .ok (.iconst 0, 1) := by decide +kernel
theorem d_M_block_11 : decode b_M_block 11 = .ok (.invokevirtual 234, 3) := by decide +kernel
theorem d_M_block_14 : decode b_M_block 14 = .ok (.istore_n 1, 1) := by decide +kernel
theorem d_M_block_15 : decode b_M_block 15 = .ok (.iload_n 1, 1) := by decide +kernel
theorem d_M_block_16 : decode b_M_block 16 = .ok (.iconst 0, 1) := by decide +kernel
theorem d_M_block_17 : decode b_M_block 17 = .ok (.iconst 3, 1) := by decide +kernel
theorem d_M_block_18 : decode b_M_block 18 = .ok (.invokestatic 212, 3) := by decide +kernel
theorem d_M_block_21 : decode b_M_block 21 = .ok (.ifCond .ne 9, 3) := by decide +kernel
theorem d_M_block_24 : decode b_M_block 24 = .ok (.aload_n 0, 1) := by decide +kernel
theorem d_M_block_25 : decode b_M_block 25 = .ok (.iconst 5, 1) := by decide +kernel
theorem d_M_block_26 : decode b_M_block 26 = .ok (.invokevirtual 196, 3) := by decide +kernel
theorem d_M_block_29 : decode b_M_block 29 = .ok (.return_, 1) := by decide +kernel
theorem d_M_block_30 : decode b_M_block 30 = .ok (.aload_n 0, 1) := by decide +kernel
theorem d_M_block_31 : decode b_M_block 31 = .ok (.getfield 66, 3) := by decide +kernel
theorem d_M_block_34 : decode b_M_block 34 = .ok (.iconst 0, 1) := by decide +kernel
theorem d_M_block_35 : decode b_M_block 35 = .ok (.iaload, 1) := by decide +kernel
theorem d_M_block_36 : decode b_M_block 36 = .ok (.iload_n 1, 1) := by decide +kernel
theorem d_M_block_37 : decode b_M_block 37 = .ok (.if_icmp .ne 7, 3) := by decide +kernel
theorem d_M_block_40 : decode b_M_block 40 = .ok (.iconst 0, 1) := by decide +kernel
theorem d_M_block_41 : decode b_M_block 41 = .ok (.goto 29, 3) := by decide +kernel
theorem d_M_block_44 : decode b_M_block 44 = .ok (.aload_n 0, 1) := by decide +kernel
theorem d_M_block_45 : decode b_M_block 45 = .ok (.getfield 66, 3) := by decide +kernel
theorem d_M_block_48 : decode b_M_block 48 = .ok (.iconst 1, 1) := by decide +kernel
theorem d_M_block_49 : decode b_M_block 49 = .ok (.iaload, 1) := by decide +kernel
theorem d_M_block_50 : decode b_M_block 50 = .ok (.iload_n 1, 1) := by decide +kernel
theorem d_M_block_51 : decode b_M_block 51 = .ok (.if_icmp .ne 7, 3) := by decide +kernel
theorem d_M_block_54 : decode b_M_block 54 = .ok (.iconst 1, 1) := by decide +kernel
theorem d_M_block_55 : decode b_M_block 55 = .ok (.goto 15, 3) := by decide +kernel
theorem d_M_block_58 : decode b_M_block 58 = .ok (.aload_n 0, 1) := by decide +kernel
theorem d_M_block_59 : decode b_M_block 59 = .ok (.getfield 72, 3) := by decide +kernel
theorem d_M_block_62 : decode b_M_block 62 = .ok (.ifCond .ne 7, 3) := by decide +kernel
theorem d_M_block_65 : decode b_M_block 65 = .ok (.iconst 1, 1) := by decide +kernel
theorem d_M_block_66 : decode b_M_block 66 = .ok (.goto 4, 3) := by decide +kernel
theorem d_M_block_69 : decode b_M_block 69 = .ok (.iconst 0, 1) := by decide +kernel
theorem d_M_block_70 : decode b_M_block 70 = .ok (.istore_n 2, 1) := by decide +kernel
theorem d_M_block_71 : decode b_M_block 71 = .ok (.aload_n 0, 1) := by decide +kernel
theorem d_M_block_72 : decode b_M_block 72 = .ok (.getfield 66, 3) := by decide +kernel
theorem d_M_block_75 : decode b_M_block 75 = .ok (.iload_n 2, 1) := by decide +kernel
theorem d_M_block_76 : decode b_M_block 76 = .ok (.iaload, 1) := by decide +kernel
theorem d_M_block_77 : decode b_M_block 77 = .ok (.iload_n 1, 1) := by decide +kernel
theorem d_M_block_78 : decode b_M_block 78 = .ok (.if_icmp .eq 54, 3) := by decide +kernel
theorem d_M_block_81 : decode b_M_block 81 = .ok (.aload_n 0, 1) := by decide +kernel
theorem d_M_block_82 : decode b_M_block 82 = .ok (.iload_n 2, 1) := by decide +kernel
theorem d_M_block_83 : decode b_M_block 83 = .ok (.invokevirtual 295, 3) := by decide +kernel
theorem d_M_block_86 : decode b_M_block 86 = .ok (.aload_n 0, 1) := by decide +kernel
theorem d_M_block_87 : decode b_M_block 87 = .ok (.getfield 66, 3) := by decide +kernel
theorem d_M_block_90 : decode b_M_block 90 = .ok (.iload_n 2, 1) := by decide +kernel
theorem d_M_block_91 : decode b_M_block 91 = .ok (.iload_n 1, 1) := by decide +kernel
theorem d_M_block_92 : decode b_M_block 92 = .ok (.iastore, 1) := by decide +kernel
theorem d_M_block_93 : decode b_M_block 93 = .ok (.iconst 0, 1) := by decide +kernel
theorem d_M_block_94 : decode b_M_block 94 = .ok (.istore_n 3, 1) := by decide +kernel
theorem d_M_block_95 : decode b_M_block 95 = .ok (.iload_n 3, 1) := by decide +kernel
theorem d_M_block_96 : decode b_M_block 96 = .ok (.bipush 16, 2) := by decide +kernel
theorem d_M_block_98 : decode b_M_block 98 = .ok (.if_icmp .ge 34, 3) := by decide +kernel
theorem d_M_block_101 : decode b_M_block 101 = .ok (.aload_n 0, 1) := by decide +kernel
theorem d_M_block_102 : decode b_M_block 102 = .ok (.getfield 19, 3) := by decide +kernel
theorem d_M_block_105 : decode b_M_block 105 = .ok (.bipush 64, 2) := by decide +kernel
theorem d_M_block_107 : decode b_M_block 107 = .ok (.bipush 16, 2) := by decide +kernel
theorem d_M_block_109 : decode b_M_block 109 = .ok (.iload_n 2, 1) := by decide +kernel
theorem d_M_block_110 : decode b_M_block 110 = .ok (.imul, 1) := by decide +kernel
theorem d_M_block_111 : decode b_M_block 111 = .ok (.iadd, 1) := by decide +kernel
theorem d_M_block_112 : decode b_M_block 112 = .ok (.iload_n 3, 1) := by decide +kernel
theorem d_M_block_113 : decode b_M_block 113 = .ok (.iadd, 1) := by decide +kernel
theorem d_M_block_114 : decode b_M_block 114 = .ok (.aload_n 0, 1) := by decide +kernel
theorem d_M_block_115 : decode b_M_block 115 = .ok (.getfield 63, 3) := by decide +kernel
theorem d_M_block_118 : decode b_M_block 118 = .ok (.bipush 16, 2) := by decide +kernel
theorem d_M_block_120 : decode b_M_block 120 = .ok (.iload_n 1, 1) := by decide +kernel
theorem d_M_block_121 : decode b_M_block 121 = .ok (.imul, 1) := by decide +kernel
theorem d_M_block_122 : decode b_M_block 122 = .ok (.iload_n 3, 1) := by decide +kernel
theorem d_M_block_123 : decode b_M_block 123 = .ok (.iadd, 1) := by decide +kernel
theorem d_M_block_124 : decode b_M_block 124 = .ok (.iaload, 1) := by decide +kernel
theorem d_M_block_125 : decode b_M_block 125 = .ok (.iastore, 1) := by decide +kernel
theorem d_M_block_126 : decode b_M_block 126 = .ok (.iinc 3 1, 3) := by decide +kernel
theorem d_M_block_129 : decode b_M_block 129 = .ok (.goto (-34), 3) := by decide +kernel
theorem d_M_block_132 : decode b_M_block 132 = .ok (.aload_n 0, 1) := by decide +kernel
theorem d_M_block_133 : decode b_M_block 133 = .ok (.iload_n 2, 1) := by decide +kernel
theorem d_M_block_134 : decode b_M_block 134 = .ok (.putfield 72, 3) := by decide +kernel
theorem d_M_block_137 : decode b_M_block 137 = .ok (.aload_n 0, 1) := by decide +kernel
theorem d_M_block_138 : decode b_M_block 138 = .ok (.invokevirtual 241, 3) := by decide +kernel
theorem d_M_block_141 : decode b_M_block 141 = .ok (.pop, 1) := by decide +kernel
theorem d_M_block_142 : decode b_M_block 142 = .ok (.aload_n 0, 1) := by decide +kernel
theorem d_M_block_143 : decode b_M_block 143 = .ok (.bipush 64, 2) := by decide +kernel
theorem d_M_block_145 : decode b_M_block 145 = .ok (.bipush 16, 2) := by decide +kernel
theorem d_M_block_147 : decode b_M_block 147 = .ok (.iload_n 2, 1) := by decide +kernel
theorem d_M_block_148 : decode b_M_block 148 = .ok (.imul, 1) := by decide +kernel
theorem d_M_block_149 : decode b_M_block 149 = .ok (.iadd, 1) := by decide +kernel
theorem d_M_block_150 : decode b_M_block 150 = .ok (.invokevirtual 238, 3) := by decide +kernel
theorem d_M_block_153 : decode b_M_block 153 = .ok (.return_, 1) := by decide +kernel
def wq_M_block_132 (post : StM → Prop)  (S : StM) (x2 : Int32) : Prop :=
  wp_M_pop (fun (r2 : Int32) (S1 : StM) => (wp_M_push (fun S3 : StM => (post S3)) S1 ((64 + (16 * x2))))) ((upd S.1 34 (x2)), S.2) 
def wq_M_block_95 (post : StM → Prop)  : Nat → StM → Int32 → Int32 → Int32 → Prop
  | 0, _, _, _, _ => False
  | n95 + 1, S, x1, x2, x3 =>
    ((16 ≤ x3) → wq_M_block_132 post  S (x2)) ∧ (¬ (16 ≤ x3) → (vp_in ((16 * x1) + x3) 64) ∧ ((vp_in ((64 + (16 * x2)) + x3) 96) ∧ ((wq_M_block_95 post  n95) (S.1, (va_up S.2.1 9 (upd (S.2.1 9) (Int32.toNatClampNeg (((64 + (16 * x2)) + x3))) (((S.2.1 31) (Int32.toNatClampNeg (((16 * x1) + x3))))))), S.2.2) (x1) (x2) ((x3 + 1)))))
def wq_M_block_70 (post : StM → Prop)  (S : StM) (x1 : Int32) (t0 : Int32) : Prop :=
  (vp_in t0 2) ∧ (((((S.2.1 32) (Int32.toNatClampNeg (t0))) = x1) → wq_M_block_132 post  S (t0)) ∧ (¬ (((S.2.1 32) (Int32.toNatClampNeg (t0))) = x1) → wp_M_write (fun S4 : StM => ((vp_in t0 2) ∧ (∃ nn : Nat, wq_M_block_95 post  nn (S4.1, (va_up S4.2.1 32 (upd (S4.2.1 32) (Int32.toNatClampNeg (t0)) (x1))), S4.2.2) (x1) (t0) (0)))) S (t0)))
def wp_M_block (post : StM → Prop) (S : StM)  : Prop :=
  wp_M_needs (fun (r6 : Int32) (S5 : StM) => (((r6 = 0) → post S5) ∧ (¬ (r6 = 0) → wp_M_top (fun (r8 : Int32) (S7 : StM) => (wp_M_in (fun (r10 : Int32) (S9 : StM) => (((r10 = 0) → wp_M_fail (fun S11 : StM => (post S11)) S9 (5)) ∧ (¬ (r10 = 0) → (vp_in 0 2) ∧ (((((S9.2.1 32) (Int32.toNatClampNeg (0))) = r8) → wq_M_block_70 post  S9 (r8) (0)) ∧ (¬ (((S9.2.1 32) (Int32.toNatClampNeg (0))) = r8) → (vp_in 1 2) ∧ (((((S9.2.1 32) (Int32.toNatClampNeg (1))) = r8) → wq_M_block_70 post  S9 (r8) (1)) ∧ (¬ (((S9.2.1 32) (Int32.toNatClampNeg (1))) = r8) → (((S9.1 34) = 0) → wq_M_block_70 post  S9 (r8) (1)) ∧ (¬ ((S9.1 34) = 0) → wq_M_block_70 post  S9 (r8) (0))))))))) S7 (r8) (0) (3))) S5 (0)))) S (1)
set_option maxRecDepth 100000 in
set_option maxHeartbeats 4000000 in
theorem c_M_block (l : Launch) (g : Gm) (sz : Nat) (S : StM)  (post : StM → Prop) (hw : wp_M_block post S ) : Met l y_M_block (.code y_M_block b_M_block 4 none :: w_M) (rmM 2 42) (va_Pc [.ref (g.2.2 0)] (PM g sz S)) (va_Qv post (BM g sz) (AM g sz)) 0 0 (AM g sz) := by
  refine ofM_v (by decide) (Nat.le_of_ble_eq_true rfl) (fun p e s m args below meth c Q H locs ls hx hb hml hts hown hK hA kr hl hP hD hS => ?_)
  have hl : lv_has ls 4 [(0, .ref (g.2.2 0))] := hl
  unfold wp_M_block at hw
  have J132 : ∀ (S : StM) (x2 : Int32) (H : Heap) (locs : List Loc) (ls : Array Slot), wq_M_block_132 post  S x2 → lv_has ls 4 [(0, .ref (g.2.2 0)), (2, .int (x2))] → va_P g.1 classes (wM g S) H → va_D (AM g s.heap.size) (wM g S) → va_S (AM g s.heap.size) s.heap H locs → W p l e (rmM 2 42) s m args below meth c H locs 0 0 Q (F0 m 132 ls []) := by
    intro S x2 H locs ls hw hl hP hD hS
    unfold wq_M_block_132 at hw
    refine lv_aload_n hx hb d_M_block_132 rfl (lv_at hl 0 rfl) ?_
    refine lv_iload_n hx hb d_M_block_133 rfl (lv_at hl 1 rfl) ?_
    refine pt_M (S2 := ((upd S.1 34 (x2)), S.2)) (v := .int (x2)) hx hb hown hts hK hP hD hS 34 (by decide) rfl rfl rfl (sI_M_34 g _ _) k_M_140 d_M_block_134 (fun H locs hP hD hS => ?_)
    refine lv_aload_n hx hb d_M_block_137 rfl (lv_at hl 0 rfl) ?_
    refine cM_i (As := []) (rest := []) hx hb hml hown hts hK hP hD hS hA (Nat.zero_le _) (Nat.zero_le _) hl.1 (q_M_pop hts ⟨Nat.le_of_ble_eq_true rfl, Nat.le_of_ble_eq_true rfl⟩) (c_M_pop l g H.size _  _ hw) rfl rfl (Nat.le_of_ble_eq_true rfl) d_M_block_138 (fun r2 S1 H locs hw hP hD hS => ?_)
    refine lv_pop hx hb d_M_block_141 rfl ?_
    refine lv_aload_n hx hb d_M_block_142 rfl (lv_at hl 0 rfl) ?_
    refine lv_bipush (v := 64) hx hb d_M_block_143 (by decide) ?_
    refine lv_bipush (v := 16) hx hb d_M_block_145 (by decide) ?_
    refine lv_iload_n hx hb d_M_block_147 rfl (lv_at hl 1 rfl) ?_
    refine lv_imul hx hb d_M_block_148 ?_
    refine lv_iadd hx hb d_M_block_149 ?_
    refine cM_v (As := [.int ((64 + (16 * x2)))]) (rest := []) hx hb hml hown hts hK hP hD hS hA (Nat.zero_le _) (Nat.zero_le _) hl.1 (q_M_push hts ⟨Nat.le_of_ble_eq_true rfl, Nat.le_of_ble_eq_true rfl⟩) (c_M_push l g H.size _ ((64 + (16 * x2))) _ hw) rfl rfl (Nat.le_of_ble_eq_true rfl) d_M_block_150 (fun S3 H locs hw hP hD hS => ?_)
    exact kr S3 _ _ _ _ hw hP hD hS d_M_block_153
  have J95 : ∀ (n95 : Nat), ∀ (S : StM) (x1 : Int32) (x2 : Int32) (x3 : Int32) (H : Heap) (locs : List Loc) (ls : Array Slot), wq_M_block_95 post  n95 S x1 x2 x3 → lv_has ls 4 [(0, .ref (g.2.2 0)), (1, .int (x1)), (2, .int (x2)), (3, .int (x3))] → va_P g.1 classes (wM g S) H → va_D (AM g s.heap.size) (wM g S) → va_S (AM g s.heap.size) s.heap H locs → W p l e (rmM 2 42) s m args below meth c H locs 0 0 Q (F0 m 95 ls []) := by
    intro n95
    induction n95 with
    | zero => intro S x1 x2 x3 H locs ls hw; exact hw.elim
    | succ n95 ih95 =>
      intro S x1 x2 x3 H locs ls hw hl hP hD hS
      unfold wq_M_block_95 at hw
      refine lv_iload_n hx hb d_M_block_95 rfl (lv_at hl 3 rfl) ?_
      refine lv_bipush (v := 16) hx hb d_M_block_96 (by decide) ?_
      refine lv_icmp_ge hx hb d_M_block_98 (tgt := 132) (by decide) (fun hc => ?_) (fun hc => ?_)
      · have hw := hw.1 hc
        exact J132 S (x2) _ _ _ hw (lv_sub hl [0, 2] rfl) hP hD hS
      · have hw := hw.2 hc
        refine lv_aload_n hx hb d_M_block_101 rfl (lv_at hl 0 rfl) ?_
        refine gt_M (v := .ref (g.2.2 10)) hx hb hown hts hK hP 9 (by decide) rfl k_M_115 d_M_block_102 ?_
        refine lv_bipush (v := 64) hx hb d_M_block_105 (by decide) ?_
        refine lv_bipush (v := 16) hx hb d_M_block_107 (by decide) ?_
        refine lv_iload_n hx hb d_M_block_109 rfl (lv_at hl 2 rfl) ?_
        refine lv_imul hx hb d_M_block_110 ?_
        refine lv_iadd hx hb d_M_block_111 ?_
        refine lv_iload_n hx hb d_M_block_112 rfl (lv_at hl 3 rfl) ?_
        refine lv_iadd hx hb d_M_block_113 ?_
        refine lv_aload_n hx hb d_M_block_114 rfl (lv_at hl 0 rfl) ?_
        refine gt_M (v := .ref (g.2.2 32)) hx hb hown hts hK hP 31 (by decide) rfl k_M_137 d_M_block_115 ?_
        refine lv_bipush (v := 16) hx hb d_M_block_118 (by decide) ?_
        refine lv_iload_n hx hb d_M_block_120 rfl (lv_at hl 1 rfl) ?_
        refine lv_imul hx hb d_M_block_121 ?_
        refine lv_iload_n hx hb d_M_block_122 rfl (lv_at hl 3 rfl) ?_
        refine lv_iadd hx hb d_M_block_123 ?_
        obtain ⟨hi, hw⟩ := hw
        refine va_iald (f := (S.2.1 31)) hx hb hK hP 18 0 rfl rfl hi d_M_block_124 ?_
        obtain ⟨hi, hw⟩ := hw
        refine ia_M (S2 := (S.1, (va_up S.2.1 9 (upd (S.2.1 9) (Int32.toNatClampNeg (((64 + (16 * x2)) + x3))) (((S.2.1 31) (Int32.toNatClampNeg (((16 * x1) + x3))))))), S.2.2)) (f := (S.2.1 9)) hx hb hK hP hD hS 4 rfl hi d_M_block_125 (sA_M_9 g _ _) (fun H locs hP hD hS => ?_)
        refine lv_iinc (k := 3) (v := (x3 + 1)) (lv' := [(3, .int ((x3 + 1))), (0, .ref (g.2.2 0)), (1, .int (x1)), (2, .int (x2))]) hx hb d_M_block_126 hl rfl rfl (by decide) rfl (fun ls hl => ?_)
        refine lv_goto hx hb d_M_block_129 (tgt := 95) (by decide) ?_
        exact ih95 (S.1, (va_up S.2.1 9 (upd (S.2.1 9) (Int32.toNatClampNeg (((64 + (16 * x2)) + x3))) (((S.2.1 31) (Int32.toNatClampNeg (((16 * x1) + x3))))))), S.2.2) (x1) (x2) ((x3 + 1)) _ _ _ hw (lv_sub hl [1, 2, 3, 0] rfl) hP hD hS
  have J70 : ∀ (S : StM) (x1 : Int32) (t0 : Int32) (H : Heap) (locs : List Loc) (ls : Array Slot), wq_M_block_70 post  S x1 t0 → lv_has ls 4 [(0, .ref (g.2.2 0)), (1, .int (x1))] → va_P g.1 classes (wM g S) H → va_D (AM g s.heap.size) (wM g S) → va_S (AM g s.heap.size) s.heap H locs → W p l e (rmM 2 42) s m args below meth c H locs 0 0 Q (F0 m 70 ls [.int (t0)]) := by
    intro S x1 t0 H locs ls hw hl hP hD hS
    unfold wq_M_block_70 at hw
    refine lv_istore_n (lv' := [(2, .int (t0)), (0, .ref (g.2.2 0)), (1, .int (x1))]) hx hb d_M_block_70 rfl hl (by decide) rfl (fun ls hl => ?_)
    refine lv_aload_n hx hb d_M_block_71 rfl (lv_at hl 1 rfl) ?_
    refine gt_M (v := .ref (g.2.2 33)) hx hb hown hts hK hP 32 (by decide) rfl k_M_138 d_M_block_72 ?_
    refine lv_iload_n hx hb d_M_block_75 rfl (lv_at hl 0 rfl) ?_
    obtain ⟨hi, hw⟩ := hw
    refine va_iald (f := (S.2.1 32)) hx hb hK hP 19 0 rfl rfl hi d_M_block_76 ?_
    refine lv_iload_n hx hb d_M_block_77 rfl (lv_at hl 2 rfl) ?_
    refine lv_icmp_eq hx hb d_M_block_78 (tgt := 132) (by decide) (fun hc => ?_) (fun hc => ?_)
    · have hw := hw.1 hc
      exact J132 S (t0) _ _ _ hw (lv_sub hl [1, 0] rfl) hP hD hS
    · have hw := hw.2 hc
      refine lv_aload_n hx hb d_M_block_81 rfl (lv_at hl 1 rfl) ?_
      refine lv_iload_n hx hb d_M_block_82 rfl (lv_at hl 0 rfl) ?_
      refine cM_v (As := [.int (t0)]) (rest := []) hx hb hml hown hts hK hP hD hS hA (Nat.zero_le _) (Nat.zero_le _) hl.1 (q_M_write hts ⟨Nat.le_of_ble_eq_true rfl, Nat.le_of_ble_eq_true rfl⟩) (c_M_write l g H.size _ (t0) _ hw) rfl rfl (Nat.le_of_ble_eq_true rfl) d_M_block_83 (fun S4 H locs hw hP hD hS => ?_)
      refine lv_aload_n hx hb d_M_block_86 rfl (lv_at hl 1 rfl) ?_
      refine gt_M (v := .ref (g.2.2 33)) hx hb hown hts hK hP 32 (by decide) rfl k_M_138 d_M_block_87 ?_
      refine lv_iload_n hx hb d_M_block_90 rfl (lv_at hl 0 rfl) ?_
      refine lv_iload_n hx hb d_M_block_91 rfl (lv_at hl 2 rfl) ?_
      obtain ⟨hi, hw⟩ := hw
      refine ia_M (S2 := (S4.1, (va_up S4.2.1 32 (upd (S4.2.1 32) (Int32.toNatClampNeg (t0)) (x1))), S4.2.2)) (f := (S4.2.1 32)) hx hb hK hP hD hS 19 rfl hi d_M_block_92 (sA_M_32 g _ _) (fun H locs hP hD hS => ?_)
      refine lv_iconst (v := 0) hx hb d_M_block_93 (by decide) ?_
      refine lv_istore_n (lv' := [(3, .int (0)), (2, .int (t0)), (0, .ref (g.2.2 0)), (1, .int (x1))]) hx hb d_M_block_94 rfl hl (by decide) rfl (fun ls hl => ?_)
      obtain ⟨nn, hw⟩ := hw
      exact J95 nn (S4.1, (va_up S4.2.1 32 (upd (S4.2.1 32) (Int32.toNatClampNeg (t0)) (x1))), S4.2.2) (x1) (t0) (0) _ _ _ hw (lv_sub hl [2, 3, 1, 0] rfl) hP hD hS
  refine lv_aload_n hx hb d_M_block_0 rfl (lv_at hl 0 rfl) ?_
  refine lv_iconst (v := 1) hx hb d_M_block_1 (by decide) ?_
  refine cM_i (As := [.int (1)]) (rest := []) hx hb hml hown hts hK hP hD hS hA (Nat.zero_le _) (Nat.zero_le _) hl.1 (q_M_needs hts ⟨Nat.le_of_ble_eq_true rfl, Nat.le_of_ble_eq_true rfl⟩) (c_M_needs l g H.size _ (1) _ hw) rfl rfl (Nat.le_of_ble_eq_true rfl) d_M_block_2 (fun r6 S5 H locs hw hP hD hS => ?_)
  refine lv_if_ne hx hb d_M_block_5 (tgt := 9) (by decide) (fun hc => ?_) (fun hc => ?_)
  · have hw := hw.2 hc
    refine lv_aload_n hx hb d_M_block_9 rfl (lv_at hl 0 rfl) ?_
    refine lv_iconst (v := 0) hx hb d_M_block_10 (by decide) ?_
    refine cM_i (As := [.int (0)]) (rest := []) hx hb hml hown hts hK hP hD hS hA (Nat.zero_le _) (Nat.zero_le _) hl.1 (q_M_top hts ⟨Nat.le_of_ble_eq_true rfl, Nat.le_of_ble_eq_true rfl⟩) (c_M_top l g H.size _ (0) _ hw) rfl rfl (Nat.le_of_ble_eq_true rfl) d_M_block_11 (fun r8 S7 H locs hw hP hD hS => ?_)
    refine lv_istore_n (lv' := [(1, .int (r8)), (0, .ref (g.2.2 0))]) hx hb d_M_block_14 rfl hl (by decide) rfl (fun ls hl => ?_)
    refine lv_iload_n hx hb d_M_block_15 rfl (lv_at hl 0 rfl) ?_
    refine lv_iconst (v := 0) hx hb d_M_block_16 (by decide) ?_
    refine lv_iconst (v := 3) hx hb d_M_block_17 (by decide) ?_
    refine cM_iS (As := [.int (r8), .int (0), .int (3)]) (rest := []) hx hb hml hown hts hK hP hD hS hA (Nat.zero_le _) (Nat.zero_le _) hl.1 (q_M_in hts ⟨Nat.le_of_ble_eq_true rfl, Nat.le_of_ble_eq_true rfl⟩) (c_M_in l g H.size _ (r8) (0) (3) _ hw) rfl rfl (Nat.le_of_ble_eq_true rfl) d_M_block_18 (fun r10 S9 H locs hw hP hD hS => ?_)
    refine lv_if_ne hx hb d_M_block_21 (tgt := 30) (by decide) (fun hc => ?_) (fun hc => ?_)
    · have hw := hw.2 hc
      refine lv_aload_n hx hb d_M_block_30 rfl (lv_at hl 1 rfl) ?_
      refine gt_M (v := .ref (g.2.2 33)) hx hb hown hts hK hP 32 (by decide) rfl k_M_138 d_M_block_31 ?_
      refine lv_iconst (v := 0) hx hb d_M_block_34 (by decide) ?_
      obtain ⟨hi, hw⟩ := hw
      refine va_iald (f := (S9.2.1 32)) hx hb hK hP 19 0 rfl rfl hi d_M_block_35 ?_
      refine lv_iload_n hx hb d_M_block_36 rfl (lv_at hl 0 rfl) ?_
      refine lv_icmp_ne hx hb d_M_block_37 (tgt := 44) (by decide) (fun hc => ?_) (fun hc => ?_)
      · have hw := hw.2 hc
        refine lv_aload_n hx hb d_M_block_44 rfl (lv_at hl 1 rfl) ?_
        refine gt_M (v := .ref (g.2.2 33)) hx hb hown hts hK hP 32 (by decide) rfl k_M_138 d_M_block_45 ?_
        refine lv_iconst (v := 1) hx hb d_M_block_48 (by decide) ?_
        obtain ⟨hi, hw⟩ := hw
        refine va_iald (f := (S9.2.1 32)) hx hb hK hP 19 0 rfl rfl hi d_M_block_49 ?_
        refine lv_iload_n hx hb d_M_block_50 rfl (lv_at hl 0 rfl) ?_
        refine lv_icmp_ne hx hb d_M_block_51 (tgt := 58) (by decide) (fun hc => ?_) (fun hc => ?_)
        · have hw := hw.2 hc
          refine lv_aload_n hx hb d_M_block_58 rfl (lv_at hl 1 rfl) ?_
          refine gt_M (v := .int ((S9.1 34))) hx hb hown hts hK hP 34 (by decide) rfl k_M_140 d_M_block_59 ?_
          refine lv_if_ne hx hb d_M_block_62 (tgt := 69) (by decide) (fun hc => ?_) (fun hc => ?_)
          · have hw := hw.2 hc
            refine lv_iconst (v := 0) hx hb d_M_block_69 (by decide) ?_
            exact J70 S9 (r8) (0) _ _ _ hw (lv_sub hl [1, 0] rfl) hP hD hS
          · have hw := hw.1 hc
            refine lv_iconst (v := 1) hx hb d_M_block_65 (by decide) ?_
            refine lv_goto hx hb d_M_block_66 (tgt := 70) (by decide) ?_
            exact J70 S9 (r8) (1) _ _ _ hw (lv_sub hl [1, 0] rfl) hP hD hS
        · have hw := hw.1 hc
          refine lv_iconst (v := 1) hx hb d_M_block_54 (by decide) ?_
          refine lv_goto hx hb d_M_block_55 (tgt := 70) (by decide) ?_
          exact J70 S9 (r8) (1) _ _ _ hw (lv_sub hl [1, 0] rfl) hP hD hS
      · have hw := hw.1 hc
        refine lv_iconst (v := 0) hx hb d_M_block_40 (by decide) ?_
        refine lv_goto hx hb d_M_block_41 (tgt := 70) (by decide) ?_
        exact J70 S9 (r8) (0) _ _ _ hw (lv_sub hl [1, 0] rfl) hP hD hS
    · have hw := hw.1 hc
      refine lv_aload_n hx hb d_M_block_24 rfl (lv_at hl 1 rfl) ?_
      refine lv_iconst (v := 5) hx hb d_M_block_25 (by decide) ?_
      refine cM_v (As := [.int (5)]) (rest := []) hx hb hml hown hts hK hP hD hS hA (Nat.zero_le _) (Nat.zero_le _) hl.1 (q_M_fail hts ⟨Nat.le_of_ble_eq_true rfl, Nat.le_of_ble_eq_true rfl⟩) (c_M_fail l g H.size _ (5) _ hw) rfl rfl (Nat.le_of_ble_eq_true rfl) d_M_block_26 (fun S11 H locs hw hP hD hS => ?_)
      exact kr S11 _ _ _ _ hw hP hD hS d_M_block_29
  · have hw := hw.1 hc
    exact kr S5 _ _ _ _ hw hP hD hS d_M_block_8
