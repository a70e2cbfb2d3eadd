theorem d_M_shuffle_0 : decode b_M_shuffle 0 = .ok (.aload_n 0, 1) := by decide +kernel
theorem d_M_shuffle_1 : decode b_M_shuffle 1 = .ok (.iload_n 1, 1) := by decide +kernel
theorem d_M_shuffle_2 : decode b_M_shuffle 2 = .ok (.bipush 17, 2) := by decide +kernel
theorem d_M_shuffle_4 : decode b_M_shuffle 4 = .ok (.if_icmp .ne 7, 3) := by decide +kernel
theorem d_M_shuffle_7 : decode b_M_shuffle 7 = .ok (.iconst 0, 1) := by decide +kernel
theorem d_M_shuffle_8 : decode b_M_shuffle 8 = .ok (.goto 29, 3) := by decide +kernel
theorem d_M_shuffle_11 : decode b_M_shuffle 11 = .ok (.iload_n 1, 1) := by decide +kernel
theorem d_M_shuffle_12 : decode b_M_shuffle 12 = .ok (.bipush 16, 2) := by decide +kernel
theorem d_M_shuffle_14 : decode b_M_shuffle 14 = .ok (.if_icmp .ne 7, 3) := by decide +kernel
theorem d_M_shuffle_17 : decode b_M_shuffle 17 = .ok (.iconst 3, 1) := by decide +kernel
theorem d_M_shuffle_18 : decode b_M_shuffle 18 = .ok (.goto 19, 3) := by decide +kernel
theorem d_M_shuffle_21 : decode b_M_shuffle 21 = .ok (.iload_n 1, 1) := by decide +kernel
theorem d_M_shuffle_22 : decode b_M_shuffle 22 = .ok (.bipush 14, 2) := by decide +kernel
theorem d_M_shuffle_24 : decode b_M_shuffle 24 = .ok (.bipush 15, 2) := by decide +kernel
theorem d_M_shuffle_26 : decode b_M_shuffle 26 = .ok (.invokestatic 212, 3) := by decide +kernel
theorem d_M_shuffle_29 : decode b_M_shuffle 29 = .ok (.ifCond .eq 7, 3) := by decide +kernel
theorem d_M_shuffle_32 : decode b_M_shuffle 32 = .ok (.iconst 2, 1) := by decide +kernel
theorem d_M_shuffle_33 : decode b_M_shuffle 33 = .ok (.goto 4, 3) := by decide +kernel
theorem d_M_shuffle_36 : decode b_M_shuffle 36 = .ok (.iconst 1, 1) := by decide +kernel
theorem d_M_shuffle_37 : decode b_M_shuffle 37 = .ok (.invokevirtual 230, 3) := by decide +kernel
theorem d_M_shuffle_40 : decode b_M_shuffle 40 = .ok (.ifCond .ne 4, 3) := by decide +kernel
theorem d_M_shuffle_43 : decode b_M_shuffle 43 = .ok (.return_, 1) := by decide +kernel
theorem d_M_shuffle_44 : decode b_M_shuffle 44 = .ok (.iload_n 1, 1) := by decide +kernel
theorem d_M_shuffle_45 : decode b_M_shuffle 45 = .ok (.bipush 10, 2) := by decide +kernel
theorem d_M_shuffle_47 : decode b_M_shuffle 47 = .ok (.if_icmp .ne 19, 3) := by decide +kernel
theorem d_M_shuffle_50 : decode b_M_shuffle 50 = .ok (.aload_n 0, 1) := by decide +kernel
theorem d_M_shuffle_51 : decode b_M_shuffle 51 = .ok (.aload_n 0, 1) := by decide +kernel
theorem d_M_shuffle_52 : decode b_M_shuffle 52 = .ok (.invokevirtual 241, 3) := by decide +kernel
theorem d_M_shuffle_55 : decode b_M_shuffle 55 = .ok (.ifCond .ne 7, 3) := by decide +kernel
theorem d_M_shuffle_58 : decode b_M_shuffle 58 = .ok (.iconst (-1), 1) := by decide +kernel
theorem d_M_shuffle_59 : decode b_M_shuffle 59 = .ok (.goto 4, 3) := by decide +kernel
theorem d_M_shuffle_62 : decode b_M_shuffle 62 = .ok (.iconst 0, 1) := by decide +kernel
theorem d_M_shuffle_63 : decode b_M_shuffle 63 = .ok (.invokevirtual 238, 3) := by decide +kernel
theorem d_M_shuffle_66 : decode b_M_shuffle 66 = .ok (.iload_n 1, 1) := by decide +kernel
theorem d_M_shuffle_67 : decode b_M_shuffle 67 = .ok (.bipush 11, 2) := by decide +kernel
theorem d_M_shuffle_69 : decode b_M_shuffle 69 = .ok (.if_icmp .ne 12, 3) := by decide +kernel
theorem d_M_shuffle_72 : decode b_M_shuffle 72 = .ok (.aload_n 0, 1) := by decide +kernel
theorem d_M_shuffle_73 : decode b_M_shuffle 73 = .ok (.aload_n 0, 1) := by decide +kernel
theorem d_M_shuffle_74 : decode b_M_shuffle 74 = .ok (.invokevirtual 241, 3) := by decide +kernel
theorem d_M_shuffle_77 : decode b_M_shuffle 77 = .ok (.ineg, 1) := by decide +kernel
theorem d_M_shuffle_78 : decode b_M_shuffle 78 = .ok (.invokevirtual 238, 3) := by decide +kernel
theorem d_M_shuffle_81 : decode b_M_shuffle 81 = .ok (.iload_n 1, 1) := by decide +kernel
theorem d_M_shuffle_82 : decode b_M_shuffle 82 = .ok (.bipush 12, 2) := by decide +kernel
theorem d_M_shuffle_84 : decode b_M_shuffle 84 = .ok (.if_icmp .ne 12, 3) := by decide +kernel
theorem d_M_shuffle_87 : decode b_M_shuffle 87 = .ok (.aload_n 0, 1) := by decide +kernel
theorem d_M_shuffle_88 : decode b_M_shuffle 88 = .ok (.aload_n 0, 1) := by decide +kernel
theorem d_M_shuffle_89 : decode b_M_shuffle 89 = .ok (.iconst 0, 1) := by decide +kernel
theorem d_M_shuffle_90 : decode b_M_shuffle 90 = .ok (.invokevirtual 234, 3) := by decide +kernel
theorem d_M_shuffle_93 : decode b_M_shuffle 93 = .ok (.invokevirtual 238, 3) := by decide +kernel
theorem d_M_shuffle_96 : decode b_M_shuffle 96 = .ok (.iload_n 1, 1) := by decide +kernel
theorem d_M_shuffle_97 : decode b_M_shuffle 97 = .ok (.bipush 13, 2) := by decide +kernel
theorem d_M_shuffle_99 : decode b_M_shuffle 99 = .ok (.if_icmp .ne 8, 3) := by decide +kernel
theorem d_M_shuffle_102 : decode b_M_shuffle 102 = .ok (.aload_n 0, 1) := by decide +kernel
theorem d_M_shuffle_103 : decode b_M_shuffle 103 = .ok (.invokevirtual 241, 3) := by decide +kernel
theorem d_M_shuffle_106 : decode b_M_shuffle 106 = .ok (.pop, 1) := by decide +kernel
theorem d_M_shuffle_107 : decode b_M_shuffle 107 = .ok (.iload_n 1, 1) := by decide +kernel
theorem d_M_shuffle_108 : decode b_M_shuffle 108 = .ok (.bipush 15, 2) := by decide +kernel
theorem d_M_shuffle_110 : decode b_M_shuffle 110 = .ok (.if_icmp .ne 12, 3) := by decide +kernel
theorem d_M_shuffle_113 : decode b_M_shuffle 113 = .ok (.aload_n 0, 1) := by decide +kernel
theorem d_M_shuffle_114 : decode b_M_shuffle 114 = .ok (.aload_n 0, 1) := by decide +kernel
theorem d_M_shuffle_115 : decode b_M_shuffle 115 = .ok (.iconst 1, 1) := by decide +kernel
theorem d_M_shuffle_116 : decode b_M_shuffle 116 = .ok (.invokevirtual 234, 3) := by decide +kernel
theorem d_M_shuffle_119 : decode b_M_shuffle 119 = .ok (.invokevirtual 238, 3) := by decide +kernel
theorem d_M_shuffle_122 : decode b_M_shuffle 122 = .ok (.iload_n 1, 1) := by decide +kernel
theorem d_M_shuffle_123 : decode b_M_shuffle 123 = .ok (.bipush 16, 2) := by decide +kernel
theorem d_M_shuffle_125 : decode b_M_shuffle 125 = .ok (.if_icmp .ne 7, 3) := by decide +kernel
theorem d_M_shuffle_128 : decode b_M_shuffle 128 = .ok (.aload_n 0, 1) := by decide +kernel
theorem d_M_shuffle_129 : decode b_M_shuffle 129 = .ok (.invokevirtual 245, 3) := by decide +kernel
theorem d_M_shuffle_132 : decode b_M_shuffle 132 = .ok (.iload_n 1, 1) := by decide +kernel
theorem d_M_shuffle_133 : decode b_M_shuffle 133 = .ok (.bipush 17, 2) := by decide +kernel
theorem d_M_shuffle_135 : decode b_M_shuffle 135 = .ok (.if_icmp .ne 11, 3) := by decide +kernel
theorem d_M_shuffle_138 : decode b_M_shuffle 138 = .ok (.aload_n 0, 1) := by decide +kernel
theorem d_M_shuffle_139 : decode b_M_shuffle 139 = .ok (.aload_n 0, 1) := by decide +kernel
theorem d_M_shuffle_140 : decode b_M_shuffle 140 = .ok (.getfield 193, 3) := by decide +kernel
theorem d_M_shuffle_143 : decode b_M_shuffle 143 = .ok (.invokevirtual 238, 3) := by decide +kernel
theorem d_M_shuffle_146 : decode b_M_shuffle 146 = .ok (.iload_n 1, 1) := by decide +kernel
theorem d_M_shuffle_147 : decode b_M_shuffle 147 = .ok (.bipush 14, 2) := by decide +kernel
theorem d_M_shuffle_149 : decode b_M_shuffle 149 = .ok (.if_icmp .ne 23, 3) := by decide +kernel
theorem d_M_shuffle_152 : decode b_M_shuffle 152 = .ok (.aload_n 0, 1) := by decide +kernel
theorem d_M_shuffle_153 : decode b_M_shuffle 153 = .ok (.invokevirtual 241, 3) := by decide +kernel
theorem d_M_shuffle_156 : decode b_M_shuffle 156 = .ok (.istore_n 2, 1) := by decide +kernel
theorem d_M_shuffle_157 : decode b_M_shuffle 157 = .ok (.aload_n 0, 1) := by decide +kernel
theorem d_M_shuffle_158 : decode b_M_shuffle 158 = .ok (.invokevirtual 241, 3) := by decide +kernel
theorem d_M_shuffle_161 : decode b_M_shuffle 161 = .ok (.istore_n 3, 1) := by decide +kernel
theorem d_M_shuffle_162 : decode b_M_shuffle 162 = .ok (.aload_n 0, 1) := by decide +kernel
theorem d_M_shuffle_163 : decode b_M_shuffle 163 = .ok (.iload_n 2, 1) := by decide +kernel
theorem d_M_shuffle_164 : decode b_M_shuffle 164 = .ok (.invokevirtual 238, 3) := by decide +kernel
theorem d_M_shuffle_167 : decode b_M_shuffle 167 = .ok (.aload_n 0, 1) := by decide +kernel
theorem d_M_shuffle_168 : decode b_M_shuffle 168 = .ok (.iload_n 3, 1) := by decide +kernel
theorem d_M_shuffle_169 : decode b_M_shuffle 169 = .ok (.invokevirtual 238, 3) := by decide +kernel
theorem d_M_shuffle_172 : decode b_M_shuffle 172 = .ok (.iload_n 1, 1) := by decide +kernel
theorem d_M_shuffle_173 : decode b_M_shuffle 173 = .ok (.bipush 18, 2) := by decide +kernel
theorem d_M_shuffle_175 : decode b_M_shuffle 175 = .ok (.if_icmp .ne 37, 3) := by decide +kernel
theorem d_M_shuffle_178 : decode b_M_shuffle 178 = .ok (.aload_n 0, 1) := by decide +kernel
theorem d_M_shuffle_179 : decode b_M_shuffle 179 = .ok (.invokevirtual 241, 3) := by decide +kernel
theorem d_M_shuffle_182 : decode b_M_shuffle 182 = .ok (.istore_n 2, 1) := by decide +kernel
theorem d_M_shuffle_183 : decode b_M_shuffle 183 = .ok (.aload_n 0, 1) := by decide +kernel
theorem d_M_shuffle_184 : decode b_M_shuffle 184 = .ok (.getfield 248, 3) := by decide +kernel
theorem d_M_shuffle_187 : decode b_M_shuffle 187 = .ok (.bipush 40, 2) := by decide +kernel
theorem d_M_shuffle_189 : decode b_M_shuffle 189 = .ok (.if_icmp .ge 13, 3) := by decide +kernel
theorem d_M_shuffle_192 : decode b_M_shuffle 192 = .ok (.aload_n 0, 1) := by decide +kernel
theorem d_M_shuffle_193 : decode b_M_shuffle 193 = .ok (.getfield 22, 3) := by decide +kernel
theorem d_M_shuffle_196 : decode b_M_shuffle 196 = .ok (.aload_n 0, 1) := by decide +kernel
theorem d_M_shuffle_197 : decode b_M_shuffle 197 = .ok (.getfield 248, 3) := by decide +kernel
theorem d_M_shuffle_200 : decode b_M_shuffle 200 = .ok (.iload_n 2, 1) := by decide +kernel
theorem d_M_shuffle_201 : decode b_M_shuffle 201 = .ok (.iastore, 1) := by decide +kernel
theorem d_M_shuffle_202 : decode b_M_shuffle 202 = .ok (.aload_n 0, 1) := by decide +kernel
theorem d_M_shuffle_203 : decode b_M_shuffle 203 = .ok (.aload_n 0, 1) := by decide +kernel
theorem d_M_shuffle_204 : decode b_M_shuffle 204 = .ok (.getfield 248, 3) := by decide +kernel
theorem d_M_shuffle_207 : decode b_M_shuffle 207 = .ok (.iconst 1, 1) := by decide +kernel
theorem d_M_shuffle_208 : decode b_M_shuffle 208 = .ok (.iadd, 1) := by decide +kernel
theorem d_M_shuffle_209 : decode b_M_shuffle 209 = .ok (.putfield 248, 3) := by decide +kernel
theorem d_M_shuffle_212 : decode b_M_shuffle 212 = .ok (.return_, 1) := by decide +kernel
def wq_M_shuffle_212 (post : StM → Prop)  (S : StM)  : Prop :=
  post S
def wq_M_shuffle_202 (post : StM → Prop)  (S : StM)  : Prop :=
  wq_M_shuffle_212 post  ((upd S.1 11 (((S.1 11) + 1))), S.2) 
def wq_M_shuffle_172 (post : StM → Prop)  (S : StM) (x1 : Int32) : Prop :=
  ((x1 = 18) → wp_M_pop (fun (r2 : Int32) (S1 : StM) => (((40 ≤ (S1.1 11)) → wq_M_shuffle_202 post  S1 ) ∧ (¬ (40 ≤ (S1.1 11)) → (vp_in (S1.1 11) 40) ∧ (wq_M_shuffle_202 post  (S1.1, (va_up S1.2.1 12 (upd (S1.2.1 12) (Int32.toNatClampNeg ((S1.1 11))) (r2))), S1.2.2) )))) S ) ∧ (¬ (x1 = 18) → wq_M_shuffle_212 post  S )
def wq_M_shuffle_146 (post : StM → Prop)  (S : StM) (x1 : Int32) : Prop :=
  ((x1 = 14) → wp_M_pop (fun (r4 : Int32) (S3 : StM) => (wp_M_pop (fun (r6 : Int32) (S5 : StM) => (wp_M_push (fun S7 : StM => (wp_M_push (fun S8 : StM => (wq_M_shuffle_172 post  S8 (x1))) S7 (r6))) S5 (r4))) S3 )) S ) ∧ (¬ (x1 = 14) → wq_M_shuffle_172 post  S (x1))
def wq_M_shuffle_132 (post : StM → Prop)  (S : StM) (x1 : Int32) : Prop :=
  ((x1 = 17) → wp_M_push (fun S9 : StM => (wq_M_shuffle_146 post  S9 (x1))) S ((S.1 6))) ∧ (¬ (x1 = 17) → wq_M_shuffle_146 post  S (x1))
def wq_M_shuffle_122 (post : StM → Prop)  (S : StM) (x1 : Int32) : Prop :=
  ((x1 = 16) → wp_M_rotate (fun S10 : StM => (wq_M_shuffle_132 post  S10 (x1))) S ) ∧ (¬ (x1 = 16) → wq_M_shuffle_132 post  S (x1))
def wq_M_shuffle_107 (post : StM → Prop)  (S : StM) (x1 : Int32) : Prop :=
  ((x1 = 15) → wp_M_top (fun (r12 : Int32) (S11 : StM) => (wp_M_push (fun S13 : StM => (wq_M_shuffle_122 post  S13 (x1))) S11 (r12))) S (1)) ∧ (¬ (x1 = 15) → wq_M_shuffle_122 post  S (x1))
def wq_M_shuffle_96 (post : StM → Prop)  (S : StM) (x1 : Int32) : Prop :=
  ((x1 = 13) → wp_M_pop (fun (r15 : Int32) (S14 : StM) => (wq_M_shuffle_107 post  S14 (x1))) S ) ∧ (¬ (x1 = 13) → wq_M_shuffle_107 post  S (x1))
def wq_M_shuffle_81 (post : StM → Prop)  (S : StM) (x1 : Int32) : Prop :=
  ((x1 = 12) → wp_M_top (fun (r17 : Int32) (S16 : StM) => (wp_M_push (fun S18 : StM => (wq_M_shuffle_96 post  S18 (x1))) S16 (r17))) S (0)) ∧ (¬ (x1 = 12) → wq_M_shuffle_96 post  S (x1))
def wq_M_shuffle_66 (post : StM → Prop)  (S : StM) (x1 : Int32) : Prop :=
  ((x1 = 11) → wp_M_pop (fun (r20 : Int32) (S19 : StM) => (wp_M_push (fun S21 : StM => (wq_M_shuffle_81 post  S21 (x1))) S19 ((-r20)))) S ) ∧ (¬ (x1 = 11) → wq_M_shuffle_81 post  S (x1))
def wq_M_shuffle_63 (post : StM → Prop)  (S : StM) (x1 : Int32) (t0 : Int32) : Prop :=
  wp_M_push (fun S22 : StM => (wq_M_shuffle_66 post  S22 (x1))) S (t0)
def wq_M_shuffle_37 (post : StM → Prop)  (S : StM) (x1 : Int32) (t0 : Int32) : Prop :=
  wp_M_needs (fun (r24 : Int32) (S23 : StM) => (((r24 = 0) → post S23) ∧ (¬ (r24 = 0) → ((x1 = 10) → wp_M_pop (fun (r26 : Int32) (S25 : StM) => (((r26 = 0) → wq_M_shuffle_63 post  S25 (x1) ((-1))) ∧ (¬ (r26 = 0) → wq_M_shuffle_63 post  S25 (x1) (0)))) S23 ) ∧ (¬ (x1 = 10) → wq_M_shuffle_66 post  S23 (x1))))) S (t0)
def wp_M_shuffle (post : StM → Prop) (S : StM) (a0 : Int32) : Prop :=
  ((a0 = 17) → wq_M_shuffle_37 post  S (a0) (0)) ∧ (¬ (a0 = 17) → ((a0 = 16) → wq_M_shuffle_37 post  S (a0) (3)) ∧ (¬ (a0 = 16) → wp_M_in (fun (r28 : Int32) (S27 : StM) => (((r28 = 0) → wq_M_shuffle_37 post  S27 (a0) (1)) ∧ (¬ (r28 = 0) → wq_M_shuffle_37 post  S27 (a0) (2)))) S (a0) (14) (15)))
set_option maxRecDepth 100000 in
set_option maxHeartbeats 4000000 in
theorem c_M_shuffle (l : Launch) (g : Gm) (sz : Nat) (S : StM) (a0 : Int32) (post : StM → Prop) (hw : wp_M_shuffle post S a0) : Met l y_M_shuffle (.code y_M_shuffle b_M_shuffle 4 none :: w_M) (rmM 3 65) (va_Pc [.ref (g.2.2 0), .int (a0)] (PM g sz S)) (va_Qv post (BM g sz) (AM g sz)) 0 0 (AM g sz) := by
  refine ofM_v (by decide) (Nat.le_of_ble_eq_true rfl) (fun p e s m args below meth c Q H locs ls hx hb hml hts hown hK hA kr hl hP hD hS => ?_)
  have hl : lv_has ls 4 [(0, .ref (g.2.2 0)), (1, .int (a0))] := hl
  unfold wp_M_shuffle at hw
  have J212 : ∀ (S : StM)  (H : Heap) (locs : List Loc) (ls : Array Slot), wq_M_shuffle_212 post  S  → lv_has ls 4 [] → va_P g.1 classes (wM g S) H → va_D (AM g s.heap.size) (wM g S) → va_S (AM g s.heap.size) s.heap H locs → W p l e (rmM 3 65) s m args below meth c H locs 0 0 Q (F0 m 212 ls []) := by
    intro S  H locs ls hw hl hP hD hS
    unfold wq_M_shuffle_212 at hw
    exact kr S _ _ _ _ hw hP hD hS d_M_shuffle_212
  have J202 : ∀ (S : StM)  (H : Heap) (locs : List Loc) (ls : Array Slot), wq_M_shuffle_202 post  S  → lv_has ls 4 [(0, .ref (g.2.2 0))] → va_P g.1 classes (wM g S) H → va_D (AM g s.heap.size) (wM g S) → va_S (AM g s.heap.size) s.heap H locs → W p l e (rmM 3 65) s m args below meth c H locs 0 0 Q (F0 m 202 ls []) := by
    intro S  H locs ls hw hl hP hD hS
    unfold wq_M_shuffle_202 at hw
    refine lv_aload_n hx hb d_M_shuffle_202 rfl (lv_at hl 0 rfl) ?_
    refine lv_aload_n hx hb d_M_shuffle_203 rfl (lv_at hl 0 rfl) ?_
    refine gt_M (v := .int ((S.1 11))) hx hb hown hts hK hP 11 (by decide) rfl k_M_117 d_M_shuffle_204 ?_
    refine lv_iconst (v := 1) hx hb d_M_shuffle_207 (by decide) ?_
    refine lv_iadd hx hb d_M_shuffle_208 ?_
    refine pt_M (S2 := ((upd S.1 11 (((S.1 11) + 1))), S.2)) (v := .int (((S.1 11) + 1))) hx hb hown hts hK hP hD hS 11 (by decide) rfl rfl rfl (sI_M_11 g _ _) k_M_117 d_M_shuffle_209 (fun H locs hP hD hS => ?_)
    exact J212 ((upd S.1 11 (((S.1 11) + 1))), S.2)  _ _ _ hw (lv_sub hl [] rfl) hP hD hS
  have J172 : ∀ (S : StM) (x1 : Int32) (H : Heap) (locs : List Loc) (ls : Array Slot), wq_M_shuffle_172 post  S x1 → lv_has ls 4 [(0, .ref (g.2.2 0)), (1, .int (x1))] → va_P g.1 classes (wM g S) H → va_D (AM g s.heap.size) (wM g S) → va_S (AM g s.heap.size) s.heap H locs → W p l e (rmM 3 65) s m args below meth c H locs 0 0 Q (F0 m 172 ls []) := by
    intro S x1 H locs ls hw hl hP hD hS
    unfold wq_M_shuffle_172 at hw
    refine lv_iload_n hx hb d_M_shuffle_172 rfl (lv_at hl 1 rfl) ?_
    refine lv_bipush (v := 18) hx hb d_M_shuffle_173 (by decide) ?_
    refine lv_icmp_ne hx hb d_M_shuffle_175 (tgt := 212) (by decide) (fun hc => ?_) (fun hc => ?_)
    · have hw := hw.2 hc
      exact J212 S  _ _ _ hw (lv_sub hl [] rfl) hP hD hS
    · have hw := hw.1 hc
      refine lv_aload_n hx hb d_M_shuffle_178 rfl (lv_at hl 0 rfl) ?_
      refine cM_i (As := []) (rest := []) hx hb hml hown hts hK hP hD hS hA (Nat.zero_le _) (Nat.zero_le _) hl.1 (q_M_pop hts ⟨Nat.le_of_ble_eq_true rfl, Nat.le_of_ble_eq_true rfl⟩) (c_M_pop l g H.size _  _ hw) rfl rfl (Nat.le_of_ble_eq_true rfl) d_M_shuffle_179 (fun r2 S1 H locs hw hP hD hS => ?_)
      refine lv_istore_n (lv' := [(2, .int (r2)), (0, .ref (g.2.2 0)), (1, .int (x1))]) hx hb d_M_shuffle_182 rfl hl (by decide) rfl (fun ls hl => ?_)
      refine lv_aload_n hx hb d_M_shuffle_183 rfl (lv_at hl 1 rfl) ?_
      refine gt_M (v := .int ((S1.1 11))) hx hb hown hts hK hP 11 (by decide) rfl k_M_117 d_M_shuffle_184 ?_
      refine lv_bipush (v := 40) hx hb d_M_shuffle_187 (by decide) ?_
      refine lv_icmp_ge hx hb d_M_shuffle_189 (tgt := 202) (by decide) (fun hc => ?_) (fun hc => ?_)
      · have hw := hw.1 hc
        exact J202 S1  _ _ _ hw (lv_sub hl [1] rfl) hP hD hS
      · have hw := hw.2 hc
        refine lv_aload_n hx hb d_M_shuffle_192 rfl (lv_at hl 1 rfl) ?_
        refine gt_M (v := .ref (g.2.2 13)) hx hb hown hts hK hP 12 (by decide) rfl k_M_118 d_M_shuffle_193 ?_
        refine lv_aload_n hx hb d_M_shuffle_196 rfl (lv_at hl 1 rfl) ?_
        refine gt_M (v := .int ((S1.1 11))) hx hb hown hts hK hP 11 (by decide) rfl k_M_117 d_M_shuffle_197 ?_
        refine lv_iload_n hx hb d_M_shuffle_200 rfl (lv_at hl 0 rfl) ?_
        obtain ⟨hi, hw⟩ := hw
        refine ia_M (S2 := (S1.1, (va_up S1.2.1 12 (upd (S1.2.1 12) (Int32.toNatClampNeg ((S1.1 11))) (r2))), S1.2.2)) (f := (S1.2.1 12)) hx hb hK hP hD hS 5 rfl hi d_M_shuffle_201 (sA_M_12 g _ _) (fun H locs hP hD hS => ?_)
        exact J202 (S1.1, (va_up S1.2.1 12 (upd (S1.2.1 12) (Int32.toNatClampNeg ((S1.1 11))) (r2))), S1.2.2)  _ _ _ hw (lv_sub hl [1] rfl) hP hD hS
  have J146 : ∀ (S : StM) (x1 : Int32) (H : Heap) (locs : List Loc) (ls : Array Slot), wq_M_shuffle_146 post  S x1 → lv_has ls 4 [(0, .ref (g.2.2 0)), (1, .int (x1))] → va_P g.1 classes (wM g S) H → va_D (AM g s.heap.size) (wM g S) → va_S (AM g s.heap.size) s.heap H locs → W p l e (rmM 3 65) s m args below meth c H locs 0 0 Q (F0 m 146 ls []) := by
    intro S x1 H locs ls hw hl hP hD hS
    unfold wq_M_shuffle_146 at hw
    refine lv_iload_n hx hb d_M_shuffle_146 rfl (lv_at hl 1 rfl) ?_
    refine lv_bipush (v := 14) hx hb d_M_shuffle_147 (by decide) ?_
    refine lv_icmp_ne hx hb d_M_shuffle_149 (tgt := 172) (by decide) (fun hc => ?_) (fun hc => ?_)
    · have hw := hw.2 hc
      exact J172 S (x1) _ _ _ hw (lv_sub hl [0, 1] rfl) hP hD hS
    · have hw := hw.1 hc
      refine lv_aload_n hx hb d_M_shuffle_152 rfl (lv_at hl 0 rfl) ?_
      refine cM_i (As := []) (rest := []) hx hb hml hown hts hK hP hD hS hA (Nat.zero_le _) (Nat.zero_le _) hl.1 (q_M_pop hts ⟨Nat.le_of_ble_eq_true rfl, Nat.le_of_ble_eq_true rfl⟩) (c_M_pop l g H.size _  _ hw) rfl rfl (Nat.le_of_ble_eq_true rfl) d_M_shuffle_153 (fun r4 S3 H locs hw hP hD hS => ?_)
      refine lv_istore_n (lv' := [(2, .int (r4)), (0, .ref (g.2.2 0)), (1, .int (x1))]) hx hb d_M_shuffle_156 rfl hl (by decide) rfl (fun ls hl => ?_)
      refine lv_aload_n hx hb d_M_shuffle_157 rfl (lv_at hl 1 rfl) ?_
      refine cM_i (As := []) (rest := []) hx hb hml hown hts hK hP hD hS hA (Nat.zero_le _) (Nat.zero_le _) hl.1 (q_M_pop hts ⟨Nat.le_of_ble_eq_true rfl, Nat.le_of_ble_eq_true rfl⟩) (c_M_pop l g H.size _  _ hw) rfl rfl (Nat.le_of_ble_eq_true rfl) d_M_shuffle_158 (fun r6 S5 H locs hw hP hD hS => ?_)
      refine lv_istore_n (lv' := [(3, .int (r6)), (2, .int (r4)), (0, .ref (g.2.2 0)), (1, .int (x1))]) hx hb d_M_shuffle_161 rfl hl (by decide) rfl (fun ls hl => ?_)
      refine lv_aload_n hx hb d_M_shuffle_162 rfl (lv_at hl 2 rfl) ?_
      refine lv_iload_n hx hb d_M_shuffle_163 rfl (lv_at hl 1 rfl) ?_
      refine cM_v (As := [.int (r4)]) (rest := []) hx hb hml hown hts hK hP hD hS hA (Nat.zero_le _) (Nat.zero_le _) hl.1 (q_M_push hts ⟨Nat.le_of_ble_eq_true rfl, Nat.le_of_ble_eq_true rfl⟩) (c_M_push l g H.size _ (r4) _ hw) rfl rfl (Nat.le_of_ble_eq_true rfl) d_M_shuffle_164 (fun S7 H locs hw hP hD hS => ?_)
      refine lv_aload_n hx hb d_M_shuffle_167 rfl (lv_at hl 2 rfl) ?_
      refine lv_iload_n hx hb d_M_shuffle_168 rfl (lv_at hl 0 rfl) ?_
      refine cM_v (As := [.int (r6)]) (rest := []) hx hb hml hown hts hK hP hD hS hA (Nat.zero_le _) (Nat.zero_le _) hl.1 (q_M_push hts ⟨Nat.le_of_ble_eq_true rfl, Nat.le_of_ble_eq_true rfl⟩) (c_M_push l g H.size _ (r6) _ hw) rfl rfl (Nat.le_of_ble_eq_true rfl) d_M_shuffle_169 (fun S8 H locs hw hP hD hS => ?_)
      exact J172 S8 (x1) _ _ _ hw (lv_sub hl [2, 3] rfl) hP hD hS
  have J132 : ∀ (S : StM) (x1 : Int32) (H : Heap) (locs : List Loc) (ls : Array Slot), wq_M_shuffle_132 post  S x1 → lv_has ls 4 [(0, .ref (g.2.2 0)), (1, .int (x1))] → va_P g.1 classes (wM g S) H → va_D (AM g s.heap.size) (wM g S) → va_S (AM g s.heap.size) s.heap H locs → W p l e (rmM 3 65) s m args below meth c H locs 0 0 Q (F0 m 132 ls []) := by
    intro S x1 H locs ls hw hl hP hD hS
    unfold wq_M_shuffle_132 at hw
    refine lv_iload_n hx hb d_M_shuffle_132 rfl (lv_at hl 1 rfl) ?_
    refine lv_bipush (v := 17) hx hb d_M_shuffle_133 (by decide) ?_
    refine lv_icmp_ne hx hb d_M_shuffle_135 (tgt := 146) (by decide) (fun hc => ?_) (fun hc => ?_)
    · have hw := hw.2 hc
      exact J146 S (x1) _ _ _ hw (lv_sub hl [0, 1] rfl) hP hD hS
    · have hw := hw.1 hc
      refine lv_aload_n hx hb d_M_shuffle_138 rfl (lv_at hl 0 rfl) ?_
      refine lv_aload_n hx hb d_M_shuffle_139 rfl (lv_at hl 0 rfl) ?_
      refine gt_M (v := .int ((S.1 6))) hx hb hown hts hK hP 6 (by decide) rfl k_M_112 d_M_shuffle_140 ?_
      refine cM_v (As := [.int ((S.1 6))]) (rest := []) hx hb hml hown hts hK hP hD hS hA (Nat.zero_le _) (Nat.zero_le _) hl.1 (q_M_push hts ⟨Nat.le_of_ble_eq_true rfl, Nat.le_of_ble_eq_true rfl⟩) (c_M_push l g H.size _ ((S.1 6)) _ hw) rfl rfl (Nat.le_of_ble_eq_true rfl) d_M_shuffle_143 (fun S9 H locs hw hP hD hS => ?_)
      exact J146 S9 (x1) _ _ _ hw (lv_sub hl [0, 1] rfl) hP hD hS
  have J122 : ∀ (S : StM) (x1 : Int32) (H : Heap) (locs : List Loc) (ls : Array Slot), wq_M_shuffle_122 post  S x1 → lv_has ls 4 [(0, .ref (g.2.2 0)), (1, .int (x1))] → va_P g.1 classes (wM g S) H → va_D (AM g s.heap.size) (wM g S) → va_S (AM g s.heap.size) s.heap H locs → W p l e (rmM 3 65) s m args below meth c H locs 0 0 Q (F0 m 122 ls []) := by
    intro S x1 H locs ls hw hl hP hD hS
    unfold wq_M_shuffle_122 at hw
    refine lv_iload_n hx hb d_M_shuffle_122 rfl (lv_at hl 1 rfl) ?_
    refine lv_bipush (v := 16) hx hb d_M_shuffle_123 (by decide) ?_
    refine lv_icmp_ne hx hb d_M_shuffle_125 (tgt := 132) (by decide) (fun hc => ?_) (fun hc => ?_)
    · have hw := hw.2 hc
      exact J132 S (x1) _ _ _ hw (lv_sub hl [0, 1] rfl) hP hD hS
    · have hw := hw.1 hc
      refine lv_aload_n hx hb d_M_shuffle_128 rfl (lv_at hl 0 rfl) ?_
      refine cM_v (As := []) (rest := []) hx hb hml hown hts hK hP hD hS hA (Nat.zero_le _) (Nat.zero_le _) hl.1 (q_M_rotate hts ⟨Nat.le_of_ble_eq_true rfl, Nat.le_of_ble_eq_true rfl⟩) (c_M_rotate l g H.size _  _ hw) rfl rfl (Nat.le_of_ble_eq_true rfl) d_M_shuffle_129 (fun S10 H locs hw hP hD hS => ?_)
      exact J132 S10 (x1) _ _ _ hw (lv_sub hl [0, 1] rfl) hP hD hS
  have J107 : ∀ (S : StM) (x1 : Int32) (H : Heap) (locs : List Loc) (ls : Array Slot), wq_M_shuffle_107 post  S x1 → lv_has ls 4 [(0, .ref (g.2.2 0)), (1, .int (x1))] → va_P g.1 classes (wM g S) H → va_D (AM g s.heap.size) (wM g S) → va_S (AM g s.heap.size) s.heap H locs → W p l e (rmM 3 65) s m args below meth c H locs 0 0 Q (F0 m 107 ls []) := by
    intro S x1 H locs ls hw hl hP hD hS
    unfold wq_M_shuffle_107 at hw
    refine lv_iload_n hx hb d_M_shuffle_107 rfl (lv_at hl 1 rfl) ?_
    refine lv_bipush (v := 15) hx hb d_M_shuffle_108 (by decide) ?_
    refine lv_icmp_ne hx hb d_M_shuffle_110 (tgt := 122) (by decide) (fun hc => ?_) (fun hc => ?_)
    · have hw := hw.2 hc
      exact J122 S (x1) _ _ _ hw (lv_sub hl [0, 1] rfl) hP hD hS
    · have hw := hw.1 hc
      refine lv_aload_n hx hb d_M_shuffle_113 rfl (lv_at hl 0 rfl) ?_
      refine lv_aload_n hx hb d_M_shuffle_114 rfl (lv_at hl 0 rfl) ?_
      refine lv_iconst (v := 1) hx hb d_M_shuffle_115 (by decide) ?_
      refine cM_i (As := [.int (1)]) (rest := [.ref (g.2.2 0)]) hx hb hml hown hts hK hP hD hS hA (Nat.zero_le _) (Nat.zero_le _) hl.1 (q_M_top hts ⟨Nat.le_of_ble_eq_true rfl, Nat.le_of_ble_eq_true rfl⟩) (c_M_top l g H.size _ (1) _ hw) rfl rfl (Nat.le_of_ble_eq_true rfl) d_M_shuffle_116 (fun r12 S11 H locs hw hP hD hS => ?_)
      refine cM_v (As := [.int (r12)]) (rest := []) hx hb hml hown hts hK hP hD hS hA (Nat.zero_le _) (Nat.zero_le _) hl.1 (q_M_push hts ⟨Nat.le_of_ble_eq_true rfl, Nat.le_of_ble_eq_true rfl⟩) (c_M_push l g H.size _ (r12) _ hw) rfl rfl (Nat.le_of_ble_eq_true rfl) d_M_shuffle_119 (fun S13 H locs hw hP hD hS => ?_)
      exact J122 S13 (x1) _ _ _ hw (lv_sub hl [0, 1] rfl) hP hD hS
  have J96 : ∀ (S : StM) (x1 : Int32) (H : Heap) (locs : List Loc) (ls : Array Slot), wq_M_shuffle_96 post  S x1 → lv_has ls 4 [(0, .ref (g.2.2 0)), (1, .int (x1))] → va_P g.1 classes (wM g S) H → va_D (AM g s.heap.size) (wM g S) → va_S (AM g s.heap.size) s.heap H locs → W p l e (rmM 3 65) s m args below meth c H locs 0 0 Q (F0 m 96 ls []) := by
    intro S x1 H locs ls hw hl hP hD hS
    unfold wq_M_shuffle_96 at hw
    refine lv_iload_n hx hb d_M_shuffle_96 rfl (lv_at hl 1 rfl) ?_
    refine lv_bipush (v := 13) hx hb d_M_shuffle_97 (by decide) ?_
    refine lv_icmp_ne hx hb d_M_shuffle_99 (tgt := 107) (by decide) (fun hc => ?_) (fun hc => ?_)
    · have hw := hw.2 hc
      exact J107 S (x1) _ _ _ hw (lv_sub hl [0, 1] rfl) hP hD hS
    · have hw := hw.1 hc
      refine lv_aload_n hx hb d_M_shuffle_102 rfl (lv_at hl 0 rfl) ?_
      refine cM_i (As := []) (rest := []) hx hb hml hown hts hK hP hD hS hA (Nat.zero_le _) (Nat.zero_le _) hl.1 (q_M_pop hts ⟨Nat.le_of_ble_eq_true rfl, Nat.le_of_ble_eq_true rfl⟩) (c_M_pop l g H.size _  _ hw) rfl rfl (Nat.le_of_ble_eq_true rfl) d_M_shuffle_103 (fun r15 S14 H locs hw hP hD hS => ?_)
      refine lv_pop hx hb d_M_shuffle_106 rfl ?_
      exact J107 S14 (x1) _ _ _ hw (lv_sub hl [0, 1] rfl) hP hD hS
  have J81 : ∀ (S : StM) (x1 : Int32) (H : Heap) (locs : List Loc) (ls : Array Slot), wq_M_shuffle_81 post  S x1 → lv_has ls 4 [(0, .ref (g.2.2 0)), (1, .int (x1))] → va_P g.1 classes (wM g S) H → va_D (AM g s.heap.size) (wM g S) → va_S (AM g s.heap.size) s.heap H locs → W p l e (rmM 3 65) s m args below meth c H locs 0 0 Q (F0 m 81 ls []) := by
    intro S x1 H locs ls hw hl hP hD hS
    unfold wq_M_shuffle_81 at hw
    refine lv_iload_n hx hb d_M_shuffle_81 rfl (lv_at hl 1 rfl) ?_
    refine lv_bipush (v := 12) hx hb d_M_shuffle_82 (by decide) ?_
    refine lv_icmp_ne hx hb d_M_shuffle_84 (tgt := 96) (by decide) (fun hc => ?_) (fun hc => ?_)
    · have hw := hw.2 hc
      exact J96 S (x1) _ _ _ hw (lv_sub hl [0, 1] rfl) hP hD hS
    · have hw := hw.1 hc
      refine lv_aload_n hx hb d_M_shuffle_87 rfl (lv_at hl 0 rfl) ?_
      refine lv_aload_n hx hb d_M_shuffle_88 rfl (lv_at hl 0 rfl) ?_
      refine lv_iconst (v := 0) hx hb d_M_shuffle_89 (by decide) ?_
      refine cM_i (As := [.int (0)]) (rest := [.ref (g.2.2 0)]) hx hb hml hown hts hK hP hD hS hA (Nat.zero_le _) (Nat.zero_le _) hl.1 (q_M_top hts ⟨Nat.le_of_ble_eq_true rfl, Nat.le_of_ble_eq_true rfl⟩) (c_M_top l g H.size _ (0) _ hw) rfl rfl (Nat.le_of_ble_eq_true rfl) d_M_shuffle_90 (fun r17 S16 H locs hw hP hD hS => ?_)
      refine cM_v (As := [.int (r17)]) (rest := []) hx hb hml hown hts hK hP hD hS hA (Nat.zero_le _) (Nat.zero_le _) hl.1 (q_M_push hts ⟨Nat.le_of_ble_eq_true rfl, Nat.le_of_ble_eq_true rfl⟩) (c_M_push l g H.size _ (r17) _ hw) rfl rfl (Nat.le_of_ble_eq_true rfl) d_M_shuffle_93 (fun S18 H locs hw hP hD hS => ?_)
      exact J96 S18 (x1) _ _ _ hw (lv_sub hl [0, 1] rfl) hP hD hS
  have J66 : ∀ (S : StM) (x1 : Int32) (H : Heap) (locs : List Loc) (ls : Array Slot), wq_M_shuffle_66 post  S x1 → lv_has ls 4 [(0, .ref (g.2.2 0)), (1, .int (x1))] → va_P g.1 classes (wM g S) H → va_D (AM g s.heap.size) (wM g S) → va_S (AM g s.heap.size) s.heap H locs → W p l e (rmM 3 65) s m args below meth c H locs 0 0 Q (F0 m 66 ls []) := by
    intro S x1 H locs ls hw hl hP hD hS
    unfold wq_M_shuffle_66 at hw
    refine lv_iload_n hx hb d_M_shuffle_66 rfl (lv_at hl 1 rfl) ?_
    refine lv_bipush (v := 11) hx hb d_M_shuffle_67 (by decide) ?_
    refine lv_icmp_ne hx hb d_M_shuffle_69 (tgt := 81) (by decide) (fun hc => ?_) (fun hc => ?_)
    · have hw := hw.2 hc
      exact J81 S (x1) _ _ _ hw (lv_sub hl [0, 1] rfl) hP hD hS
    · have hw := hw.1 hc
      refine lv_aload_n hx hb d_M_shuffle_72 rfl (lv_at hl 0 rfl) ?_
      refine lv_aload_n hx hb d_M_shuffle_73 rfl (lv_at hl 0 rfl) ?_
      refine cM_i (As := []) (rest := [.ref (g.2.2 0)]) hx hb hml hown hts hK hP hD hS hA (Nat.zero_le _) (Nat.zero_le _) hl.1 (q_M_pop hts ⟨Nat.le_of_ble_eq_true rfl, Nat.le_of_ble_eq_true rfl⟩) (c_M_pop l g H.size _  _ hw) rfl rfl (Nat.le_of_ble_eq_true rfl) d_M_shuffle_74 (fun r20 S19 H locs hw hP hD hS => ?_)
      refine lv_ineg hx hb d_M_shuffle_77 ?_
      refine cM_v (As := [.int ((-r20))]) (rest := []) hx hb hml hown hts hK hP hD hS hA (Nat.zero_le _) (Nat.zero_le _) hl.1 (q_M_push hts ⟨Nat.le_of_ble_eq_true rfl, Nat.le_of_ble_eq_true rfl⟩) (c_M_push l g H.size _ ((-r20)) _ hw) rfl rfl (Nat.le_of_ble_eq_true rfl) d_M_shuffle_78 (fun S21 H locs hw hP hD hS => ?_)
      exact J81 S21 (x1) _ _ _ hw (lv_sub hl [0, 1] rfl) hP hD hS
  have J63 : ∀ (S : StM) (x1 : Int32) (t0 : Int32) (H : Heap) (locs : List Loc) (ls : Array Slot), wq_M_shuffle_63 post  S x1 t0 → lv_has ls 4 [(0, .ref (g.2.2 0)), (1, .int (x1))] → va_P g.1 classes (wM g S) H → va_D (AM g s.heap.size) (wM g S) → va_S (AM g s.heap.size) s.heap H locs → W p l e (rmM 3 65) s m args below meth c H locs 0 0 Q (F0 m 63 ls [.int (t0), .ref (g.2.2 0)]) := by
    intro S x1 t0 H locs ls hw hl hP hD hS
    unfold wq_M_shuffle_63 at hw
    refine cM_v (As := [.int (t0)]) (rest := []) hx hb hml hown hts hK hP hD hS hA (Nat.zero_le _) (Nat.zero_le _) hl.1 (q_M_push hts ⟨Nat.le_of_ble_eq_true rfl, Nat.le_of_ble_eq_true rfl⟩) (c_M_push l g H.size _ (t0) _ hw) rfl rfl (Nat.le_of_ble_eq_true rfl) d_M_shuffle_63 (fun S22 H locs hw hP hD hS => ?_)
    exact J66 S22 (x1) _ _ _ hw (lv_sub hl [0, 1] rfl) hP hD hS
  have J37 : ∀ (S : StM) (x1 : Int32) (t0 : Int32) (H : Heap) (locs : List Loc) (ls : Array Slot), wq_M_shuffle_37 post  S x1 t0 → lv_has ls 4 [(0, .ref (g.2.2 0)), (1, .int (x1))] → va_P g.1 classes (wM g S) H → va_D (AM g s.heap.size) (wM g S) → va_S (AM g s.heap.size) s.heap H locs → W p l e (rmM 3 65) s m args below meth c H locs 0 0 Q (F0 m 37 ls [.int (t0), .ref (g.2.2 0)]) := by
    intro S x1 t0 H locs ls hw hl hP hD hS
    unfold wq_M_shuffle_37 at hw
    refine cM_i (As := [.int (t0)]) (rest := []) hx hb hml hown hts hK hP hD hS hA (Nat.zero_le _) (Nat.zero_le _) hl.1 (q_M_needs hts ⟨Nat.le_of_ble_eq_true rfl, Nat.le_of_ble_eq_true rfl⟩) (c_M_needs l g H.size _ (t0) _ hw) rfl rfl (Nat.le_of_ble_eq_true rfl) d_M_shuffle_37 (fun r24 S23 H locs hw hP hD hS => ?_)
    refine lv_if_ne hx hb d_M_shuffle_40 (tgt := 44) (by decide) (fun hc => ?_) (fun hc => ?_)
    · have hw := hw.2 hc
      refine lv_iload_n hx hb d_M_shuffle_44 rfl (lv_at hl 1 rfl) ?_
      refine lv_bipush (v := 10) hx hb d_M_shuffle_45 (by decide) ?_
      refine lv_icmp_ne hx hb d_M_shuffle_47 (tgt := 66) (by decide) (fun hc => ?_) (fun hc => ?_)
      · have hw := hw.2 hc
        exact J66 S23 (x1) _ _ _ hw (lv_sub hl [0, 1] rfl) hP hD hS
      · have hw := hw.1 hc
        refine lv_aload_n hx hb d_M_shuffle_50 rfl (lv_at hl 0 rfl) ?_
        refine lv_aload_n hx hb d_M_shuffle_51 rfl (lv_at hl 0 rfl) ?_
        refine cM_i (As := []) (rest := [.ref (g.2.2 0)]) hx hb hml hown hts hK hP hD hS hA (Nat.zero_le _) (Nat.zero_le _) hl.1 (q_M_pop hts ⟨Nat.le_of_ble_eq_true rfl, Nat.le_of_ble_eq_true rfl⟩) (c_M_pop l g H.size _  _ hw) rfl rfl (Nat.le_of_ble_eq_true rfl) d_M_shuffle_52 (fun r26 S25 H locs hw hP hD hS => ?_)
        refine lv_if_ne hx hb d_M_shuffle_55 (tgt := 62) (by decide) (fun hc => ?_) (fun hc => ?_)
        · have hw := hw.2 hc
          refine lv_iconst (v := 0) hx hb d_M_shuffle_62 (by decide) ?_
          exact J63 S25 (x1) (0) _ _ _ hw (lv_sub hl [0, 1] rfl) hP hD hS
        · have hw := hw.1 hc
          refine lv_iconst (v := -1) hx hb d_M_shuffle_58 (by decide) ?_
          refine lv_goto hx hb d_M_shuffle_59 (tgt := 63) (by decide) ?_
          exact J63 S25 (x1) ((-1)) _ _ _ hw (lv_sub hl [0, 1] rfl) hP hD hS
    · have hw := hw.1 hc
      exact kr S23 _ _ _ _ hw hP hD hS d_M_shuffle_43
  refine lv_aload_n hx hb d_M_shuffle_0 rfl (lv_at hl 0 rfl) ?_
  refine lv_iload_n hx hb d_M_shuffle_1 rfl (lv_at hl 1 rfl) ?_
  refine lv_bipush (v := 17) hx hb d_M_shuffle_2 (by decide) ?_
  refine lv_icmp_ne hx hb d_M_shuffle_4 (tgt := 11) (by decide) (fun hc => ?_) (fun hc => ?_)
  · have hw := hw.2 hc
    refine lv_iload_n hx hb d_M_shuffle_11 rfl (lv_at hl 1 rfl) ?_
    refine lv_bipush (v := 16) hx hb d_M_shuffle_12 (by decide) ?_
    refine lv_icmp_ne hx hb d_M_shuffle_14 (tgt := 21) (by decide) (fun hc => ?_) (fun hc => ?_)
    · have hw := hw.2 hc
      refine lv_iload_n hx hb d_M_shuffle_21 rfl (lv_at hl 1 rfl) ?_
      refine lv_bipush (v := 14) hx hb d_M_shuffle_22 (by decide) ?_
      refine lv_bipush (v := 15) hx hb d_M_shuffle_24 (by decide) ?_
      refine cM_iS (As := [.int (a0), .int (14), .int (15)]) (rest := [.ref (g.2.2 0)]) hx hb hml hown hts hK hP hD hS hA (Nat.zero_le _) (Nat.zero_le _) hl.1 (q_M_in hts ⟨Nat.le_of_ble_eq_true rfl, Nat.le_of_ble_eq_true rfl⟩) (c_M_in l g H.size _ (a0) (14) (15) _ hw) rfl rfl (Nat.le_of_ble_eq_true rfl) d_M_shuffle_26 (fun r28 S27 H locs hw hP hD hS => ?_)
      refine lv_if_eq hx hb d_M_shuffle_29 (tgt := 36) (by decide) (fun hc => ?_) (fun hc => ?_)
      · have hw := hw.1 hc
        refine lv_iconst (v := 1) hx hb d_M_shuffle_36 (by decide) ?_
        exact J37 S27 (a0) (1) _ _ _ hw (lv_sub hl [0, 1] rfl) hP hD hS
      · have hw := hw.2 hc
        refine lv_iconst (v := 2) hx hb d_M_shuffle_32 (by decide) ?_
        refine lv_goto hx hb d_M_shuffle_33 (tgt := 37) (by decide) ?_
        exact J37 S27 (a0) (2) _ _ _ hw (lv_sub hl [0, 1] rfl) hP hD hS
    · have hw := hw.1 hc
      refine lv_iconst (v := 3) hx hb d_M_shuffle_17 (by decide) ?_
      refine lv_goto hx hb d_M_shuffle_18 (tgt := 37) (by decide) ?_
      exact J37 S (a0) (3) _ _ _ hw (lv_sub hl [0, 1] rfl) hP hD hS
  · have hw := hw.1 hc
    refine lv_iconst (v := 0) hx hb d_M_shuffle_7 (by decide) ?_
    refine lv_goto hx hb d_M_shuffle_8 (tgt := 37) (by decide) ?_
    exact J37 S (a0) (0) _ _ _ hw (lv_sub hl [0, 1] rfl) hP hD hS
theorem d_M_store_0 : decode b_M_store 0 = .ok (.aload_n 0, 1) := by decide +kernel
theorem d_M_store_1 : decode b_M_store 1 = .ok (.iload_n 1, 1) := by decide +kernel
theorem d_M_store_2 : decode b_M_store 2 = .ok (.bipush 22, 2) := by decide +kernel
theorem d_M_store_4 : decode b_M_store 4 = .ok (.if_icmp .ne 7, 3) := by decide +kernel
theorem d_M_store_7 : decode b_M_store 7 = .ok (.iconst 0, 1) := by decide +kernel
theorem d_M_store_8 : decode b_M_store 8 = .ok (.goto 19, 3) := by decide +kernel
theorem d_M_store_11 : decode b_M_store 11 = .ok (.iload_n 1, 1) := by decide +kernel
theorem d_M_store_12 : decode b_M_store 12 = .ok (.bipush 20, 2) := by decide +kernel
theorem d_M_store_14 : decode b_M_store 14 = .ok (.bipush 21, 2) := by decide +kernel
theorem d_M_store_16 : decode b_M_store 16 = .ok (.invokestatic 212, 3) := by decide +kernel
theorem d_M_store_19 : decode b_M_store 19 = .ok (.ifCond .eq 7, 3) := by decide +kernel
theorem d_M_store_22 : decode b_M_store 22 = .ok (.iconst 2, 1) := by decide +kernel
theorem d_M_store_23 : decode b_M_store 23 = .ok (.goto 4, 3) := by decide +kernel
theorem d_M_store_26 : decode b_M_store 26 = .ok (.iconst 1, 1) := by decide +kernel
theorem d_M_store_27 : decode b_M_store 27 = .ok (.invokevirtual 230, 3) := by decide +kernel
theorem d_M_store_30 : decode b_M_store 30 = .ok (.ifCond .ne 4, 3) := by decide +kernel
theorem d_M_store_33 : decode b_M_store 33 = .ok (.return_, 1) := by decide +kernel
theorem d_M_store_34 : decode b_M_store 34 = .ok (.iload_n 1, 1) := by decide +kernel
theorem d_M_store_35 : decode b_M_store 35 = .ok (.bipush 19, 2) := by decide +kernel
theorem d_M_store_37 : decode b_M_store 37 = .ok (.bipush 21, 2) := by decide +kernel
theorem d_M_store_39 : decode b_M_store 39 = .ok (.invokestatic 212, 3) := by decide +kernel
theorem d_M_store_42 : decode b_M_store 42 = .ok (.ifCond .eq 25, 3) := by decide +kernel
theorem d_M_store_45 : decode b_M_store 45 = .ok (.aload_n 0, 1) := by decide +kernel
theorem d_M_store_46 : decode b_M_store 46 = .ok (.iconst 0, 1) := by decide +kernel
theorem d_M_store_47 : decode b_M_store 47 = .ok (.invokevirtual 234, 3) := by decide +kernel
theorem d_M_store_50 : decode b_M_store 50 = .ok (.iconst 0, 1) := by decide +kernel
theorem d_M_store_51 : decode b_M_store 51 = .ok (.bipush 95, 2) := by decide +kernel
theorem d_M_store_53 : decode b_M_store 53 = .ok (.invokestatic 212, 3) := by decide +kernel
theorem d_M_store_56 : decode b_M_store 56 = .ok (.ifCond .ne 11, 3) := by decide +kernel
theorem d_M_store_59 : decode b_M_store 59 = .ok (.aload_n 0, 1) := by decide +kernel
theorem d_M_store_60 : decode b_M_store 60 = .ok (.iconst 5, 1) := by decide +kernel
theorem d_M_store_61 : decode b_M_store 61 = .ok (.invokevirtual 196, 3) := by decide +kernel
theorem d_M_store_64 : decode b_M_store 64 = .ok (.goto 183, 3) := by decide +kernel
theorem d_M_store_67 : decode b_M_store 67 = .ok (.iload_n 1, 1) := by decide +kernel
theorem d_M_store_68 : decode b_M_store 68 = .ok (.bipush 19, 2) := by decide +kernel
theorem d_M_store_70 : decode b_M_store 70 = .ok (.if_icmp .ne 19, 3) := by decide +kernel
theorem d_M_store_73 : decode b_M_store 73 = .ok (.aload_n 0, 1) := by decide +kernel
theorem d_M_store_74 : decode b_M_store 74 = .ok (.aload_n 0, 1) := by decide +kernel
theorem d_M_store_75 : decode b_M_store 75 = .ok (.getfield 19, 3) := by decide +kernel
theorem d_M_store_78 : decode b_M_store 78 = .ok (.aload_n 0, 1) := by decide +kernel
theorem d_M_store_79 : decode b_M_store 79 = .ok (.invokevirtual 241, 3) := by decide +kernel
theorem d_M_store_82 : decode b_M_store 82 = .ok (.iaload, 1) := by decide +kernel
theorem d_M_store_83 : decode b_M_store 83 = .ok (.invokevirtual 238, 3) := by decide +kernel
theorem d_M_store_86 : decode b_M_store 86 = .ok (.goto 161, 3) := by decide +kernel
theorem d_M_store_89 : decode b_M_store 89 = .ok (.iload_n 1, 1) := by decide +kernel
theorem d_M_store_90 : decode b_M_store 90 = .ok (.bipush 20, 2) := by decide +kernel
theorem d_M_store_92 : decode b_M_store 92 = .ok (.bipush 21, 2) := by decide +kernel
theorem d_M_store_94 : decode b_M_store 94 = .ok (.invokestatic 212, 3) := by decide +kernel
theorem d_M_store_97 : decode b_M_store 97 = .ok (.ifCond .eq 40, 3) := by decide +kernel
theorem d_M_store_100 : decode b_M_store 100 = .ok (.aload_n 0, 1) := by decide +kernel
theorem d_M_store_101 : decode b_M_store 101 = .ok (.invokevirtual 241, 3) := by decide +kernel
theorem d_M_store_104 : decode b_M_store 104 = .ok (.istore_n 2, 1) := by decide +kernel
theorem d_M_store_105 : decode b_M_store 105 = .ok (.aload_n 0, 1) := by decide +kernel
theorem d_M_store_106 : decode b_M_store 106 = .ok (.invokevirtual 241, 3) := by decide +kernel
theorem d_M_store_109 : decode b_M_store 109 = .ok (.istore_n 3, 1) := by decide +kernel
theorem d_M_store_110 : decode b_M_store 110 = .ok (.aload_n 0, 1) := by decide +kernel
theorem d_M_store_111 : decode b_M_store 111 = .ok (.getfield 19, 3) := by decide +kernel
theorem d_M_store_114 : decode b_M_store 114 = .ok (.iload_n 2, 1) := by decide +kernel
theorem d_M_store_115 : decode b_M_store 115 = .ok (.iload_n 1, 1) := by decide +kernel
theorem d_M_store_116 : decode b_M_store 116 = .ok (.bipush 20, 2) := by decide +kernel
theorem d_M_store_118 : decode b_M_store 118 = .ok (.if_icmp .ne 7, 3) := by decide +kernel
theorem d_M_store_121 : decode b_M_store 121 = .ok (.iload_n 3, 1) := by decide +kernel
theorem d_M_store_122 : decode b_M_store 122 = .ok (.goto 11, 3) := by decide +kernel
theorem d_M_store_125 : decode b_M_store 125 = .ok (.aload_n 0, 1) := by decide +kernel
theorem d_M_store_126 : decode b_M_store 126 = .ok (.getfield 19, 3) := by decide +kernel
theorem d_M_store_129 : decode b_M_store 129 = .ok (.iload_n 2, 1) := by decide +kernel
theorem d_M_store_130 : decode b_M_store 130 = .ok (.iaload, 1) := by decide +kernel
theorem d_M_store_131 : decode b_M_store 131 = .ok (.iload_n 3, 1) := by decide +kernel
theorem d_M_store_132 : decode b_M_store 132 = .ok (.iadd, 1) := by decide +kernel
theorem d_M_store_133 : decode b_M_store 133 = .ok (.iastore, 1) := by decide +kernel
theorem d_M_store_134 : decode b_M_store 134 = .ok (.goto 113, 3) := by decide +kernel
theorem d_M_store_137 : decode b_M_store 137 = .ok (.iload_n 1, 1) := by decide +kernel
theorem d_M_store_138 : decode b_M_store 138 = .ok (.bipush 22, 2) := by decide +kernel
theorem d_M_store_140 : decode b_M_store 140 = .ok (.if_icmp .ne 14, 3) := by decide +kernel
theorem d_M_store_143 : decode b_M_store 143 = .ok (.aload_n 0, 1) := by decide +kernel
theorem d_M_store_144 : decode b_M_store 144 = .ok (.aload_n 0, 1) := by decide +kernel
theorem d_M_store_145 : decode b_M_store 145 = .ok (.getfield 251, 3) := by decide +kernel
theorem d_M_store_148 : decode b_M_store 148 = .ok (.invokevirtual 238, 3) := by decide +kernel
theorem d_M_store_151 : decode b_M_store 151 = .ok (.goto 96, 3) := by decide +kernel
theorem d_M_store_154 : decode b_M_store 154 = .ok (.iload_n 1, 1) := by decide +kernel
theorem d_M_store_155 : decode b_M_store 155 = .ok (.bipush 23, 2) := by decide +kernel
theorem d_M_store_157 : decode b_M_store 157 = .ok (.if_icmp .ne 46, 3) := by decide +kernel
theorem d_M_store_160 : decode b_M_store 160 = .ok (.aload_n 0, 1) := by decide +kernel
theorem d_M_store_161 : decode b_M_store 161 = .ok (.getfield 251, 3) := by decide +kernel
theorem d_M_store_164 : decode b_M_store 164 = .ok (.bipush 64, 2) := by decide +kernel
theorem d_M_store_166 : decode b_M_store 166 = .ok (.if_icmp .lt 11, 3) := by decide +kernel
theorem d_M_store_169 : decode b_M_store 169 = .ok (.aload_n 0, 1) := by decide +kernel
theorem d_M_store_170 : decode b_M_store 170 = .ok (.iconst 3, 1) := by decide +kernel
theorem d_M_store_171 : decode b_M_store 171 = .ok (.invokevirtual 196, 3) := by decide +kernel
theorem d_M_store_174 : decode b_M_store 174 = .ok (.goto 73, 3) := by decide +kernel
theorem d_M_store_177 : decode b_M_store 177 = .ok (.aload_n 0, 1) := by decide +kernel
theorem d_M_store_178 : decode b_M_store 178 = .ok (.getfield 19, 3) := by decide +kernel
theorem d_M_store_181 : decode b_M_store 181 = .ok (.aload_n 0, 1) := by decide +kernel
theorem d_M_store_182 : decode b_M_store 182 = .ok (.getfield 251, 3) := by decide +kernel
theorem d_M_store_185 : decode b_M_store 185 = .ok (.aload_n 0, 1) := by decide +kernel
theorem d_M_store_186 : decode b_M_store 186 = .ok (.invokevirtual 241, 3) := by decide +kernel
theorem d_M_store_189 : decode b_M_store 189 = .ok (.iastore, 1) := by decide +kernel
theorem d_M_store_190 : decode b_M_store 190 = .ok (.aload_n 0, 1) := by decide +kernel
theorem d_M_store_191 : decode b_M_store 191 = .ok (.aload_n 0, 1) := by decide +kernel
theorem d_M_store_192 : decode b_M_store 192 = .ok (.getfield 251, 3) := by decide +kernel
theorem d_M_store_195 : decode b_M_store 195 = .ok (.iconst 1, 1) := by decide +kernel
theorem d_M_store_196 : decode b_M_store 196 = .ok (.iadd, 1) := by decide +kernel
theorem d_M_store_197 : decode b_M_store 197 = .ok (.putfield 251, 3) := by decide +kernel
theorem d_M_store_200 : decode b_M_store 200 = .ok (.goto 47, 3) := by decide +kernel
theorem d_M_store_203 : decode b_M_store 203 = .ok (.aload_n 0, 1) := by decide +kernel
theorem d_M_store_204 : decode b_M_store 204 = .ok (.iconst 0, 1) := by decide +kernel
theorem d_M_store_205 : decode b_M_store 205 = .ok (.invokevirtual 234, 3) := by decide +kernel
theorem d_M_store_208 : decode b_M_store 208 = .ok (.aload_n 0, 1) := by decide +kernel
theorem d_M_store_209 : decode b_M_store 209 = .ok (.getfield 251, 3) := by decide +kernel
theorem d_M_store_212 : decode b_M_store 212 = .ok (.ineg, 1) := by decide +kernel
theorem d_M_store_213 : decode b_M_store 213 = .ok (.bipush 64, 2) := by decide +kernel
theorem d_M_store_215 : decode b_M_store 215 = .ok (.aload_n 0, 1) := by decide +kernel
theorem d_M_store_216 : decode b_M_store 216 = .ok (.getfield 251, 3) := by decide +kernel
theorem d_M_store_219 : decode b_M_store 219 = .ok (.isub, 1) := by decide +kernel
theorem d_M_store_220 : decode b_M_store 220 = .ok (.invokestatic 212, 3) := by decide +kernel
theorem d_M_store_223 : decode b_M_store 223 = .ok (.ifCond .ne 11, 3) := by decide +kernel
theorem d_M_store_226 : decode b_M_store 226 = .ok (.aload_n 0, 1) := by decide +kernel
theorem d_M_store_227 : decode b_M_store 227 = .ok (.iconst 3, 1) := by decide +kernel
theorem d_M_store_228 : decode b_M_store 228 = .ok (.invokevirtual 196, 3) := by decide +kernel
theorem d_M_store_231 : decode b_M_store 231 = .ok (.goto 16, 3) := by decide +kernel
theorem d_M_store_234 : decode b_M_store 234 = .ok (.aload_n 0, 1) := by decide +kernel
theorem d_M_store_235 : decode b_M_store 235 = .ok (.aload_n 0, 1) := by decide +kernel
theorem d_M_store_236 : decode b_M_store 236 = .ok (.getfield 251, 3) := by decide +kernel
theorem d_M_store_239 : decode b_M_store 239 = .ok (.aload_n 0, 1) := by decide +kernel
theorem d_M_store_240 : decode b_M_store 240 = .ok (.invokevirtual 241, 3) := by decide +kernel
theorem d_M_store_243 : decode b_M_store 243 = .ok (.iadd, 1) := by decide +kernel
theorem d_M_store_244 : decode b_M_store 244 = .ok (.putfield 251, 3) := by decide +kernel
theorem d_M_store_247 : decode b_M_store 247 = .ok (.return_, 1) := by decide +kernel
def wq_M_store_247 (post : StM → Prop)  (S : StM)  : Prop :=
  post S
def wq_M_store_133 (post : StM → Prop)  (S : StM) (t0 : Int32) (t1 : Int32) : Prop :=
  (vp_in t1 96) ∧ (wq_M_store_247 post  (S.1, (va_up S.2.1 9 (upd (S.2.1 9) (Int32.toNatClampNeg (t1)) (t0))), S.2.2) )
def wq_M_store_67 (post : StM → Prop)  (S : StM) (x1 : Int32) : Prop :=
  ((x1 = 19) → wp_M_pop (fun (r19 : Int32) (S18 : StM) => ((vp_in r19 96) ∧ (wp_M_push (fun S20 : StM => (wq_M_store_247 post  S20 )) S18 (((S18.2.1 9) (Int32.toNatClampNeg (r19))))))) S ) ∧ (¬ (x1 = 19) → wp_M_in (fun (r2 : Int32) (S1 : StM) => (((r2 = 0) → ((x1 = 22) → wp_M_push (fun S13 : StM => (wq_M_store_247 post  S13 )) S1 ((S1.1 10))) ∧ (¬ (x1 = 22) → ((x1 = 23) → (((S1.1 10) < 64) → wp_M_pop (fun (r11 : Int32) (S10 : StM) => ((vp_in (S1.1 10) 96) ∧ (wq_M_store_247 post  ((upd S10.1 10 (((S10.1 10) + 1))), (va_up S10.2.1 9 (upd (S10.2.1 9) (Int32.toNatClampNeg ((S1.1 10))) (r11))), S10.2.2) ))) S1 ) ∧ (¬ ((S1.1 10) < 64) → wp_M_fail (fun S12 : StM => (wq_M_store_247 post  S12 )) S1 (3))) ∧ (¬ (x1 = 23) → wp_M_top (fun (r4 : Int32) (S3 : StM) => (wp_M_in (fun (r6 : Int32) (S5 : StM) => (((r6 = 0) → wp_M_fail (fun S9 : StM => (wq_M_store_247 post  S9 )) S5 (3)) ∧ (¬ (r6 = 0) → wp_M_pop (fun (r8 : Int32) (S7 : StM) => (wq_M_store_247 post  ((upd S7.1 10 (((S5.1 10) + r8))), S7.2) )) S5 ))) S3 (r4) ((-(S3.1 10))) ((64 - (S3.1 10))))) S1 (0)))) ∧ (¬ (r2 = 0) → wp_M_pop (fun (r15 : Int32) (S14 : StM) => (wp_M_pop (fun (r17 : Int32) (S16 : StM) => (((x1 = 20) → wq_M_store_133 post  S16 (r17) (r15)) ∧ (¬ (x1 = 20) → (vp_in r15 96) ∧ (wq_M_store_133 post  S16 ((((S16.2.1 9) (Int32.toNatClampNeg (r15))) + r17)) (r15))))) S14 )) S1 ))) S (x1) (20) (21))
def wq_M_store_27 (post : StM → Prop)  (S : StM) (x1 : Int32) (t0 : Int32) : Prop :=
  wp_M_needs (fun (r22 : Int32) (S21 : StM) => (((r22 = 0) → post S21) ∧ (¬ (r22 = 0) → wp_M_in (fun (r24 : Int32) (S23 : StM) => (((r24 = 0) → wq_M_store_67 post  S23 (x1)) ∧ (¬ (r24 = 0) → wp_M_top (fun (r26 : Int32) (S25 : StM) => (wp_M_in (fun (r28 : Int32) (S27 : StM) => (((r28 = 0) → wp_M_fail (fun S29 : StM => (wq_M_store_247 post  S29 )) S27 (5)) ∧ (¬ (r28 = 0) → wq_M_store_67 post  S27 (x1)))) S25 (r26) (0) (95))) S23 (0)))) S21 (x1) (19) (21)))) S (t0)
def wp_M_store (post : StM → Prop) (S : StM) (a0 : Int32) : Prop :=
  ((a0 = 22) → wq_M_store_27 post  S (a0) (0)) ∧ (¬ (a0 = 22) → wp_M_in (fun (r31 : Int32) (S30 : StM) => (((r31 = 0) → wq_M_store_27 post  S30 (a0) (1)) ∧ (¬ (r31 = 0) → wq_M_store_27 post  S30 (a0) (2)))) S (a0) (20) (21))
set_option maxRecDepth 100000 in
set_option maxHeartbeats 4000000 in
theorem c_M_store (l : Launch) (g : Gm) (sz : Nat) (S : StM) (a0 : Int32) (post : StM → Prop) (hw : wp_M_store post S a0) : Met l y_M_store (.code y_M_store b_M_store 4 none :: w_M) (rmM 2 42) (va_Pc [.ref (g.2.2 0), .int (a0)] (PM g sz S)) (va_Qv post (BM g sz) (AM g sz)) 0 0 (AM g sz) := by
  refine ofM_v (by decide) (Nat.le_of_ble_eq_true rfl) (fun p e s m args below meth c Q H locs ls hx hb hml hts hown hK hA kr hl hP hD hS => ?_)
  have hl : lv_has ls 4 [(0, .ref (g.2.2 0)), (1, .int (a0))] := hl
  unfold wp_M_store at hw
  have J247 : ∀ (S : StM)  (H : Heap) (locs : List Loc) (ls : Array Slot), wq_M_store_247 post  S  → lv_has ls 4 [] → va_P g.1 classes (wM g S) H → va_D (AM g s.heap.size) (wM g S) → va_S (AM g s.heap.size) s.heap H locs → W p l e (rmM 2 42) s m args below meth c H locs 0 0 Q (F0 m 247 ls []) := by
    intro S  H locs ls hw hl hP hD hS
    unfold wq_M_store_247 at hw
    exact kr S _ _ _ _ hw hP hD hS d_M_store_247
  have J133 : ∀ (S : StM) (t0 : Int32) (t1 : Int32) (H : Heap) (locs : List Loc) (ls : Array Slot), wq_M_store_133 post  S t0 t1 → lv_has ls 4 [] → va_P g.1 classes (wM g S) H → va_D (AM g s.heap.size) (wM g S) → va_S (AM g s.heap.size) s.heap H locs → W p l e (rmM 2 42) s m args below meth c H locs 0 0 Q (F0 m 133 ls [.int (t0), .int (t1), .ref (g.2.2 10)]) := by
    intro S t0 t1 H locs ls hw hl hP hD hS
    unfold wq_M_store_133 at hw
    obtain ⟨hi, hw⟩ := hw
    refine ia_M (S2 := (S.1, (va_up S.2.1 9 (upd (S.2.1 9) (Int32.toNatClampNeg (t1)) (t0))), S.2.2)) (f := (S.2.1 9)) hx hb hK hP hD hS 4 rfl hi d_M_store_133 (sA_M_9 g _ _) (fun H locs hP hD hS => ?_)
    refine lv_goto hx hb d_M_store_134 (tgt := 247) (by decide) ?_
    exact J247 (S.1, (va_up S.2.1 9 (upd (S.2.1 9) (Int32.toNatClampNeg (t1)) (t0))), S.2.2)  _ _ _ hw (lv_sub hl [] rfl) hP hD hS
  have J67 : ∀ (S : StM) (x1 : Int32) (H : Heap) (locs : List Loc) (ls : Array Slot), wq_M_store_67 post  S x1 → lv_has ls 4 [(0, .ref (g.2.2 0)), (1, .int (x1))] → va_P g.1 classes (wM g S) H → va_D (AM g s.heap.size) (wM g S) → va_S (AM g s.heap.size) s.heap H locs → W p l e (rmM 2 42) s m args below meth c H locs 0 0 Q (F0 m 67 ls []) := by
    intro S x1 H locs ls hw hl hP hD hS
    unfold wq_M_store_67 at hw
    refine lv_iload_n hx hb d_M_store_67 rfl (lv_at hl 1 rfl) ?_
    refine lv_bipush (v := 19) hx hb d_M_store_68 (by decide) ?_
    refine lv_icmp_ne hx hb d_M_store_70 (tgt := 89) (by decide) (fun hc => ?_) (fun hc => ?_)
    · have hw := hw.2 hc
      refine lv_iload_n hx hb d_M_store_89 rfl (lv_at hl 1 rfl) ?_
      refine lv_bipush (v := 20) hx hb d_M_store_90 (by decide) ?_
      refine lv_bipush (v := 21) hx hb d_M_store_92 (by decide) ?_
      refine cM_iS (As := [.int (x1), .int (20), .int (21)]) (rest := []) hx hb hml hown hts hK hP hD hS hA (Nat.zero_le _) (Nat.zero_le _) hl.1 (q_M_in hts ⟨Nat.le_of_ble_eq_true rfl, Nat.le_of_ble_eq_true rfl⟩) (c_M_in l g H.size _ (x1) (20) (21) _ hw) rfl rfl (Nat.le_of_ble_eq_true rfl) d_M_store_94 (fun r2 S1 H locs hw hP hD hS => ?_)
      refine lv_if_eq hx hb d_M_store_97 (tgt := 137) (by decide) (fun hc => ?_) (fun hc => ?_)
      · have hw := hw.1 hc
        refine lv_iload_n hx hb d_M_store_137 rfl (lv_at hl 1 rfl) ?_
        refine lv_bipush (v := 22) hx hb d_M_store_138 (by decide) ?_
        refine lv_icmp_ne hx hb d_M_store_140 (tgt := 154) (by decide) (fun hc => ?_) (fun hc => ?_)
        · have hw := hw.2 hc
          refine lv_iload_n hx hb d_M_store_154 rfl (lv_at hl 1 rfl) ?_
          refine lv_bipush (v := 23) hx hb d_M_store_155 (by decide) ?_
          refine lv_icmp_ne hx hb d_M_store_157 (tgt := 203) (by decide) (fun hc => ?_) (fun hc => ?_)
          · have hw := hw.2 hc
            refine lv_aload_n hx hb d_M_store_203 rfl (lv_at hl 0 rfl) ?_
            refine lv_iconst (v := 0) hx hb d_M_store_204 (by decide) ?_
            refine cM_i (As := [.int (0)]) (rest := []) hx hb hml hown hts hK hP hD hS hA (Nat.zero_le _) (Nat.zero_le _) hl.1 (q_M_top hts ⟨Nat.le_of_ble_eq_true rfl, Nat.le_of_ble_eq_true rfl⟩) (c_M_top l g H.size _ (0) _ hw) rfl rfl (Nat.le_of_ble_eq_true rfl) d_M_store_205 (fun r4 S3 H locs hw hP hD hS => ?_)
            refine lv_aload_n hx hb d_M_store_208 rfl (lv_at hl 0 rfl) ?_
            refine gt_M (v := .int ((S3.1 10))) hx hb hown hts hK hP 10 (by decide) rfl k_M_116 d_M_store_209 ?_
            refine lv_ineg hx hb d_M_store_212 ?_
            refine lv_bipush (v := 64) hx hb d_M_store_213 (by decide) ?_
            refine lv_aload_n hx hb d_M_store_215 rfl (lv_at hl 0 rfl) ?_
            refine gt_M (v := .int ((S3.1 10))) hx hb hown hts hK hP 10 (by decide) rfl k_M_116 d_M_store_216 ?_
            refine lv_isub hx hb d_M_store_219 ?_
            refine cM_iS (As := [.int (r4), .int ((-(S3.1 10))), .int ((64 - (S3.1 10)))]) (rest := []) hx hb hml hown hts hK hP hD hS hA (Nat.zero_le _) (Nat.zero_le _) hl.1 (q_M_in hts ⟨Nat.le_of_ble_eq_true rfl, Nat.le_of_ble_eq_true rfl⟩) (c_M_in l g H.size _ (r4) ((-(S3.1 10))) ((64 - (S3.1 10))) _ hw) rfl rfl (Nat.le_of_ble_eq_true rfl) d_M_store_220 (fun r6 S5 H locs hw hP hD hS => ?_)
            refine lv_if_ne hx hb d_M_store_223 (tgt := 234) (by decide) (fun hc => ?_) (fun hc => ?_)
            · have hw := hw.2 hc
              refine lv_aload_n hx hb d_M_store_234 rfl (lv_at hl 0 rfl) ?_
              refine lv_aload_n hx hb d_M_store_235 rfl (lv_at hl 0 rfl) ?_
              refine gt_M (v := .int ((S5.1 10))) hx hb hown hts hK hP 10 (by decide) rfl k_M_116 d_M_store_236 ?_
              refine lv_aload_n hx hb d_M_store_239 rfl (lv_at hl 0 rfl) ?_
              refine cM_i (As := []) (rest := [.int ((S5.1 10)), .ref (g.2.2 0)]) hx hb hml hown hts hK hP hD hS hA (Nat.zero_le _) (Nat.zero_le _) hl.1 (q_M_pop hts ⟨Nat.le_of_ble_eq_true rfl, Nat.le_of_ble_eq_true rfl⟩) (c_M_pop l g H.size _  _ hw) rfl rfl (Nat.le_of_ble_eq_true rfl) d_M_store_240 (fun r8 S7 H locs hw hP hD hS => ?_)
              refine lv_iadd hx hb d_M_store_243 ?_
              refine pt_M (S2 := ((upd S7.1 10 (((S5.1 10) + r8))), S7.2)) (v := .int (((S5.1 10) + r8))) hx hb hown hts hK hP hD hS 10 (by decide) rfl rfl rfl (sI_M_10 g _ _) k_M_116 d_M_store_244 (fun H locs hP hD hS => ?_)
              exact J247 ((upd S7.1 10 (((S5.1 10) + r8))), S7.2)  _ _ _ hw (lv_sub hl [] rfl) hP hD hS
            · have hw := hw.1 hc
              refine lv_aload_n hx hb d_M_store_226 rfl (lv_at hl 0 rfl) ?_
              refine lv_iconst (v := 3) hx hb d_M_store_227 (by decide) ?_
              refine cM_v (As := [.int (3)]) (rest := []) hx hb hml hown hts hK hP hD hS hA (Nat.zero_le _) (Nat.zero_le _) hl.1 (q_M_fail hts ⟨Nat.le_of_ble_eq_true rfl, Nat.le_of_ble_eq_true rfl⟩) (c_M_fail l g H.size _ (3) _ hw) rfl rfl (Nat.le_of_ble_eq_true rfl) d_M_store_228 (fun S9 H locs hw hP hD hS => ?_)
              refine lv_goto hx hb d_M_store_231 (tgt := 247) (by decide) ?_
              exact J247 S9  _ _ _ hw (lv_sub hl [] rfl) hP hD hS
          · have hw := hw.1 hc
            refine lv_aload_n hx hb d_M_store_160 rfl (lv_at hl 0 rfl) ?_
            refine gt_M (v := .int ((S1.1 10))) hx hb hown hts hK hP 10 (by decide) rfl k_M_116 d_M_store_161 ?_
            refine lv_bipush (v := 64) hx hb d_M_store_164 (by decide) ?_
            refine lv_icmp_lt hx hb d_M_store_166 (tgt := 177) (by decide) (fun hc => ?_) (fun hc => ?_)
            · have hw := hw.1 hc
              refine lv_aload_n hx hb d_M_store_177 rfl (lv_at hl 0 rfl) ?_
              refine gt_M (v := .ref (g.2.2 10)) hx hb hown hts hK hP 9 (by decide) rfl k_M_115 d_M_store_178 ?_
              refine lv_aload_n hx hb d_M_store_181 rfl (lv_at hl 0 rfl) ?_
              refine gt_M (v := .int ((S1.1 10))) hx hb hown hts hK hP 10 (by decide) rfl k_M_116 d_M_store_182 ?_
              refine lv_aload_n hx hb d_M_store_185 rfl (lv_at hl 0 rfl) ?_
              refine cM_i (As := []) (rest := [.int ((S1.1 10)), .ref (g.2.2 10)]) hx hb hml hown hts hK hP hD hS hA (Nat.zero_le _) (Nat.zero_le _) hl.1 (q_M_pop hts ⟨Nat.le_of_ble_eq_true rfl, Nat.le_of_ble_eq_true rfl⟩) (c_M_pop l g H.size _  _ hw) rfl rfl (Nat.le_of_ble_eq_true rfl) d_M_store_186 (fun r11 S10 H locs hw hP hD hS => ?_)
              obtain ⟨hi, hw⟩ := hw
              refine ia_M (S2 := (S10.1, (va_up S10.2.1 9 (upd (S10.2.1 9) (Int32.toNatClampNeg ((S1.1 10))) (r11))), S10.2.2)) (f := (S10.2.1 9)) hx hb hK hP hD hS 4 rfl hi d_M_store_189 (sA_M_9 g _ _) (fun H locs hP hD hS => ?_)
              refine lv_aload_n hx hb d_M_store_190 rfl (lv_at hl 0 rfl) ?_
              refine lv_aload_n hx hb d_M_store_191 rfl (lv_at hl 0 rfl) ?_
              refine gt_M (v := .int ((S10.1 10))) hx hb hown hts hK hP 10 (by decide) rfl k_M_116 d_M_store_192 ?_
              refine lv_iconst (v := 1) hx hb d_M_store_195 (by decide) ?_
              refine lv_iadd hx hb d_M_store_196 ?_
              refine pt_M (S2 := ((upd S10.1 10 (((S10.1 10) + 1))), (va_up S10.2.1 9 (upd (S10.2.1 9) (Int32.toNatClampNeg ((S1.1 10))) (r11))), S10.2.2)) (v := .int (((S10.1 10) + 1))) hx hb hown hts hK hP hD hS 10 (by decide) rfl rfl rfl (sI_M_10 g _ _) k_M_116 d_M_store_197 (fun H locs hP hD hS => ?_)
              refine lv_goto hx hb d_M_store_200 (tgt := 247) (by decide) ?_
              exact J247 ((upd S10.1 10 (((S10.1 10) + 1))), (va_up S10.2.1 9 (upd (S10.2.1 9) (Int32.toNatClampNeg ((S1.1 10))) (r11))), S10.2.2)  _ _ _ hw (lv_sub hl [] rfl) hP hD hS
            · have hw := hw.2 hc
              refine lv_aload_n hx hb d_M_store_169 rfl (lv_at hl 0 rfl) ?_
              refine lv_iconst (v := 3) hx hb d_M_store_170 (by decide) ?_
              refine cM_v (As := [.int (3)]) (rest := []) hx hb hml hown hts hK hP hD hS hA (Nat.zero_le _) (Nat.zero_le _) hl.1 (q_M_fail hts ⟨Nat.le_of_ble_eq_true rfl, Nat.le_of_ble_eq_true rfl⟩) (c_M_fail l g H.size _ (3) _ hw) rfl rfl (Nat.le_of_ble_eq_true rfl) d_M_store_171 (fun S12 H locs hw hP hD hS => ?_)
              refine lv_goto hx hb d_M_store_174 (tgt := 247) (by decide) ?_
              exact J247 S12  _ _ _ hw (lv_sub hl [] rfl) hP hD hS
        · have hw := hw.1 hc
          refine lv_aload_n hx hb d_M_store_143 rfl (lv_at hl 0 rfl) ?_
          refine lv_aload_n hx hb d_M_store_144 rfl (lv_at hl 0 rfl) ?_
          refine gt_M (v := .int ((S1.1 10))) hx hb hown hts hK hP 10 (by decide) rfl k_M_116 d_M_store_145 ?_
          refine cM_v (As := [.int ((S1.1 10))]) (rest := []) hx hb hml hown hts hK hP hD hS hA (Nat.zero_le _) (Nat.zero_le _) hl.1 (q_M_push hts ⟨Nat.le_of_ble_eq_true rfl, Nat.le_of_ble_eq_true rfl⟩) (c_M_push l g H.size _ ((S1.1 10)) _ hw) rfl rfl (Nat.le_of_ble_eq_true rfl) d_M_store_148 (fun S13 H locs hw hP hD hS => ?_)
          refine lv_goto hx hb d_M_store_151 (tgt := 247) (by decide) ?_
          exact J247 S13  _ _ _ hw (lv_sub hl [] rfl) hP hD hS
      · have hw := hw.2 hc
        refine lv_aload_n hx hb d_M_store_100 rfl (lv_at hl 0 rfl) ?_
        refine cM_i (As := []) (rest := []) hx hb hml hown hts hK hP hD hS hA (Nat.zero_le _) (Nat.zero_le _) hl.1 (q_M_pop hts ⟨Nat.le_of_ble_eq_true rfl, Nat.le_of_ble_eq_true rfl⟩) (c_M_pop l g H.size _  _ hw) rfl rfl (Nat.le_of_ble_eq_true rfl) d_M_store_101 (fun r15 S14 H locs hw hP hD hS => ?_)
        refine lv_istore_n (lv' := [(2, .int (r15)), (0, .ref (g.2.2 0)), (1, .int (x1))]) hx hb d_M_store_104 rfl hl (by decide) rfl (fun ls hl => ?_)
        refine lv_aload_n hx hb d_M_store_105 rfl (lv_at hl 1 rfl) ?_
        refine cM_i (As := []) (rest := []) hx hb hml hown hts hK hP hD hS hA (Nat.zero_le _) (Nat.zero_le _) hl.1 (q_M_pop hts ⟨Nat.le_of_ble_eq_true rfl, Nat.le_of_ble_eq_true rfl⟩) (c_M_pop l g H.size _  _ hw) rfl rfl (Nat.le_of_ble_eq_true rfl) d_M_store_106 (fun r17 S16 H locs hw hP hD hS => ?_)
        refine lv_istore_n (lv' := [(3, .int (r17)), (2, .int (r15)), (0, .ref (g.2.2 0)), (1, .int (x1))]) hx hb d_M_store_109 rfl hl (by decide) rfl (fun ls hl => ?_)
        refine lv_aload_n hx hb d_M_store_110 rfl (lv_at hl 2 rfl) ?_
        refine gt_M (v := .ref (g.2.2 10)) hx hb hown hts hK hP 9 (by decide) rfl k_M_115 d_M_store_111 ?_
        refine lv_iload_n hx hb d_M_store_114 rfl (lv_at hl 1 rfl) ?_
        refine lv_iload_n hx hb d_M_store_115 rfl (lv_at hl 3 rfl) ?_
        refine lv_bipush (v := 20) hx hb d_M_store_116 (by decide) ?_
        refine lv_icmp_ne hx hb d_M_store_118 (tgt := 125) (by decide) (fun hc => ?_) (fun hc => ?_)
        · have hw := hw.2 hc
          refine lv_aload_n hx hb d_M_store_125 rfl (lv_at hl 2 rfl) ?_
          refine gt_M (v := .ref (g.2.2 10)) hx hb hown hts hK hP 9 (by decide) rfl k_M_115 d_M_store_126 ?_
          refine lv_iload_n hx hb d_M_store_129 rfl (lv_at hl 1 rfl) ?_
          obtain ⟨hi, hw⟩ := hw
          refine va_iald (f := (S16.2.1 9)) hx hb hK hP 4 0 rfl rfl hi d_M_store_130 ?_
          refine lv_iload_n hx hb d_M_store_131 rfl (lv_at hl 0 rfl) ?_
          refine lv_iadd hx hb d_M_store_132 ?_
          exact J133 S16 ((((S16.2.1 9) (Int32.toNatClampNeg (r15))) + r17)) (r15) _ _ _ hw (lv_sub hl [] rfl) hP hD hS
        · have hw := hw.1 hc
          refine lv_iload_n hx hb d_M_store_121 rfl (lv_at hl 0 rfl) ?_
          refine lv_goto hx hb d_M_store_122 (tgt := 133) (by decide) ?_
          exact J133 S16 (r17) (r15) _ _ _ hw (lv_sub hl [] rfl) hP hD hS
    · have hw := hw.1 hc
      refine lv_aload_n hx hb d_M_store_73 rfl (lv_at hl 0 rfl) ?_
      refine lv_aload_n hx hb d_M_store_74 rfl (lv_at hl 0 rfl) ?_
      refine gt_M (v := .ref (g.2.2 10)) hx hb hown hts hK hP 9 (by decide) rfl k_M_115 d_M_store_75 ?_
      refine lv_aload_n hx hb d_M_store_78 rfl (lv_at hl 0 rfl) ?_
      refine cM_i (As := []) (rest := [.ref (g.2.2 10), .ref (g.2.2 0)]) hx hb hml hown hts hK hP hD hS hA (Nat.zero_le _) (Nat.zero_le _) hl.1 (q_M_pop hts ⟨Nat.le_of_ble_eq_true rfl, Nat.le_of_ble_eq_true rfl⟩) (c_M_pop l g H.size _  _ hw) rfl rfl (Nat.le_of_ble_eq_true rfl) d_M_store_79 (fun r19 S18 H locs hw hP hD hS => ?_)
      obtain ⟨hi, hw⟩ := hw
      refine va_iald (f := (S18.2.1 9)) hx hb hK hP 4 0 rfl rfl hi d_M_store_82 ?_
      refine cM_v (As := [.int (((S18.2.1 9) (Int32.toNatClampNeg (r19))))]) (rest := []) hx hb hml hown hts hK hP hD hS hA (Nat.zero_le _) (Nat.zero_le _) hl.1 (q_M_push hts ⟨Nat.le_of_ble_eq_true rfl, Nat.le_of_ble_eq_true rfl⟩) (c_M_push l g H.size _ (((S18.2.1 9) (Int32.toNatClampNeg (r19)))) _ hw) rfl rfl (Nat.le_of_ble_eq_true rfl) d_M_store_83 (fun S20 H locs hw hP hD hS => ?_)
      refine lv_goto hx hb d_M_store_86 (tgt := 247) (by decide) ?_
      exact J247 S20  _ _ _ hw (lv_sub hl [] rfl) hP hD hS
  have J27 : ∀ (S : StM) (x1 : Int32) (t0 : Int32) (H : Heap) (locs : List Loc) (ls : Array Slot), wq_M_store_27 post  S x1 t0 → lv_has ls 4 [(0, .ref (g.2.2 0)), (1, .int (x1))] → va_P g.1 classes (wM g S) H → va_D (AM g s.heap.size) (wM g S) → va_S (AM g s.heap.size) s.heap H locs → W p l e (rmM 2 42) s m args below meth c H locs 0 0 Q (F0 m 27 ls [.int (t0), .ref (g.2.2 0)]) := by
    intro S x1 t0 H locs ls hw hl hP hD hS
    unfold wq_M_store_27 at hw
    refine cM_i (As := [.int (t0)]) (rest := []) hx hb hml hown hts hK hP hD hS hA (Nat.zero_le _) (Nat.zero_le _) hl.1 (q_M_needs hts ⟨Nat.le_of_ble_eq_true rfl, Nat.le_of_ble_eq_true rfl⟩) (c_M_needs l g H.size _ (t0) _ hw) rfl rfl (Nat.le_of_ble_eq_true rfl) d_M_store_27 (fun r22 S21 H locs hw hP hD hS => ?_)
    refine lv_if_ne hx hb d_M_store_30 (tgt := 34) (by decide) (fun hc => ?_) (fun hc => ?_)
    · have hw := hw.2 hc
      refine lv_iload_n hx hb d_M_store_34 rfl (lv_at hl 1 rfl) ?_
      refine lv_bipush (v := 19) hx hb d_M_store_35 (by decide) ?_
      refine lv_bipush (v := 21) hx hb d_M_store_37 (by decide) ?_
      refine cM_iS (As := [.int (x1), .int (19), .int (21)]) (rest := []) hx hb hml hown hts hK hP hD hS hA (Nat.zero_le _) (Nat.zero_le _) hl.1 (q_M_in hts ⟨Nat.le_of_ble_eq_true rfl, Nat.le_of_ble_eq_true rfl⟩) (c_M_in l g H.size _ (x1) (19) (21) _ hw) rfl rfl (Nat.le_of_ble_eq_true rfl) d_M_store_39 (fun r24 S23 H locs hw hP hD hS => ?_)
      refine lv_if_eq hx hb d_M_store_42 (tgt := 67) (by decide) (fun hc => ?_) (fun hc => ?_)
      · have hw := hw.1 hc
        exact J67 S23 (x1) _ _ _ hw (lv_sub hl [0, 1] rfl) hP hD hS
      · have hw := hw.2 hc
        refine lv_aload_n hx hb d_M_store_45 rfl (lv_at hl 0 rfl) ?_
        refine lv_iconst (v := 0) hx hb d_M_store_46 (by decide) ?_
        refine cM_i (As := [.int (0)]) (rest := []) hx hb hml hown hts hK hP hD hS hA (Nat.zero_le _) (Nat.zero_le _) hl.1 (q_M_top hts ⟨Nat.le_of_ble_eq_true rfl, Nat.le_of_ble_eq_true rfl⟩) (c_M_top l g H.size _ (0) _ hw) rfl rfl (Nat.le_of_ble_eq_true rfl) d_M_store_47 (fun r26 S25 H locs hw hP hD hS => ?_)
        refine lv_iconst (v := 0) hx hb d_M_store_50 (by decide) ?_
        refine lv_bipush (v := 95) hx hb d_M_store_51 (by decide) ?_
        refine cM_iS (As := [.int (r26), .int (0), .int (95)]) (rest := []) hx hb hml hown hts hK hP hD hS hA (Nat.zero_le _) (Nat.zero_le _) hl.1 (q_M_in hts ⟨Nat.le_of_ble_eq_true rfl, Nat.le_of_ble_eq_true rfl⟩) (c_M_in l g H.size _ (r26) (0) (95) _ hw) rfl rfl (Nat.le_of_ble_eq_true rfl) d_M_store_53 (fun r28 S27 H locs hw hP hD hS => ?_)
        refine lv_if_ne hx hb d_M_store_56 (tgt := 67) (by decide) (fun hc => ?_) (fun hc => ?_)
        · have hw := hw.2 hc
          exact J67 S27 (x1) _ _ _ hw (lv_sub hl [0, 1] rfl) hP hD hS
        · have hw := hw.1 hc
          refine lv_aload_n hx hb d_M_store_59 rfl (lv_at hl 0 rfl) ?_
          refine lv_iconst (v := 5) hx hb d_M_store_60 (by decide) ?_
          refine cM_v (As := [.int (5)]) (rest := []) hx hb hml hown hts hK hP hD hS hA (Nat.zero_le _) (Nat.zero_le _) hl.1 (q_M_fail hts ⟨Nat.le_of_ble_eq_true rfl, Nat.le_of_ble_eq_true rfl⟩) (c_M_fail l g H.size _ (5) _ hw) rfl rfl (Nat.le_of_ble_eq_true rfl) d_M_store_61 (fun S29 H locs hw hP hD hS => ?_)
          refine lv_goto hx hb d_M_store_64 (tgt := 247) (by decide) ?_
          exact J247 S29  _ _ _ hw (lv_sub hl [] rfl) hP hD hS
    · have hw := hw.1 hc
      exact kr S21 _ _ _ _ hw hP hD hS d_M_store_33
  refine lv_aload_n hx hb d_M_store_0 rfl (lv_at hl 0 rfl) ?_
  refine lv_iload_n hx hb d_M_store_1 rfl (lv_at hl 1 rfl) ?_
  refine lv_bipush (v := 22) hx hb d_M_store_2 (by decide) ?_
  refine lv_icmp_ne hx hb d_M_store_4 (tgt := 11) (by decide) (fun hc => ?_) (fun hc => ?_)
  · have hw := hw.2 hc
    refine lv_iload_n hx hb d_M_store_11 rfl (lv_at hl 1 rfl) ?_
    refine lv_bipush (v := 20) hx hb d_M_store_12 (by decide) ?_
    refine lv_bipush (v := 21) hx hb d_M_store_14 (by decide) ?_
    refine cM_iS (As := [.int (a0), .int (20), .int (21)]) (rest := [.ref (g.2.2 0)]) hx hb hml hown hts hK hP hD hS hA (Nat.zero_le _) (Nat.zero_le _) hl.1 (q_M_in hts ⟨Nat.le_of_ble_eq_true rfl, Nat.le_of_ble_eq_true rfl⟩) (c_M_in l g H.size _ (a0) (20) (21) _ hw) rfl rfl (Nat.le_of_ble_eq_true rfl) d_M_store_16 (fun r31 S30 H locs hw hP hD hS => ?_)
    refine lv_if_eq hx hb d_M_store_19 (tgt := 26) (by decide) (fun hc => ?_) (fun hc => ?_)
    · have hw := hw.1 hc
      refine lv_iconst (v := 1) hx hb d_M_store_26 (by decide) ?_
      exact J27 S30 (a0) (1) _ _ _ hw (lv_sub hl [0, 1] rfl) hP hD hS
    · have hw := hw.2 hc
      refine lv_iconst (v := 2) hx hb d_M_store_22 (by decide) ?_
      refine lv_goto hx hb d_M_store_23 (tgt := 27) (by decide) ?_
      exact J27 S30 (a0) (2) _ _ _ hw (lv_sub hl [0, 1] rfl) hP hD hS
  · have hw := hw.1 hc
    refine lv_iconst (v := 0) hx hb d_M_store_7 (by decide) ?_
    refine lv_goto hx hb d_M_store_8 (tgt := 27) (by decide) ?_
    exact J27 S (a0) (0) _ _ _ hw (lv_sub hl [0, 1] rfl) hP hD hS
theorem d_M_returns_0 : decode b_M_returns 0 = .ok (.iload_n 1, 1) := by decide +kernel
theorem d_M_returns_1 : decode b_M_returns 1 = .ok (.bipush 25, 2) := by decide +kernel
theorem d_M_returns_3 : decode b_M_returns 3 = .ok (.if_icmp .ne 55, 3) := by decide +kernel
theorem d_M_returns_6 : decode b_M_returns 6 = .ok (.aload_n 0, 1) := by decide +kernel
theorem d_M_returns_7 : decode b_M_returns 7 = .ok (.iconst 1, 1) := by decide +kernel
theorem d_M_returns_8 : decode b_M_returns 8 = .ok (.invokevirtual 230, 3) := by decide +kernel
theorem d_M_returns_11 : decode b_M_returns 11 = .ok (.ifCond .ne 4, 3) := by decide +kernel
theorem d_M_returns_14 : decode b_M_returns 14 = .ok (.return_, 1) := by decide +kernel
theorem d_M_returns_15 : decode b_M_returns 15 = .ok (.aload_n 0, 1) := by decide +kernel
theorem d_M_returns_16 : decode b_M_returns 16 = .ok (.getfield 254, 3) := by decide +kernel
theorem d_M_returns_19 : decode b_M_returns 19 = .ok (.bipush 24, 2) := by decide +kernel
theorem d_M_returns_21 : decode b_M_returns 21 = .ok (.if_icmp .lt 11, 3) := by decide +kernel
theorem d_M_returns_24 : decode b_M_returns 24 = .ok (.aload_n 0, 1) := by decide +kernel
theorem d_M_returns_25 : decode b_M_returns 25 = .ok (.iconst 3, 1) := by decide +kernel
theorem d_M_returns_26 : decode b_M_returns 26 = .ok (.invokevirtual 196, 3) := by decide +kernel
theorem d_M_returns_29 : decode b_M_returns 29 = .ok (.goto 165, 3) := by decide +kernel
theorem d_M_returns_32 : decode b_M_returns 32 = .ok (.aload_n 0, 1) := by decide +kernel
theorem d_M_returns_33 : decode b_M_returns 33 = .ok (.getfield 16, 3) := by decide +kernel
theorem d_M_returns_36 : decode b_M_returns 36 = .ok (.aload_n 0, 1) := by decide +kernel
theorem d_M_returns_37 : decode b_M_returns 37 = .ok (.getfield 254, 3) := by decide +kernel
theorem d_M_returns_40 : decode b_M_returns 40 = .ok (.aload_n 0, 1) := by decide +kernel
theorem d_M_returns_41 : decode b_M_returns 41 = .ok (.invokevirtual 241, 3) := by decide +kernel
theorem d_M_returns_44 : decode b_M_returns 44 = .ok (.iastore, 1) := by decide +kernel
theorem d_M_returns_45 : decode b_M_returns 45 = .ok (.aload_n 0, 1) := by decide +kernel
theorem d_M_returns_46 : decode b_M_returns 46 = .ok (.aload_n 0, 1) := by decide +kernel
theorem d_M_returns_47 : decode b_M_returns 47 = .ok (.getfield 254, 3) := by decide +kernel
theorem d_M_returns_50 : decode b_M_returns 50 = .ok (.iconst 1, 1) := by decide +kernel
theorem d_M_returns_51 : decode b_M_returns 51 = .ok (.iadd, 1) := by decide +kernel
theorem d_M_returns_52 : decode b_M_returns 52 = .ok (.putfield 254, 3) := by decide +kernel
theorem d_M_returns_55 : decode b_M_returns 55 = .ok (.goto 139, 3) := by decide +kernel
theorem d_M_returns_58 : decode b_M_returns 58 = .ok (.iload_n 1, 1) := by decide +kernel
theorem d_M_returns_59 : decode b_M_returns 59 = .ok (.bipush 28, 2) := by decide +kernel
theorem d_M_returns_61 : decode b_M_returns 61 = .ok (.if_icmp .ge 66, 3) := by decide +kernel
theorem d_M_returns_64 : decode b_M_returns 64 = .ok (.aload_n 0, 1) := by decide +kernel
theorem d_M_returns_65 : decode b_M_returns 65 = .ok (.getfield 254, 3) := by decide +kernel
theorem d_M_returns_68 : decode b_M_returns 68 = .ok (.ifCond .ne 11, 3) := by decide +kernel
theorem d_M_returns_71 : decode b_M_returns 71 = .ok (.aload_n 0, 1) := by decide +kernel
theorem d_M_returns_72 : decode b_M_returns 72 = .ok (.iconst 2, 1) := by decide +kernel
theorem d_M_returns_73 : decode b_M_returns 73 = .ok (.invokevirtual 196, 3) := by decide +kernel
theorem d_M_returns_76 : decode b_M_returns 76 = .ok (.goto 118, 3) := by decide +kernel
theorem d_M_returns_79 : decode b_M_returns 79 = .ok (.aload_n 0, 1) := by decide +kernel
theorem d_M_returns_80 : decode b_M_returns 80 = .ok (.aload_n 0, 1) := by decide +kernel
theorem d_M_returns_81 : decode b_M_returns 81 = .ok (.getfield 16, 3) := by decide +kernel
theorem d_M_returns_84 : decode b_M_returns 84 = .ok (.aload_n 0, 1) := by decide +kernel
theorem d_M_returns_85 : decode b_M_returns 85 = .ok (.getfield 254, 3) := by decide +kernel
theorem d_M_returns_88 : decode b_M_returns 88 = .ok (.iconst 1, 1) := by decide +kernel
theorem d_M_returns_89 : decode b_M_returns 89 = .ok (.isub, 1) := by decide +kernel
theorem d_M_returns_90 : decode b_M_returns 90 = .ok (.iaload, 1) := by decide +kernel
theorem d_M_returns_91 : decode b_M_returns 91 = .ok (.invokevirtual 238, 3) := by decide +kernel
theorem d_M_returns_94 : decode b_M_returns 94 = .ok (.aload_n 0, 1) := by decide +kernel
theorem d_M_returns_95 : decode b_M_returns 95 = .ok (.aload_n 0, 1) := by decide +kernel
theorem d_M_returns_96 : decode b_M_returns 96 = .ok (.getfield 190, 3) := by decide +kernel
theorem d_M_returns_99 : decode b_M_returns 99 = .ok (.ifCond .ne 18, 3) := by decide +kernel
theorem d_M_returns_102 : decode b_M_returns 102 = .ok (.iload_n 1, 1) := by decide +kernel
theorem d_M_returns_103 : decode b_M_returns 103 = .ok (.bipush 26, 2) := by decide +kernel
theorem d_M_returns_105 : decode b_M_returns 105 = .ok (.if_icmp .ne 12, 3) := by decide +kernel
theorem d_M_returns_108 : decode b_M_returns 108 = .ok (.aload_n 0, 1) := by decide +kernel
theorem d_M_returns_109 : decode b_M_returns 109 = .ok (.getfield 254, 3) := by decide +kernel
theorem d_M_returns_112 : decode b_M_returns 112 = .ok (.iconst 1, 1) := by decide +kernel
theorem d_M_returns_113 : decode b_M_returns 113 = .ok (.isub, 1) := by decide +kernel
theorem d_M_returns_114 : decode b_M_returns 114 = .ok (.goto 7, 3) := by decide +kernel
theorem d_M_returns_117 : decode b_M_returns 117 = .ok (.aload_n 0, 1) := by decide +kernel
theorem d_M_returns_118 : decode b_M_returns 118 = .ok (.getfield 254, 3) := by decide +kernel
theorem d_M_returns_121 : decode b_M_returns 121 = .ok (.putfield 254, 3) := by decide +kernel
theorem d_M_returns_124 : decode b_M_returns 124 = .ok (.goto 70, 3) := by decide +kernel
theorem d_M_returns_127 : decode b_M_returns 127 = .ok (.iload_n 1, 1) := by decide +kernel
theorem d_M_returns_128 : decode b_M_returns 128 = .ok (.bipush 27, 2) := by decide +kernel
theorem d_M_returns_130 : decode b_M_returns 130 = .ok (.isub, 1) := by decide +kernel
theorem d_M_returns_131 : decode b_M_returns 131 = .ok (.istore_n 2, 1) := by decide +kernel
theorem d_M_returns_132 : decode b_M_returns 132 = .ok (.aload_n 0, 1) := by decide +kernel
theorem d_M_returns_133 : decode b_M_returns 133 = .ok (.getfield 257, 3) := by decide +kernel
theorem d_M_returns_136 : decode b_M_returns 136 = .ok (.ifCond .eq 18, 3) := by decide +kernel
theorem d_M_returns_139 : decode b_M_returns 139 = .ok (.aload_n 0, 1) := by decide +kernel
theorem d_M_returns_140 : decode b_M_returns 140 = .ok (.getfield 54, 3) := by decide +kernel
theorem d_M_returns_143 : decode b_M_returns 143 = .ok (.aload_n 0, 1) := by decide +kernel
theorem d_M_returns_144 : decode b_M_returns 144 = .ok (.getfield 257, 3) := by decide +kernel
theorem d_M_returns_147 : decode b_M_returns 147 = .ok (.iconst 1, 1) := by decide +kernel
theorem d_M_returns_148 : decode b_M_returns 148 = .ok (.isub, 1) := by decide +kernel
theorem d_M_returns_149 : decode b_M_returns 149 = .ok (.iaload, 1) := by decide +kernel
theorem d_M_returns_150 : decode b_M_returns 150 = .ok (.iload_n 2, 1) := by decide +kernel
theorem d_M_returns_151 : decode b_M_returns 151 = .ok (.if_icmp .ge 12, 3) := by decide +kernel
theorem d_M_returns_154 : decode b_M_returns 154 = .ok (.aload_n 0, 1) := by decide +kernel
theorem d_M_returns_155 : decode b_M_returns 155 = .ok (.bipush 8, 2) := by decide +kernel
theorem d_M_returns_157 : decode b_M_returns 157 = .ok (.invokevirtual 196, 3) := by decide +kernel
theorem d_M_returns_160 : decode b_M_returns 160 = .ok (.goto 34, 3) := by decide +kernel
theorem d_M_returns_163 : decode b_M_returns 163 = .ok (.aload_n 0, 1) := by decide +kernel
theorem d_M_returns_164 : decode b_M_returns 164 = .ok (.aload_n 0, 1) := by decide +kernel
theorem d_M_returns_165 : decode b_M_returns 165 = .ok (.getfield 57, 3) := by decide +kernel
theorem d_M_returns_168 : decode b_M_returns 168 = .ok (.iconst 4, 1) := by decide +kernel
theorem d_M_returns_169 : decode b_M_returns 169 = .ok (.aload_n 0, 1) := by decide +kernel
theorem d_M_returns_170 : decode b_M_returns 170 = .ok (.getfield 257, 3) := by decide +kernel
theorem d_M_returns_173 : decode b_M_returns 173 = .ok (.iconst 1, 1) := by decide +kernel
theorem d_M_returns_174 : decode b_M_returns 174 = .ok (.isub, 1) := by decide +kernel
theorem d_M_returns_175 : decode b_M_returns 175 = .ok (.imul, 1) := by decide +kernel
theorem d_M_returns_176 : decode b_M_returns 176 = .ok (.aload_n 0, 1) := by decide +kernel
theorem d_M_returns_177 : decode b_M_returns 177 = .ok (.getfield 54, 3) := by decide +kernel
theorem d_M_returns_180 : decode b_M_returns 180 = .ok (.aload_n 0, 1) := by decide +kernel
theorem d_M_returns_181 : decode b_M_returns 181 = .ok (.getfield 257, 3) := by decide +kernel
theorem d_M_returns_184 : decode b_M_returns 184 = .ok (.iconst 1, 1) := by decide +kernel
theorem d_M_returns_185 : decode b_M_returns 185 = .ok (.isub, 1) := by decide +kernel
theorem d_M_returns_186 : decode b_M_returns 186 = .ok (.iaload, 1) := by decide +kernel
theorem d_M_returns_187 : decode b_M_returns 187 = .ok (.iadd, 1) := by decide +kernel
theorem d_M_returns_188 : decode b_M_returns 188 = .ok (.iload_n 2, 1) := by decide +kernel
theorem d_M_returns_189 : decode b_M_returns 189 = .ok (.isub, 1) := by decide +kernel
theorem d_M_returns_190 : decode b_M_returns 190 = .ok (.iaload, 1) := by decide +kernel
theorem d_M_returns_191 : decode b_M_returns 191 = .ok (.invokevirtual 238, 3) := by decide +kernel
theorem d_M_returns_194 : decode b_M_returns 194 = .ok (.return_, 1) := by decide +kernel
def wq_M_returns_194 (post : StM → Prop)  (S : StM)  : Prop :=
  post S
def wq_M_returns_154 (post : StM → Prop)  (S : StM)  : Prop :=
  wp_M_fail (fun S1 : StM => (wq_M_returns_194 post  S1 )) S (8)
def wq_M_returns_121 (post : StM → Prop)  (S : StM) (t0 : Int32) : Prop :=
  wq_M_returns_194 post  ((upd S.1 8 (t0)), S.2) 
def wq_M_returns_117 (post : StM → Prop)  (S : StM)  : Prop :=
  wq_M_returns_121 post  S ((S.1 8))
def wp_M_returns (post : StM → Prop) (S : StM) (a0 : Int32) : Prop :=
  ((a0 = 25) → wp_M_needs (fun (r6 : Int32) (S5 : StM) => (((r6 = 0) → post S5) ∧ (¬ (r6 = 0) → (((S5.1 8) < 24) → wp_M_pop (fun (r8 : Int32) (S7 : StM) => ((vp_in (S5.1 8) 24) ∧ (wq_M_returns_194 post  ((upd S7.1 8 (((S7.1 8) + 1))), (va_up S7.2.1 7 (upd (S7.2.1 7) (Int32.toNatClampNeg ((S5.1 8))) (r8))), S7.2.2) ))) S5 ) ∧ (¬ ((S5.1 8) < 24) → wp_M_fail (fun S9 : StM => (wq_M_returns_194 post  S9 )) S5 (3))))) S (1)) ∧ (¬ (a0 = 25) → ((28 ≤ a0) → (((S.1 25) = 0) → wq_M_returns_154 post  S ) ∧ (¬ ((S.1 25) = 0) → (vp_in ((S.1 25) - 1) 16) ∧ ((((a0 - 27) ≤ ((S.2.1 28) (Int32.toNatClampNeg (((S.1 25) - 1))))) → (vp_in ((S.1 25) - 1) 16) ∧ ((vp_in (((4 * ((S.1 25) - 1)) + ((S.2.1 28) (Int32.toNatClampNeg (((S.1 25) - 1))))) - (a0 - 27)) 64) ∧ (wp_M_push (fun S2 : StM => (wq_M_returns_194 post  S2 )) S (((S.2.1 29) (Int32.toNatClampNeg ((((4 * ((S.1 25) - 1)) + ((S.2.1 28) (Int32.toNatClampNeg (((S.1 25) - 1))))) - (a0 - 27))))))))) ∧ (¬ ((a0 - 27) ≤ ((S.2.1 28) (Int32.toNatClampNeg (((S.1 25) - 1))))) → wq_M_returns_154 post  S )))) ∧ (¬ (28 ≤ a0) → (((S.1 8) = 0) → wp_M_fail (fun S4 : StM => (wq_M_returns_194 post  S4 )) S (2)) ∧ (¬ ((S.1 8) = 0) → (vp_in ((S.1 8) - 1) 24) ∧ (wp_M_push (fun S3 : StM => ((((S3.1 14) = 0) → ((a0 = 26) → wq_M_returns_121 post  S3 (((S3.1 8) - 1))) ∧ (¬ (a0 = 26) → wq_M_returns_117 post  S3 )) ∧ (¬ ((S3.1 14) = 0) → wq_M_returns_117 post  S3 ))) S (((S.2.1 7) (Int32.toNatClampNeg (((S.1 8) - 1)))))))))
set_option maxRecDepth 100000 in
set_option maxHeartbeats 4000000 in
theorem c_M_returns (l : Launch) (g : Gm) (sz : Nat) (S : StM) (a0 : Int32) (post : StM → Prop) (hw : wp_M_returns post S a0) : Met l y_M_returns (.code y_M_returns b_M_returns 3 none :: w_M) (rmM 2 42) (va_Pc [.ref (g.2.2 0), .int (a0)] (PM g sz S)) (va_Qv post (BM g sz) (AM g sz)) 0 0 (AM g sz) := by
  refine ofM_v (by decide) (Nat.le_of_ble_eq_true rfl) (fun p e s m args below meth c Q H locs ls hx hb hml hts hown hK hA kr hl hP hD hS => ?_)
  have hl : lv_has ls 3 [(0, .ref (g.2.2 0)), (1, .int (a0))] := hl
  unfold wp_M_returns at hw
  have J194 : ∀ (S : StM)  (H : Heap) (locs : List Loc) (ls : Array Slot), wq_M_returns_194 post  S  → lv_has ls 3 [] → va_P g.1 classes (wM g S) H → va_D (AM g s.heap.size) (wM g S) → va_S (AM g s.heap.size) s.heap H locs → W p l e (rmM 2 42) s m args below meth c H locs 0 0 Q (F0 m 194 ls []) := by
    intro S  H locs ls hw hl hP hD hS
    unfold wq_M_returns_194 at hw
    exact kr S _ _ _ _ hw hP hD hS d_M_returns_194
  have J154 : ∀ (S : StM)  (H : Heap) (locs : List Loc) (ls : Array Slot), wq_M_returns_154 post  S  → lv_has ls 3 [(0, .ref (g.2.2 0))] → va_P g.1 classes (wM g S) H → va_D (AM g s.heap.size) (wM g S) → va_S (AM g s.heap.size) s.heap H locs → W p l e (rmM 2 42) s m args below meth c H locs 0 0 Q (F0 m 154 ls []) := by
    intro S  H locs ls hw hl hP hD hS
    unfold wq_M_returns_154 at hw
    refine lv_aload_n hx hb d_M_returns_154 rfl (lv_at hl 0 rfl) ?_
    refine lv_bipush (v := 8) hx hb d_M_returns_155 (by decide) ?_
    refine cM_v (As := [.int (8)]) (rest := []) hx hb hml hown hts hK hP hD hS hA (Nat.zero_le _) (Nat.zero_le _) hl.1 (q_M_fail hts ⟨Nat.le_of_ble_eq_true rfl, Nat.le_of_ble_eq_true rfl⟩) (c_M_fail l g H.size _ (8) _ hw) rfl rfl (Nat.le_of_ble_eq_true rfl) d_M_returns_157 (fun S1 H locs hw hP hD hS => ?_)
    refine lv_goto hx hb d_M_returns_160 (tgt := 194) (by decide) ?_
    exact J194 S1  _ _ _ hw (lv_sub hl [] rfl) hP hD hS
  have J121 : ∀ (S : StM) (t0 : Int32) (H : Heap) (locs : List Loc) (ls : Array Slot), wq_M_returns_121 post  S t0 → lv_has ls 3 [] → va_P g.1 classes (wM g S) H → va_D (AM g s.heap.size) (wM g S) → va_S (AM g s.heap.size) s.heap H locs → W p l e (rmM 2 42) s m args below meth c H locs 0 0 Q (F0 m 121 ls [.int (t0), .ref (g.2.2 0)]) := by
    intro S t0 H locs ls hw hl hP hD hS
    unfold wq_M_returns_121 at hw
    refine pt_M (S2 := ((upd S.1 8 (t0)), S.2)) (v := .int (t0)) hx hb hown hts hK hP hD hS 8 (by decide) rfl rfl rfl (sI_M_8 g _ _) k_M_114 d_M_returns_121 (fun H locs hP hD hS => ?_)
    refine lv_goto hx hb d_M_returns_124 (tgt := 194) (by decide) ?_
    exact J194 ((upd S.1 8 (t0)), S.2)  _ _ _ hw (lv_sub hl [] rfl) hP hD hS
  have J117 : ∀ (S : StM)  (H : Heap) (locs : List Loc) (ls : Array Slot), wq_M_returns_117 post  S  → lv_has ls 3 [(0, .ref (g.2.2 0))] → va_P g.1 classes (wM g S) H → va_D (AM g s.heap.size) (wM g S) → va_S (AM g s.heap.size) s.heap H locs → W p l e (rmM 2 42) s m args below meth c H locs 0 0 Q (F0 m 117 ls [.ref (g.2.2 0)]) := by
    intro S  H locs ls hw hl hP hD hS
    unfold wq_M_returns_117 at hw
    refine lv_aload_n hx hb d_M_returns_117 rfl (lv_at hl 0 rfl) ?_
    refine gt_M (v := .int ((S.1 8))) hx hb hown hts hK hP 8 (by decide) rfl k_M_114 d_M_returns_118 ?_
    exact J121 S ((S.1 8)) _ _ _ hw (lv_sub hl [] rfl) hP hD hS
  refine lv_iload_n hx hb d_M_returns_0 rfl (lv_at hl 1 rfl) ?_
  refine lv_bipush (v := 25) hx hb d_M_returns_1 (by decide) ?_
  refine lv_icmp_ne hx hb d_M_returns_3 (tgt := 58) (by decide) (fun hc => ?_) (fun hc => ?_)
  · have hw := hw.2 hc
    refine lv_iload_n hx hb d_M_returns_58 rfl (lv_at hl 1 rfl) ?_
    refine lv_bipush (v := 28) hx hb d_M_returns_59 (by decide) ?_
    refine lv_icmp_ge hx hb d_M_returns_61 (tgt := 127) (by decide) (fun hc => ?_) (fun hc => ?_)
    · have hw := hw.1 hc
      refine lv_iload_n hx hb d_M_returns_127 rfl (lv_at hl 1 rfl) ?_
      refine lv_bipush (v := 27) hx hb d_M_returns_128 (by decide) ?_
      refine lv_isub hx hb d_M_returns_130 ?_
      refine lv_istore_n (lv' := [(2, .int ((a0 - 27))), (0, .ref (g.2.2 0)), (1, .int (a0))]) hx hb d_M_returns_131 rfl hl (by decide) rfl (fun ls hl => ?_)
      refine lv_aload_n hx hb d_M_returns_132 rfl (lv_at hl 1 rfl) ?_
      refine gt_M (v := .int ((S.1 25))) hx hb hown hts hK hP 25 (by decide) rfl k_M_131 d_M_returns_133 ?_
      refine lv_if_eq hx hb d_M_returns_136 (tgt := 154) (by decide) (fun hc => ?_) (fun hc => ?_)
      · have hw := hw.1 hc
        exact J154 S  _ _ _ hw (lv_sub hl [1] rfl) hP hD hS
      · have hw := hw.2 hc
        refine lv_aload_n hx hb d_M_returns_139 rfl (lv_at hl 1 rfl) ?_
        refine gt_M (v := .ref (g.2.2 29)) hx hb hown hts hK hP 28 (by decide) rfl k_M_134 d_M_returns_140 ?_
        refine lv_aload_n hx hb d_M_returns_143 rfl (lv_at hl 1 rfl) ?_
        refine gt_M (v := .int ((S.1 25))) hx hb hown hts hK hP 25 (by decide) rfl k_M_131 d_M_returns_144 ?_
        refine lv_iconst (v := 1) hx hb d_M_returns_147 (by decide) ?_
        refine lv_isub hx hb d_M_returns_148 ?_
        obtain ⟨hi, hw⟩ := hw
        refine va_iald (f := (S.2.1 28)) hx hb hK hP 15 0 rfl rfl hi d_M_returns_149 ?_
        refine lv_iload_n hx hb d_M_returns_150 rfl (lv_at hl 0 rfl) ?_
        refine lv_icmp_ge hx hb d_M_returns_151 (tgt := 163) (by decide) (fun hc => ?_) (fun hc => ?_)
        · have hw := hw.1 hc
          refine lv_aload_n hx hb d_M_returns_163 rfl (lv_at hl 1 rfl) ?_
          refine lv_aload_n hx hb d_M_returns_164 rfl (lv_at hl 1 rfl) ?_
          refine gt_M (v := .ref (g.2.2 30)) hx hb hown hts hK hP 29 (by decide) rfl k_M_135 d_M_returns_165 ?_
          refine lv_iconst (v := 4) hx hb d_M_returns_168 (by decide) ?_
          refine lv_aload_n hx hb d_M_returns_169 rfl (lv_at hl 1 rfl) ?_
          refine gt_M (v := .int ((S.1 25))) hx hb hown hts hK hP 25 (by decide) rfl k_M_131 d_M_returns_170 ?_
          refine lv_iconst (v := 1) hx hb d_M_returns_173 (by decide) ?_
          refine lv_isub hx hb d_M_returns_174 ?_
          refine lv_imul hx hb d_M_returns_175 ?_
          refine lv_aload_n hx hb d_M_returns_176 rfl (lv_at hl 1 rfl) ?_
          refine gt_M (v := .ref (g.2.2 29)) hx hb hown hts hK hP 28 (by decide) rfl k_M_134 d_M_returns_177 ?_
          refine lv_aload_n hx hb d_M_returns_180 rfl (lv_at hl 1 rfl) ?_
          refine gt_M (v := .int ((S.1 25))) hx hb hown hts hK hP 25 (by decide) rfl k_M_131 d_M_returns_181 ?_
          refine lv_iconst (v := 1) hx hb d_M_returns_184 (by decide) ?_
          refine lv_isub hx hb d_M_returns_185 ?_
          obtain ⟨hi, hw⟩ := hw
          refine va_iald (f := (S.2.1 28)) hx hb hK hP 15 0 rfl rfl hi d_M_returns_186 ?_
          refine lv_iadd hx hb d_M_returns_187 ?_
          refine lv_iload_n hx hb d_M_returns_188 rfl (lv_at hl 0 rfl) ?_
          refine lv_isub hx hb d_M_returns_189 ?_
          obtain ⟨hi, hw⟩ := hw
          refine va_iald (f := (S.2.1 29)) hx hb hK hP 16 0 rfl rfl hi d_M_returns_190 ?_
          refine cM_v (As := [.int (((S.2.1 29) (Int32.toNatClampNeg ((((4 * ((S.1 25) - 1)) + ((S.2.1 28) (Int32.toNatClampNeg (((S.1 25) - 1))))) - (a0 - 27))))))]) (rest := []) hx hb hml hown hts hK hP hD hS hA (Nat.zero_le _) (Nat.zero_le _) hl.1 (q_M_push hts ⟨Nat.le_of_ble_eq_true rfl, Nat.le_of_ble_eq_true rfl⟩) (c_M_push l g H.size _ (((S.2.1 29) (Int32.toNatClampNeg ((((4 * ((S.1 25) - 1)) + ((S.2.1 28) (Int32.toNatClampNeg (((S.1 25) - 1))))) - (a0 - 27)))))) _ hw) rfl rfl (Nat.le_of_ble_eq_true rfl) d_M_returns_191 (fun S2 H locs hw hP hD hS => ?_)
          exact J194 S2  _ _ _ hw (lv_sub hl [] rfl) hP hD hS
        · have hw := hw.2 hc
          exact J154 S  _ _ _ hw (lv_sub hl [1] rfl) hP hD hS
    · have hw := hw.2 hc
      refine lv_aload_n hx hb d_M_returns_64 rfl (lv_at hl 0 rfl) ?_
      refine gt_M (v := .int ((S.1 8))) hx hb hown hts hK hP 8 (by decide) rfl k_M_114 d_M_returns_65 ?_
      refine lv_if_ne hx hb d_M_returns_68 (tgt := 79) (by decide) (fun hc => ?_) (fun hc => ?_)
      · have hw := hw.2 hc
        refine lv_aload_n hx hb d_M_returns_79 rfl (lv_at hl 0 rfl) ?_
        refine lv_aload_n hx hb d_M_returns_80 rfl (lv_at hl 0 rfl) ?_
        refine gt_M (v := .ref (g.2.2 8)) hx hb hown hts hK hP 7 (by decide) rfl k_M_113 d_M_returns_81 ?_
        refine lv_aload_n hx hb d_M_returns_84 rfl (lv_at hl 0 rfl) ?_
        refine gt_M (v := .int ((S.1 8))) hx hb hown hts hK hP 8 (by decide) rfl k_M_114 d_M_returns_85 ?_
        refine lv_iconst (v := 1) hx hb d_M_returns_88 (by decide) ?_
        refine lv_isub hx hb d_M_returns_89 ?_
        obtain ⟨hi, hw⟩ := hw
        refine va_iald (f := (S.2.1 7)) hx hb hK hP 3 0 rfl rfl hi d_M_returns_90 ?_
        refine cM_v (As := [.int (((S.2.1 7) (Int32.toNatClampNeg (((S.1 8) - 1)))))]) (rest := []) hx hb hml hown hts hK hP hD hS hA (Nat.zero_le _) (Nat.zero_le _) hl.1 (q_M_push hts ⟨Nat.le_of_ble_eq_true rfl, Nat.le_of_ble_eq_true rfl⟩) (c_M_push l g H.size _ (((S.2.1 7) (Int32.toNatClampNeg (((S.1 8) - 1))))) _ hw) rfl rfl (Nat.le_of_ble_eq_true rfl) d_M_returns_91 (fun S3 H locs hw hP hD hS => ?_)
        refine lv_aload_n hx hb d_M_returns_94 rfl (lv_at hl 0 rfl) ?_
        refine lv_aload_n hx hb d_M_returns_95 rfl (lv_at hl 0 rfl) ?_
        refine gt_M (v := .int ((S3.1 14))) hx hb hown hts hK hP 14 (by decide) rfl k_M_120 d_M_returns_96 ?_
        refine lv_if_ne hx hb d_M_returns_99 (tgt := 117) (by decide) (fun hc => ?_) (fun hc => ?_)
        · have hw := hw.2 hc
          exact J117 S3  _ _ _ hw (lv_sub hl [0] rfl) hP hD hS
        · have hw := hw.1 hc
          refine lv_iload_n hx hb d_M_returns_102 rfl (lv_at hl 1 rfl) ?_
          refine lv_bipush (v := 26) hx hb d_M_returns_103 (by decide) ?_
          refine lv_icmp_ne hx hb d_M_returns_105 (tgt := 117) (by decide) (fun hc => ?_) (fun hc => ?_)
          · have hw := hw.2 hc
            exact J117 S3  _ _ _ hw (lv_sub hl [0] rfl) hP hD hS
          · have hw := hw.1 hc
            refine lv_aload_n hx hb d_M_returns_108 rfl (lv_at hl 0 rfl) ?_
            refine gt_M (v := .int ((S3.1 8))) hx hb hown hts hK hP 8 (by decide) rfl k_M_114 d_M_returns_109 ?_
            refine lv_iconst (v := 1) hx hb d_M_returns_112 (by decide) ?_
            refine lv_isub hx hb d_M_returns_113 ?_
            refine lv_goto hx hb d_M_returns_114 (tgt := 121) (by decide) ?_
            exact J121 S3 (((S3.1 8) - 1)) _ _ _ hw (lv_sub hl [] rfl) hP hD hS
      · have hw := hw.1 hc
        refine lv_aload_n hx hb d_M_returns_71 rfl (lv_at hl 0 rfl) ?_
        refine lv_iconst (v := 2) hx hb d_M_returns_72 (by decide) ?_
        refine cM_v (As := [.int (2)]) (rest := []) hx hb hml hown hts hK hP hD hS hA (Nat.zero_le _) (Nat.zero_le _) hl.1 (q_M_fail hts ⟨Nat.le_of_ble_eq_true rfl, Nat.le_of_ble_eq_true rfl⟩) (c_M_fail l g H.size _ (2) _ hw) rfl rfl (Nat.le_of_ble_eq_true rfl) d_M_returns_73 (fun S4 H locs hw hP hD hS => ?_)
        refine lv_goto hx hb d_M_returns_76 (tgt := 194) (by decide) ?_
        exact J194 S4  _ _ _ hw (lv_sub hl [] rfl) hP hD hS
  · have hw := hw.1 hc
    refine lv_aload_n hx hb d_M_returns_6 rfl (lv_at hl 0 rfl) ?_
    refine lv_iconst (v := 1) hx hb d_M_returns_7 (by decide) ?_
    refine cM_i (As := [.int (1)]) (rest := []) hx hb hml hown hts hK hP hD hS hA (Nat.zero_le _) (Nat.zero_le _) hl.1 (q_M_needs hts ⟨Nat.le_of_ble_eq_true rfl, Nat.le_of_ble_eq_true rfl⟩) (c_M_needs l g H.size _ (1) _ hw) rfl rfl (Nat.le_of_ble_eq_true rfl) d_M_returns_8 (fun r6 S5 H locs hw hP hD hS => ?_)
    refine lv_if_ne hx hb d_M_returns_11 (tgt := 15) (by decide) (fun hc => ?_) (fun hc => ?_)
    · have hw := hw.2 hc
      refine lv_aload_n hx hb d_M_returns_15 rfl (lv_at hl 0 rfl) ?_
      refine gt_M (v := .int ((S5.1 8))) hx hb hown hts hK hP 8 (by decide) rfl k_M_114 d_M_returns_16 ?_
      refine lv_bipush (v := 24) hx hb d_M_returns_19 (by decide) ?_
      refine lv_icmp_lt hx hb d_M_returns_21 (tgt := 32) (by decide) (fun hc => ?_) (fun hc => ?_)
      · have hw := hw.1 hc
        refine lv_aload_n hx hb d_M_returns_32 rfl (lv_at hl 0 rfl) ?_
        refine gt_M (v := .ref (g.2.2 8)) hx hb hown hts hK hP 7 (by decide) rfl k_M_113 d_M_returns_33 ?_
        refine lv_aload_n hx hb d_M_returns_36 rfl (lv_at hl 0 rfl) ?_
        refine gt_M (v := .int ((S5.1 8))) hx hb hown hts hK hP 8 (by decide) rfl k_M_114 d_M_returns_37 ?_
        refine lv_aload_n hx hb d_M_returns_40 rfl (lv_at hl 0 rfl) ?_
        refine cM_i (As := []) (rest := [.int ((S5.1 8)), .ref (g.2.2 8)]) hx hb hml hown hts hK hP hD hS hA (Nat.zero_le _) (Nat.zero_le _) hl.1 (q_M_pop hts ⟨Nat.le_of_ble_eq_true rfl, Nat.le_of_ble_eq_true rfl⟩) (c_M_pop l g H.size _  _ hw) rfl rfl (Nat.le_of_ble_eq_true rfl) d_M_returns_41 (fun r8 S7 H locs hw hP hD hS => ?_)
        obtain ⟨hi, hw⟩ := hw
        refine ia_M (S2 := (S7.1, (va_up S7.2.1 7 (upd (S7.2.1 7) (Int32.toNatClampNeg ((S5.1 8))) (r8))), S7.2.2)) (f := (S7.2.1 7)) hx hb hK hP hD hS 3 rfl hi d_M_returns_44 (sA_M_7 g _ _) (fun H locs hP hD hS => ?_)
        refine lv_aload_n hx hb d_M_returns_45 rfl (lv_at hl 0 rfl) ?_
        refine lv_aload_n hx hb d_M_returns_46 rfl (lv_at hl 0 rfl) ?_
        refine gt_M (v := .int ((S7.1 8))) hx hb hown hts hK hP 8 (by decide) rfl k_M_114 d_M_returns_47 ?_
        refine lv_iconst (v := 1) hx hb d_M_returns_50 (by decide) ?_
        refine lv_iadd hx hb d_M_returns_51 ?_
        refine pt_M (S2 := ((upd S7.1 8 (((S7.1 8) + 1))), (va_up S7.2.1 7 (upd (S7.2.1 7) (Int32.toNatClampNeg ((S5.1 8))) (r8))), S7.2.2)) (v := .int (((S7.1 8) + 1))) hx hb hown hts hK hP hD hS 8 (by decide) rfl rfl rfl (sI_M_8 g _ _) k_M_114 d_M_returns_52 (fun H locs hP hD hS => ?_)
        refine lv_goto hx hb d_M_returns_55 (tgt := 194) (by decide) ?_
        exact J194 ((upd S7.1 8 (((S7.1 8) + 1))), (va_up S7.2.1 7 (upd (S7.2.1 7) (Int32.toNatClampNeg ((S5.1 8))) (r8))), S7.2.2)  _ _ _ hw (lv_sub hl [] rfl) hP hD hS
      · have hw := hw.2 hc
        refine lv_aload_n hx hb d_M_returns_24 rfl (lv_at hl 0 rfl) ?_
        refine lv_iconst (v := 3) hx hb d_M_returns_25 (by decide) ?_
        refine cM_v (As := [.int (3)]) (rest := []) hx hb hml hown hts hK hP hD hS hA (Nat.zero_le _) (Nat.zero_le _) hl.1 (q_M_fail hts ⟨Nat.le_of_ble_eq_true rfl, Nat.le_of_ble_eq_true rfl⟩) (c_M_fail l g H.size _ (3) _ hw) rfl rfl (Nat.le_of_ble_eq_true rfl) d_M_returns_26 (fun S9 H locs hw hP hD hS => ?_)
        refine lv_goto hx hb d_M_returns_29 (tgt := 194) (by decide) ?_
        exact J194 S9  _ _ _ hw (lv_sub hl [] rfl) hP hD hS
    · have hw := hw.1 hc
      exact kr S5 _ _ _ _ hw hP hD hS d_M_returns_14
theorem d_M_open_0 : decode b_M_open 0 = .ok (.aload_n 0, 1) := by decide +kernel
theorem d_M_open_1 : decode b_M_open 1 = .ok (.getfield 25, 3) := by decide +kernel
theorem d_M_open_4 : decode b_M_open 4 = .ok (.bipush 52, 2) := by decide +kernel
theorem d_M_open_6 : decode b_M_open 6 = .ok (.aload_n 0, 1) := by decide +kernel
theorem d_M_open_7 : decode b_M_open 7 = .ok (.getfield 227, 3) := by decide +kernel
theorem d_M_open_10 : decode b_M_open 10 = .ok (.iadd, 1) := by decide +kernel
theorem d_M_open_11 : decode b_M_open 11 = .ok (.aload_n 0, 1) := by decide +kernel
theorem d_M_open_12 : decode b_M_open 12 = .ok (.invokevirtual 223, 3) := by decide +kernel
theorem d_M_open_15 : decode b_M_open 15 = .ok (.lastore, 1) := by decide +kernel
theorem d_M_open_16 : decode b_M_open 16 = .ok (.aload_n 0, 1) := by decide +kernel
theorem d_M_open_17 : decode b_M_open 17 = .ok (.getfield 33, 3) := by decide +kernel
theorem d_M_open_20 : decode b_M_open 20 = .ok (.aload_n 0, 1) := by decide +kernel
theorem d_M_open_21 : decode b_M_open 21 = .ok (.getfield 227, 3) := by decide +kernel
theorem d_M_open_24 : decode b_M_open 24 = .ok (.iconst 0, 1) := by decide +kernel
theorem d_M_open_25 : decode b_M_open 25 = .ok (.iastore, 1) := by decide +kernel
theorem d_M_open_26 : decode b_M_open 26 = .ok (.aload_n 0, 1) := by decide +kernel
theorem d_M_open_27 : decode b_M_open 27 = .ok (.getfield 29, 3) := by decide +kernel
theorem d_M_open_30 : decode b_M_open 30 = .ok (.aload_n 0, 1) := by decide +kernel
theorem d_M_open_31 : decode b_M_open 31 = .ok (.getfield 227, 3) := by decide +kernel
theorem d_M_open_34 : decode b_M_open 34 = .ok (.iconst 0, 1) := by decide +kernel
theorem d_M_open_35 : decode b_M_open 35 = .ok (.bastore, 1) := by decide +kernel
theorem d_M_open_36 : decode b_M_open 36 = .ok (.return_, 1) := by decide +kernel
def wp_M_open (post : StM → Prop) (S : StM)  : Prop :=
  wp_M_key (fun (r2 : Int64) (S1 : StM) => ((vp_in (52 + (S.1 20)) 77) ∧ ((vp_in (S1.1 20) 25) ∧ ((vp_in (S1.1 20) 25) ∧ (post (S1.1, (va_up (va_up S1.2.1 17 (upd (S1.2.1 17) (Int32.toNatClampNeg ((S1.1 20))) (0))) 16 (upd (S1.2.1 16) (Int32.toNatClampNeg ((S1.1 20))) (vp_nar .boolean (0)))), (vp_updL S1.2.2 (Int32.toNatClampNeg ((52 + (S.1 20)))) (r2)))))))) S 
set_option maxRecDepth 100000 in
set_option maxHeartbeats 4000000 in
theorem c_M_open (l : Launch) (g : Gm) (sz : Nat) (S : StM)  (post : StM → Prop) (hw : wp_M_open post S ) : Met l y_M_open (.code y_M_open b_M_open 1 none :: w_M) (rmM 1 23) (va_Pc [.ref (g.2.2 0)] (PM g sz S)) (va_Qv post (BM g sz) (AM g sz)) 0 0 (AM g sz) := by
  refine ofM_v (by decide) (Nat.le_of_ble_eq_true rfl) (fun p e s m args below meth c Q H locs ls hx hb hml hts hown hK hA kr hl hP hD hS => ?_)
  have hl : lv_has ls 1 [(0, .ref (g.2.2 0))] := hl
  unfold wp_M_open at hw
  refine lv_aload_n hx hb d_M_open_0 rfl (lv_at hl 0 rfl) ?_
  refine gt_M (v := .ref (g.2.2 16)) hx hb hown hts hK hP 15 (by decide) rfl k_M_121 d_M_open_1 ?_
  refine lv_bipush (v := 52) hx hb d_M_open_4 (by decide) ?_
  refine lv_aload_n hx hb d_M_open_6 rfl (lv_at hl 0 rfl) ?_
  refine gt_M (v := .int ((S.1 20))) hx hb hown hts hK hP 20 (by decide) rfl k_M_126 d_M_open_7 ?_
  refine lv_iadd hx hb d_M_open_10 ?_
  refine lv_aload_n hx hb d_M_open_11 rfl (lv_at hl 0 rfl) ?_
  refine cM_l (As := []) (rest := [.int ((52 + (S.1 20))), .ref (g.2.2 16)]) hx hb hml hown hts hK hP hD hS hA (Nat.zero_le _) (Nat.zero_le _) hl.1 (q_M_key hts ⟨Nat.le_of_ble_eq_true rfl, Nat.le_of_ble_eq_true rfl⟩) (c_M_key l g H.size _  _ hw) rfl rfl (Nat.le_of_ble_eq_true rfl) d_M_open_12 (fun r2 S1 H locs hw hP hD hS => ?_)
  obtain ⟨hi, hw⟩ := hw
  refine la_M (S2 := (S1.1, S1.2.1, (vp_updL S1.2.2 (Int32.toNatClampNeg ((52 + (S.1 20)))) (r2)))) (f := S1.2.2) hx hb hK hP hD hS 6 rfl hi d_M_open_15 (sA_M_15 g _ _) (fun H locs hP hD hS => ?_)
  refine lv_aload_n hx hb d_M_open_16 rfl (lv_at hl 0 rfl) ?_
  refine gt_M (v := .ref (g.2.2 18)) hx hb hown hts hK hP 17 (by decide) rfl k_M_123 d_M_open_17 ?_
  refine lv_aload_n hx hb d_M_open_20 rfl (lv_at hl 0 rfl) ?_
  refine gt_M (v := .int ((S1.1 20))) hx hb hown hts hK hP 20 (by decide) rfl k_M_126 d_M_open_21 ?_
  refine lv_iconst (v := 0) hx hb d_M_open_24 (by decide) ?_
  obtain ⟨hi, hw⟩ := hw
  refine ia_M (S2 := (S1.1, (va_up S1.2.1 17 (upd (S1.2.1 17) (Int32.toNatClampNeg ((S1.1 20))) (0))), (vp_updL S1.2.2 (Int32.toNatClampNeg ((52 + (S.1 20)))) (r2)))) (f := (S1.2.1 17)) hx hb hK hP hD hS 8 rfl hi d_M_open_25 (sA_M_17 g _ _) (fun H locs hP hD hS => ?_)
  refine lv_aload_n hx hb d_M_open_26 rfl (lv_at hl 0 rfl) ?_
  refine gt_M (v := .ref (g.2.2 17)) hx hb hown hts hK hP 16 (by decide) rfl k_M_122 d_M_open_27 ?_
  refine lv_aload_n hx hb d_M_open_30 rfl (lv_at hl 0 rfl) ?_
  refine gt_M (v := .int ((S1.1 20))) hx hb hown hts hK hP 20 (by decide) rfl k_M_126 d_M_open_31 ?_
  refine lv_iconst (v := 0) hx hb d_M_open_34 (by decide) ?_
  obtain ⟨hi, hw⟩ := hw
  refine za_M (S2 := (S1.1, (va_up (va_up S1.2.1 17 (upd (S1.2.1 17) (Int32.toNatClampNeg ((S1.1 20))) (0))) 16 (upd (S1.2.1 16) (Int32.toNatClampNeg ((S1.1 20))) (vp_nar .boolean (0)))), (vp_updL S1.2.2 (Int32.toNatClampNeg ((52 + (S.1 20)))) (r2)))) (f := (S1.2.1 16)) hx hb hK hP hD hS 7 rfl hi d_M_open_35 (sA_M_16 g _ _) (fun H locs hP hD hS => ?_)
  exact kr (S1.1, (va_up (va_up S1.2.1 17 (upd (S1.2.1 17) (Int32.toNatClampNeg ((S1.1 20))) (0))) 16 (upd (S1.2.1 16) (Int32.toNatClampNeg ((S1.1 20))) (vp_nar .boolean (0)))), (vp_updL S1.2.2 (Int32.toNatClampNeg ((52 + (S.1 20)))) (r2))) _ _ _ _ hw hP hD hS d_M_open_36
theorem d_M_compile_0 : decode b_M_compile 0 = .ok (.aload_n 0, 1) := by decide +kernel
theorem d_M_compile_1 : decode b_M_compile 1 = .ok (.getfield 33, 3) := by decide +kernel
theorem d_M_compile_4 : decode b_M_compile 4 = .ok (.aload_n 0, 1) := by decide +kernel
theorem d_M_compile_5 : decode b_M_compile 5 = .ok (.getfield 227, 3) := by decide +kernel
theorem d_M_compile_8 : decode b_M_compile 8 = .ok (.iaload, 1) := by decide +kernel
theorem d_M_compile_9 : decode b_M_compile 9 = .ok (.bipush 60, 2) := by decide +kernel
theorem d_M_compile_11 : decode b_M_compile 11 = .ok (.if_icmp .lt 11, 3) := by decide +kernel
theorem d_M_compile_14 : decode b_M_compile 14 = .ok (.aload_n 0, 1) := by decide +kernel
theorem d_M_compile_15 : decode b_M_compile 15 = .ok (.iconst 3, 1) := by decide +kernel
theorem d_M_compile_16 : decode b_M_compile 16 = .ok (.invokevirtual 196, 3) := by decide +kernel
theorem d_M_compile_19 : decode b_M_compile 19 = .ok (.goto 69, 3) := by decide +kernel
theorem d_M_compile_22 : decode b_M_compile 22 = .ok (.aload_n 0, 1) := by decide +kernel
theorem d_M_compile_23 : decode b_M_compile 23 = .ok (.getfield 36, 3) := by decide +kernel
theorem d_M_compile_26 : decode b_M_compile 26 = .ok (.bipush 60, 2) := by decide +kernel
theorem d_M_compile_28 : decode b_M_compile 28 = .ok (.aload_n 0, 1) := by decide +kernel
theorem d_M_compile_29 : decode b_M_compile 29 = .ok (.getfield 227, 3) := by decide +kernel
theorem d_M_compile_32 : decode b_M_compile 32 = .ok (.imul, 1) := by decide +kernel
theorem d_M_compile_33 : decode b_M_compile 33 = .ok (.aload_n 0, 1) := by decide +kernel
theorem d_M_compile_34 : decode b_M_compile 34 = .ok (.getfield 33, 3) := by decide +kernel
theorem d_M_compile_37 : decode b_M_compile 37 = .ok (.aload_n 0, 1) := by decide +kernel
theorem d_M_compile_38 : decode b_M_compile 38 = .ok (.getfield 227, 3) := by decide +kernel
theorem d_M_compile_41 : decode b_M_compile 41 = .ok (.iaload, 1) := by decide +kernel
theorem d_M_compile_42 : decode b_M_compile 42 = .ok (.iadd, 1) := by decide +kernel
theorem d_M_compile_43 : decode b_M_compile 43 = .ok (.iload_n 1, 1) := by decide +kernel
theorem d_M_compile_44 : decode b_M_compile 44 = .ok (.iastore, 1) := by decide +kernel
theorem d_M_compile_45 : decode b_M_compile 45 = .ok (.aload_n 0, 1) := by decide +kernel
theorem d_M_compile_46 : decode b_M_compile 46 = .ok (.getfield 39, 3) := by decide +kernel
theorem d_M_compile_49 : decode b_M_compile 49 = .ok (.bipush 60, 2) := by decide +kernel
theorem d_M_compile_51 : decode b_M_compile 51 = .ok (.aload_n 0, 1) := by decide +kernel
theorem d_M_compile_52 : decode b_M_compile 52 = .ok (.getfield 227, 3) := by decide +kernel
theorem d_M_compile_55 : decode b_M_compile 55 = .ok (.imul, 1) := by decide +kernel
theorem d_M_compile_56 : decode b_M_compile 56 = .ok (.aload_n 0, 1) := by decide +kernel
theorem d_M_compile_57 : decode b_M_compile 57 = .ok (.getfield 33, 3) := by decide +kernel
theorem d_M_compile_60 : decode b_M_compile 60 = .ok (.aload_n 0, 1) := by decide +kernel
theorem d_M_compile_61 : decode b_M_compile 61 = .ok (.getfield 227, 3) := by decide +kernel
theorem d_M_compile_64 : decode b_M_compile 64 = .ok (.iaload, 1) := by decide +kernel
theorem d_M_compile_65 : decode b_M_compile 65 = .ok (.iadd, 1) := by decide +kernel
theorem d_M_compile_66 : decode b_M_compile 66 = .ok (.iload_n 2, 1) := by decide +kernel
theorem d_M_compile_67 : decode b_M_compile 67 = .ok (.iastore, 1) := by decide +kernel
theorem d_M_compile_68 : decode b_M_compile 68 = .ok (.aload_n 0, 1) := by decide +kernel
theorem d_M_compile_69 : decode b_M_compile 69 = .ok (.getfield 33, 3) := by decide +kernel
theorem d_M_compile_72 : decode b_M_compile 72 = .ok (.aload_n 0, 1) := by decide +kernel
theorem d_M_compile_73 : decode b_M_compile 73 = .ok (.getfield 227, 3) := by decide +kernel
theorem d_M_compile_76 : decode b_M_compile 76 = .ok (.aload_n 0, 1) := by decide +kernel
theorem d_M_compile_77 : decode b_M_compile 77 = .ok (.getfield 33, 3) := by decide +kernel
theorem d_M_compile_80 : decode b_M_compile 80 = .ok (.aload_n 0, 1) := by decide +kernel
theorem d_M_compile_81 : decode b_M_compile 81 = .ok (.getfield 227, 3) := by decide +kernel
theorem d_M_compile_84 : decode b_M_compile 84 = .ok (.iaload, 1) := by decide +kernel
theorem d_M_compile_85 : decode b_M_compile 85 = .ok (.iconst 1, 1) := by decide +kernel
theorem d_M_compile_86 : decode b_M_compile 86 = .ok (.iadd, 1) := by decide +kernel
theorem d_M_compile_87 : decode b_M_compile 87 = .ok (.iastore, 1) := by decide +kernel
theorem d_M_compile_88 : decode b_M_compile 88 = .ok (.return_, 1) := by decide +kernel
def wq_M_compile_88 (post : StM → Prop)  (S : StM)  : Prop :=
  post S
def wp_M_compile (post : StM → Prop) (S : StM) (a0 : Int32) (a1 : Int32) : Prop :=
  (vp_in (S.1 20) 25) ∧ (((((S.2.1 17) (Int32.toNatClampNeg ((S.1 20)))) < 60) → (vp_in (S.1 20) 25) ∧ ((vp_in ((60 * (S.1 20)) + ((S.2.1 17) (Int32.toNatClampNeg ((S.1 20))))) 1500) ∧ ((vp_in (S.1 20) 25) ∧ ((vp_in ((60 * (S.1 20)) + ((S.2.1 17) (Int32.toNatClampNeg ((S.1 20))))) 1500) ∧ ((vp_in (S.1 20) 25) ∧ ((vp_in (S.1 20) 25) ∧ (wq_M_compile_88 post  (S.1, (va_up (va_up (va_up S.2.1 18 (upd (S.2.1 18) (Int32.toNatClampNeg (((60 * (S.1 20)) + ((S.2.1 17) (Int32.toNatClampNeg ((S.1 20))))))) (a0))) 19 (upd (S.2.1 19) (Int32.toNatClampNeg (((60 * (S.1 20)) + ((S.2.1 17) (Int32.toNatClampNeg ((S.1 20))))))) (a1))) 17 (upd (S.2.1 17) (Int32.toNatClampNeg ((S.1 20))) ((((S.2.1 17) (Int32.toNatClampNeg ((S.1 20)))) + 1)))), S.2.2) ))))))) ∧ (¬ (((S.2.1 17) (Int32.toNatClampNeg ((S.1 20)))) < 60) → wp_M_fail (fun S1 : StM => (wq_M_compile_88 post  S1 )) S (3)))
set_option maxRecDepth 100000 in
set_option maxHeartbeats 4000000 in
theorem c_M_compile (l : Launch) (g : Gm) (sz : Nat) (S : StM) (a0 : Int32) (a1 : Int32) (post : StM → Prop) (hw : wp_M_compile post S a0 a1) : Met l y_M_compile (.code y_M_compile b_M_compile 3 none :: w_M) (rmM 1 21) (va_Pc [.ref (g.2.2 0), .int (a0), .int (a1)] (PM g sz S)) (va_Qv post (BM g sz) (AM g sz)) 0 0 (AM g sz) := by
  refine ofM_v (by decide) (Nat.le_of_ble_eq_true rfl) (fun p e s m args below meth c Q H locs ls hx hb hml hts hown hK hA kr hl hP hD hS => ?_)
  have hl : lv_has ls 3 [(0, .ref (g.2.2 0)), (1, .int (a0)), (2, .int (a1))] := hl
  unfold wp_M_compile at hw
  have J88 : ∀ (S : StM)  (H : Heap) (locs : List Loc) (ls : Array Slot), wq_M_compile_88 post  S  → lv_has ls 3 [] → va_P g.1 classes (wM g S) H → va_D (AM g s.heap.size) (wM g S) → va_S (AM g s.heap.size) s.heap H locs → W p l e (rmM 1 21) s m args below meth c H locs 0 0 Q (F0 m 88 ls []) := by
    intro S  H locs ls hw hl hP hD hS
    unfold wq_M_compile_88 at hw
    exact kr S _ _ _ _ hw hP hD hS d_M_compile_88
  refine lv_aload_n hx hb d_M_compile_0 rfl (lv_at hl 0 rfl) ?_
  refine gt_M (v := .ref (g.2.2 18)) hx hb hown hts hK hP 17 (by decide) rfl k_M_123 d_M_compile_1 ?_
  refine lv_aload_n hx hb d_M_compile_4 rfl (lv_at hl 0 rfl) ?_
  refine gt_M (v := .int ((S.1 20))) hx hb hown hts hK hP 20 (by decide) rfl k_M_126 d_M_compile_5 ?_
  obtain ⟨hi, hw⟩ := hw
  refine va_iald (f := (S.2.1 17)) hx hb hK hP 8 0 rfl rfl hi d_M_compile_8 ?_
  refine lv_bipush (v := 60) hx hb d_M_compile_9 (by decide) ?_
  refine lv_icmp_lt hx hb d_M_compile_11 (tgt := 22) (by decide) (fun hc => ?_) (fun hc => ?_)
  · have hw := hw.1 hc
    refine lv_aload_n hx hb d_M_compile_22 rfl (lv_at hl 0 rfl) ?_
    refine gt_M (v := .ref (g.2.2 19)) hx hb hown hts hK hP 18 (by decide) rfl k_M_124 d_M_compile_23 ?_
    refine lv_bipush (v := 60) hx hb d_M_compile_26 (by decide) ?_
    refine lv_aload_n hx hb d_M_compile_28 rfl (lv_at hl 0 rfl) ?_
    refine gt_M (v := .int ((S.1 20))) hx hb hown hts hK hP 20 (by decide) rfl k_M_126 d_M_compile_29 ?_
    refine lv_imul hx hb d_M_compile_32 ?_
    refine lv_aload_n hx hb d_M_compile_33 rfl (lv_at hl 0 rfl) ?_
    refine gt_M (v := .ref (g.2.2 18)) hx hb hown hts hK hP 17 (by decide) rfl k_M_123 d_M_compile_34 ?_
    refine lv_aload_n hx hb d_M_compile_37 rfl (lv_at hl 0 rfl) ?_
    refine gt_M (v := .int ((S.1 20))) hx hb hown hts hK hP 20 (by decide) rfl k_M_126 d_M_compile_38 ?_
    obtain ⟨hi, hw⟩ := hw
    refine va_iald (f := (S.2.1 17)) hx hb hK hP 8 0 rfl rfl hi d_M_compile_41 ?_
    refine lv_iadd hx hb d_M_compile_42 ?_
    refine lv_iload_n hx hb d_M_compile_43 rfl (lv_at hl 1 rfl) ?_
    obtain ⟨hi, hw⟩ := hw
    refine ia_M (S2 := (S.1, (va_up S.2.1 18 (upd (S.2.1 18) (Int32.toNatClampNeg (((60 * (S.1 20)) + ((S.2.1 17) (Int32.toNatClampNeg ((S.1 20))))))) (a0))), S.2.2)) (f := (S.2.1 18)) hx hb hK hP hD hS 9 rfl hi d_M_compile_44 (sA_M_18 g _ _) (fun H locs hP hD hS => ?_)
    refine lv_aload_n hx hb d_M_compile_45 rfl (lv_at hl 0 rfl) ?_
    refine gt_M (v := .ref (g.2.2 20)) hx hb hown hts hK hP 19 (by decide) rfl k_M_125 d_M_compile_46 ?_
    refine lv_bipush (v := 60) hx hb d_M_compile_49 (by decide) ?_
    refine lv_aload_n hx hb d_M_compile_51 rfl (lv_at hl 0 rfl) ?_
    refine gt_M (v := .int ((S.1 20))) hx hb hown hts hK hP 20 (by decide) rfl k_M_126 d_M_compile_52 ?_
    refine lv_imul hx hb d_M_compile_55 ?_
    refine lv_aload_n hx hb d_M_compile_56 rfl (lv_at hl 0 rfl) ?_
    refine gt_M (v := .ref (g.2.2 18)) hx hb hown hts hK hP 17 (by decide) rfl k_M_123 d_M_compile_57 ?_
    refine lv_aload_n hx hb d_M_compile_60 rfl (lv_at hl 0 rfl) ?_
    refine gt_M (v := .int ((S.1 20))) hx hb hown hts hK hP 20 (by decide) rfl k_M_126 d_M_compile_61 ?_
    obtain ⟨hi, hw⟩ := hw
    refine va_iald (f := (S.2.1 17)) hx hb hK hP 8 0 rfl rfl hi d_M_compile_64 ?_
    refine lv_iadd hx hb d_M_compile_65 ?_
    refine lv_iload_n hx hb d_M_compile_66 rfl (lv_at hl 2 rfl) ?_
    obtain ⟨hi, hw⟩ := hw
    refine ia_M (S2 := (S.1, (va_up (va_up S.2.1 18 (upd (S.2.1 18) (Int32.toNatClampNeg (((60 * (S.1 20)) + ((S.2.1 17) (Int32.toNatClampNeg ((S.1 20))))))) (a0))) 19 (upd (S.2.1 19) (Int32.toNatClampNeg (((60 * (S.1 20)) + ((S.2.1 17) (Int32.toNatClampNeg ((S.1 20))))))) (a1))), S.2.2)) (f := (S.2.1 19)) hx hb hK hP hD hS 10 rfl hi d_M_compile_67 (sA_M_19 g _ _) (fun H locs hP hD hS => ?_)
    refine lv_aload_n hx hb d_M_compile_68 rfl (lv_at hl 0 rfl) ?_
    refine gt_M (v := .ref (g.2.2 18)) hx hb hown hts hK hP 17 (by decide) rfl k_M_123 d_M_compile_69 ?_
    refine lv_aload_n hx hb d_M_compile_72 rfl (lv_at hl 0 rfl) ?_
    refine gt_M (v := .int ((S.1 20))) hx hb hown hts hK hP 20 (by decide) rfl k_M_126 d_M_compile_73 ?_
    refine lv_aload_n hx hb d_M_compile_76 rfl (lv_at hl 0 rfl) ?_
    refine gt_M (v := .ref (g.2.2 18)) hx hb hown hts hK hP 17 (by decide) rfl k_M_123 d_M_compile_77 ?_
    refine lv_aload_n hx hb d_M_compile_80 rfl (lv_at hl 0 rfl) ?_
    refine gt_M (v := .int ((S.1 20))) hx hb hown hts hK hP 20 (by decide) rfl k_M_126 d_M_compile_81 ?_
    obtain ⟨hi, hw⟩ := hw
    refine va_iald (f := (S.2.1 17)) hx hb hK hP 8 0 rfl rfl hi d_M_compile_84 ?_
    refine lv_iconst (v := 1) hx hb d_M_compile_85 (by decide) ?_
    refine lv_iadd hx hb d_M_compile_86 ?_
    obtain ⟨hi, hw⟩ := hw
    refine ia_M (S2 := (S.1, (va_up (va_up (va_up S.2.1 18 (upd (S.2.1 18) (Int32.toNatClampNeg (((60 * (S.1 20)) + ((S.2.1 17) (Int32.toNatClampNeg ((S.1 20))))))) (a0))) 19 (upd (S.2.1 19) (Int32.toNatClampNeg (((60 * (S.1 20)) + ((S.2.1 17) (Int32.toNatClampNeg ((S.1 20))))))) (a1))) 17 (upd (S.2.1 17) (Int32.toNatClampNeg ((S.1 20))) ((((S.2.1 17) (Int32.toNatClampNeg ((S.1 20)))) + 1)))), S.2.2)) (f := (S.2.1 17)) hx hb hK hP hD hS 8 rfl hi d_M_compile_87 (sA_M_17 g _ _) (fun H locs hP hD hS => ?_)
    exact J88 (S.1, (va_up (va_up (va_up S.2.1 18 (upd (S.2.1 18) (Int32.toNatClampNeg (((60 * (S.1 20)) + ((S.2.1 17) (Int32.toNatClampNeg ((S.1 20))))))) (a0))) 19 (upd (S.2.1 19) (Int32.toNatClampNeg (((60 * (S.1 20)) + ((S.2.1 17) (Int32.toNatClampNeg ((S.1 20))))))) (a1))) 17 (upd (S.2.1 17) (Int32.toNatClampNeg ((S.1 20))) ((((S.2.1 17) (Int32.toNatClampNeg ((S.1 20)))) + 1)))), S.2.2)  _ _ _ hw (lv_sub hl [] rfl) hP hD hS
  · have hw := hw.2 hc
    refine lv_aload_n hx hb d_M_compile_14 rfl (lv_at hl 0 rfl) ?_
    refine lv_iconst (v := 3) hx hb d_M_compile_15 (by decide) ?_
    refine cM_v (As := [.int (3)]) (rest := []) hx hb hml hown hts hK hP hD hS hA (Nat.zero_le _) (Nat.zero_le _) hl.1 (q_M_fail hts ⟨Nat.le_of_ble_eq_true rfl, Nat.le_of_ble_eq_true rfl⟩) (c_M_fail l g H.size _ (3) _ hw) rfl rfl (Nat.le_of_ble_eq_true rfl) d_M_compile_16 (fun S1 H locs hw hP hD hS => ?_)
    refine lv_goto hx hb d_M_compile_19 (tgt := 88) (by decide) ?_
    exact J88 S1  _ _ _ hw (lv_sub hl [] rfl) hP hD hS
theorem d_M_begin_0 : decode b_M_begin 0 = .ok (.iload_n 1, 1) := by decide +kernel
theorem d_M_begin_1 : decode b_M_begin 1 = .ok (.bipush 35, 2) := by decide +kernel
theorem d_M_begin_3 : decode b_M_begin 3 = .ok (.if_icmp .ne 14, 3) := by decide +kernel
theorem d_M_begin_6 : decode b_M_begin 6 = .ok (.aload_n 0, 1) := by decide +kernel
theorem d_M_begin_7 : decode b_M_begin 7 = .ok (.iconst 1, 1) := by decide +kernel
theorem d_M_begin_8 : decode b_M_begin 8 = .ok (.putfield 260, 3) := by decide +kernel
theorem d_M_begin_11 : decode b_M_begin 11 = .ok (.aload_n 0, 1) := by decide +kernel
theorem d_M_begin_12 : decode b_M_begin 12 = .ok (.iconst 0, 1) := by decide +kernel
theorem d_M_begin_13 : decode b_M_begin 13 = .ok (.putfield 276, 3) := by decide +kernel
theorem d_M_begin_16 : decode b_M_begin 16 = .ok (.return_, 1) := by decide +kernel
theorem d_M_begin_17 : decode b_M_begin 17 = .ok (.aload_n 0, 1) := by decide +kernel
theorem d_M_begin_18 : decode b_M_begin 18 = .ok (.iconst 1, 1) := by decide +kernel
theorem d_M_begin_19 : decode b_M_begin 19 = .ok (.iload_n 1, 1) := by decide +kernel
theorem d_M_begin_20 : decode b_M_begin 20 = .ok (.bipush 33, 2) := by decide +kernel
theorem d_M_begin_22 : decode b_M_begin 22 = .ok (.if_icmp .ne 10, 3) := by decide +kernel
theorem d_M_begin_25 : decode b_M_begin 25 = .ok (.aload_n 0, 1) := by decide +kernel
theorem d_M_begin_26 : decode b_M_begin 26 = .ok (.getfield 251, 3) := by decide +kernel
theorem d_M_begin_29 : decode b_M_begin 29 = .ok (.goto 7, 3) := by decide +kernel
theorem d_M_begin_32 : decode b_M_begin 32 = .ok (.aload_n 0, 1) := by decide +kernel
theorem d_M_begin_33 : decode b_M_begin 33 = .ok (.invokevirtual 241, 3) := by decide +kernel
theorem d_M_begin_36 : decode b_M_begin 36 = .ok (.invokevirtual 279, 3) := by decide +kernel
theorem d_M_begin_39 : decode b_M_begin 39 = .ok (.aload_n 0, 1) := by decide +kernel
theorem d_M_begin_40 : decode b_M_begin 40 = .ok (.aload_n 0, 1) := by decide +kernel
theorem d_M_begin_41 : decode b_M_begin 41 = .ok (.getfield 227, 3) := by decide +kernel
theorem d_M_begin_44 : decode b_M_begin 44 = .ok (.iconst 1, 1) := by decide +kernel
theorem d_M_begin_45 : decode b_M_begin 45 = .ok (.iadd, 1) := by decide +kernel
theorem d_M_begin_46 : decode b_M_begin 46 = .ok (.putfield 227, 3) := by decide +kernel
theorem d_M_begin_49 : decode b_M_begin 49 = .ok (.iload_n 1, 1) := by decide +kernel
theorem d_M_begin_50 : decode b_M_begin 50 = .ok (.bipush 33, 2) := by decide +kernel
theorem d_M_begin_52 : decode b_M_begin 52 = .ok (.if_icmp .ne 23, 3) := by decide +kernel
theorem d_M_begin_55 : decode b_M_begin 55 = .ok (.aload_n 0, 1) := by decide +kernel
theorem d_M_begin_56 : decode b_M_begin 56 = .ok (.getfield 19, 3) := by decide +kernel
theorem d_M_begin_59 : decode b_M_begin 59 = .ok (.aload_n 0, 1) := by decide +kernel
theorem d_M_begin_60 : decode b_M_begin 60 = .ok (.getfield 251, 3) := by decide +kernel
theorem d_M_begin_63 : decode b_M_begin 63 = .ok (.iconst 0, 1) := by decide +kernel
theorem d_M_begin_64 : decode b_M_begin 64 = .ok (.iastore, 1) := by decide +kernel
theorem d_M_begin_65 : decode b_M_begin 65 = .ok (.aload_n 0, 1) := by decide +kernel
theorem d_M_begin_66 : decode b_M_begin 66 = .ok (.aload_n 0, 1) := by decide +kernel
theorem d_M_begin_67 : decode b_M_begin 67 = .ok (.getfield 251, 3) := by decide +kernel
theorem d_M_begin_70 : decode b_M_begin 70 = .ok (.iconst 1, 1) := by decide +kernel
theorem d_M_begin_71 : decode b_M_begin 71 = .ok (.iadd, 1) := by decide +kernel
theorem d_M_begin_72 : decode b_M_begin 72 = .ok (.putfield 251, 3) := by decide +kernel
theorem d_M_begin_75 : decode b_M_begin 75 = .ok (.return_, 1) := by decide +kernel
def wq_M_begin_75 (post : StM → Prop)  (S : StM)  : Prop :=
  post S
def wq_M_begin_36 (post : StM → Prop)  (S : StM) (x1 : Int32) (t0 : Int32) (t1 : Int32) : Prop :=
  wp_M_compile (fun S1 : StM => (((x1 = 33) → (vp_in (S1.1 10) 96) ∧ (wq_M_begin_75 post  ((upd (upd S1.1 20 (((S1.1 20) + 1))) 10 (((S1.1 10) + 1))), (va_up S1.2.1 9 (upd (S1.2.1 9) (Int32.toNatClampNeg ((S1.1 10))) (0))), S1.2.2) )) ∧ (¬ (x1 = 33) → wq_M_begin_75 post  ((upd S1.1 20 (((S1.1 20) + 1))), S1.2) ))) S (t1) (t0)
def wp_M_begin (post : StM → Prop) (S : StM) (a0 : Int32) : Prop :=
  ((a0 = 35) → post ((upd (upd S.1 21 (1)) 22 (0)), S.2)) ∧ (¬ (a0 = 35) → ((a0 = 33) → wq_M_begin_36 post  S (a0) ((S.1 10)) (1)) ∧ (¬ (a0 = 33) → wp_M_pop (fun (r3 : Int32) (S2 : StM) => (wq_M_begin_36 post  S2 (a0) (r3) (1))) S ))
set_option maxRecDepth 100000 in
set_option maxHeartbeats 4000000 in
theorem c_M_begin (l : Launch) (g : Gm) (sz : Nat) (S : StM) (a0 : Int32) (post : StM → Prop) (hw : wp_M_begin post S a0) : Met l y_M_begin (.code y_M_begin b_M_begin 2 none :: w_M) (rmM 2 43) (va_Pc [.ref (g.2.2 0), .int (a0)] (PM g sz S)) (va_Qv post (BM g sz) (AM g sz)) 0 0 (AM g sz) := by
  refine ofM_v (by decide) (Nat.le_of_ble_eq_true rfl) (fun p e s m args below meth c Q H locs ls hx hb hml hts hown hK hA kr hl hP hD hS => ?_)
  have hl : lv_has ls 2 [(0, .ref (g.2.2 0)), (1, .int (a0))] := hl
  unfold wp_M_begin at hw
  have J75 : ∀ (S : StM)  (H : Heap) (locs : List Loc) (ls : Array Slot), wq_M_begin_75 post  S  → lv_has ls 2 [] → va_P g.1 classes (wM g S) H → va_D (AM g s.heap.size) (wM g S) → va_S (AM g s.heap.size) s.heap H locs → W p l e (rmM 2 43) s m args below meth c H locs 0 0 Q (F0 m 75 ls []) := by
    intro S  H locs ls hw hl hP hD hS
    unfold wq_M_begin_75 at hw
    exact kr S _ _ _ _ hw hP hD hS d_M_begin_75
  have J36 : ∀ (S : StM) (x1 : Int32) (t0 : Int32) (t1 : Int32) (H : Heap) (locs : List Loc) (ls : Array Slot), wq_M_begin_36 post  S x1 t0 t1 → lv_has ls 2 [(0, .ref (g.2.2 0)), (1, .int (x1))] → va_P g.1 classes (wM g S) H → va_D (AM g s.heap.size) (wM g S) → va_S (AM g s.heap.size) s.heap H locs → W p l e (rmM 2 43) s m args below meth c H locs 0 0 Q (F0 m 36 ls [.int (t0), .int (t1), .ref (g.2.2 0)]) := by
    intro S x1 t0 t1 H locs ls hw hl hP hD hS
    unfold wq_M_begin_36 at hw
    refine cM_v (As := [.int (t1), .int (t0)]) (rest := []) hx hb hml hown hts hK hP hD hS hA (Nat.zero_le _) (Nat.zero_le _) hl.1 (q_M_compile hts ⟨Nat.le_of_ble_eq_true rfl, Nat.le_of_ble_eq_true rfl⟩) (c_M_compile l g H.size _ (t1) (t0) _ hw) rfl rfl (Nat.le_of_ble_eq_true rfl) d_M_begin_36 (fun S1 H locs hw hP hD hS => ?_)
    refine lv_aload_n hx hb d_M_begin_39 rfl (lv_at hl 0 rfl) ?_
    refine lv_aload_n hx hb d_M_begin_40 rfl (lv_at hl 0 rfl) ?_
    refine gt_M (v := .int ((S1.1 20))) hx hb hown hts hK hP 20 (by decide) rfl k_M_126 d_M_begin_41 ?_
    refine lv_iconst (v := 1) hx hb d_M_begin_44 (by decide) ?_
    refine lv_iadd hx hb d_M_begin_45 ?_
    refine pt_M (S2 := ((upd S1.1 20 (((S1.1 20) + 1))), S1.2)) (v := .int (((S1.1 20) + 1))) hx hb hown hts hK hP hD hS 20 (by decide) rfl rfl rfl (sI_M_20 g _ _) k_M_126 d_M_begin_46 (fun H locs hP hD hS => ?_)
    refine lv_iload_n hx hb d_M_begin_49 rfl (lv_at hl 1 rfl) ?_
    refine lv_bipush (v := 33) hx hb d_M_begin_50 (by decide) ?_
    refine lv_icmp_ne hx hb d_M_begin_52 (tgt := 75) (by decide) (fun hc => ?_) (fun hc => ?_)
    · have hw := hw.2 hc
      exact J75 ((upd S1.1 20 (((S1.1 20) + 1))), S1.2)  _ _ _ hw (lv_sub hl [] rfl) hP hD hS
    · have hw := hw.1 hc
      refine lv_aload_n hx hb d_M_begin_55 rfl (lv_at hl 0 rfl) ?_
      refine gt_M (v := .ref (g.2.2 10)) hx hb hown hts hK hP 9 (by decide) rfl k_M_115 d_M_begin_56 ?_
      refine lv_aload_n hx hb d_M_begin_59 rfl (lv_at hl 0 rfl) ?_
      refine gt_M (v := .int ((S1.1 10))) hx hb hown hts hK hP 10 (by decide) rfl k_M_116 d_M_begin_60 ?_
      refine lv_iconst (v := 0) hx hb d_M_begin_63 (by decide) ?_
      obtain ⟨hi, hw⟩ := hw
      refine ia_M (S2 := ((upd S1.1 20 (((S1.1 20) + 1))), (va_up S1.2.1 9 (upd (S1.2.1 9) (Int32.toNatClampNeg ((S1.1 10))) (0))), S1.2.2)) (f := (S1.2.1 9)) hx hb hK hP hD hS 4 rfl hi d_M_begin_64 (sA_M_9 g _ _) (fun H locs hP hD hS => ?_)
      refine lv_aload_n hx hb d_M_begin_65 rfl (lv_at hl 0 rfl) ?_
      refine lv_aload_n hx hb d_M_begin_66 rfl (lv_at hl 0 rfl) ?_
      refine gt_M (v := .int ((S1.1 10))) hx hb hown hts hK hP 10 (by decide) rfl k_M_116 d_M_begin_67 ?_
      refine lv_iconst (v := 1) hx hb d_M_begin_70 (by decide) ?_
      refine lv_iadd hx hb d_M_begin_71 ?_
      refine pt_M (S2 := ((upd (upd S1.1 20 (((S1.1 20) + 1))) 10 (((S1.1 10) + 1))), (va_up S1.2.1 9 (upd (S1.2.1 9) (Int32.toNatClampNeg ((S1.1 10))) (0))), S1.2.2)) (v := .int (((S1.1 10) + 1))) hx hb hown hts hK hP hD hS 10 (by decide) rfl rfl rfl (sI_M_10 g _ _) k_M_116 d_M_begin_72 (fun H locs hP hD hS => ?_)
      exact J75 ((upd (upd S1.1 20 (((S1.1 20) + 1))) 10 (((S1.1 10) + 1))), (va_up S1.2.1 9 (upd (S1.2.1 9) (Int32.toNatClampNeg ((S1.1 10))) (0))), S1.2.2)  _ _ _ hw (lv_sub hl [] rfl) hP hD hS
  refine lv_iload_n hx hb d_M_begin_0 rfl (lv_at hl 1 rfl) ?_
  refine lv_bipush (v := 35) hx hb d_M_begin_1 (by decide) ?_
  refine lv_icmp_ne hx hb d_M_begin_3 (tgt := 17) (by decide) (fun hc => ?_) (fun hc => ?_)
  · have hw := hw.2 hc
    refine lv_aload_n hx hb d_M_begin_17 rfl (lv_at hl 0 rfl) ?_
    refine lv_iconst (v := 1) hx hb d_M_begin_18 (by decide) ?_
    refine lv_iload_n hx hb d_M_begin_19 rfl (lv_at hl 1 rfl) ?_
    refine lv_bipush (v := 33) hx hb d_M_begin_20 (by decide) ?_
    refine lv_icmp_ne hx hb d_M_begin_22 (tgt := 32) (by decide) (fun hc => ?_) (fun hc => ?_)
    · have hw := hw.2 hc
      refine lv_aload_n hx hb d_M_begin_32 rfl (lv_at hl 0 rfl) ?_
      refine cM_i (As := []) (rest := [.int (1), .ref (g.2.2 0)]) hx hb hml hown hts hK hP hD hS hA (Nat.zero_le _) (Nat.zero_le _) hl.1 (q_M_pop hts ⟨Nat.le_of_ble_eq_true rfl, Nat.le_of_ble_eq_true rfl⟩) (c_M_pop l g H.size _  _ hw) rfl rfl (Nat.le_of_ble_eq_true rfl) d_M_begin_33 (fun r3 S2 H locs hw hP hD hS => ?_)
      exact J36 S2 (a0) (r3) (1) _ _ _ hw (lv_sub hl [0, 1] rfl) hP hD hS
    · have hw := hw.1 hc
      refine lv_aload_n hx hb d_M_begin_25 rfl (lv_at hl 0 rfl) ?_
      refine gt_M (v := .int ((S.1 10))) hx hb hown hts hK hP 10 (by decide) rfl k_M_116 d_M_begin_26 ?_
      refine lv_goto hx hb d_M_begin_29 (tgt := 36) (by decide) ?_
      exact J36 S (a0) ((S.1 10)) (1) _ _ _ hw (lv_sub hl [0, 1] rfl) hP hD hS
  · have hw := hw.1 hc
    refine lv_aload_n hx hb d_M_begin_6 rfl (lv_at hl 0 rfl) ?_
    refine lv_iconst (v := 1) hx hb d_M_begin_7 (by decide) ?_
    refine pt_M (S2 := ((upd S.1 21 (1)), S.2)) (v := .int (1)) hx hb hown hts hK hP hD hS 21 (by decide) rfl rfl rfl (sI_M_21 g _ _) k_M_127 d_M_begin_8 (fun H locs hP hD hS => ?_)
    refine lv_aload_n hx hb d_M_begin_11 rfl (lv_at hl 0 rfl) ?_
    refine lv_iconst (v := 0) hx hb d_M_begin_12 (by decide) ?_
    refine pt_M (S2 := ((upd (upd S.1 21 (1)) 22 (0)), S.2)) (v := .int (0)) hx hb hown hts hK hP hD hS 22 (by decide) rfl rfl rfl (sI_M_22 g _ _) k_M_128 d_M_begin_13 (fun H locs hP hD hS => ?_)
    exact kr ((upd (upd S.1 21 (1)) 22 (0)), S.2) _ _ _ _ hw hP hD hS d_M_begin_16
