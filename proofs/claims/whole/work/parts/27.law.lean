/-! THE CLAIM OUT OF ONE WALK OF THE LAW'S BODY. Your part is whole_start (and what it stands on); all else here is the same for every law, but numbers. -/
def R_law : String := "WordSmithLaw"
def lw_P (b : Addr) (xs : List Int32) (args : Array Value) (s : State) : Prop := args = #[.ref b] ∧ s.IntsAt b xs ∧ xs.length ≤ 1536 ∧ (Jvm.Cond.and given_1 narrow_1).before args s = true
def lw_Q (_ : Array Value) (s : State) (o : Outcome) (t : State) : Prop := o = .returned (some (.int 1)) ∧ Framed s o t [] 715962 6954363
def lw_Z (below : List Frame) (a : Array Value) (s : State) : State → Prop := fun t => ∃ o, t.status = .running ∧ Ended t below o ∧ lw_Q a s o t
/-- the law's own end, with 1 on the stack, nothing written that was there before, its room as the claim has it -/
theorem lw_ret {p : Program} {l : Launch} {e : Env} {s : State} {m : MethodId} {below : List Frame} {meth : Method} {c : Code} {b : Nat} (hx : p.tables.exec = Jvm.exec) (hb : c.code = code) (hr : meth.sig.returnType = ret) (hlocks : meth.locks = false) {pc : Nat} {H : Heap} {ls : Array Slot} (hdg : decode code pc = .ok (.ireturn, 1)) : W p l e room_1 s m #[Value.ref b] below meth c H [] 715962 6954363 (lw_Z below #[Value.ref b] s) (F0 m pc ls [.int 1]) := by
  intro T hT X
  obtain ⟨fs, hret, hrun, hended, hW, hframe⟩ := X.leave (v := some (.int 1)) (hlocks := hlocks) (fun h => by rw [hr] at h; cases h)
  have hmeth' : T.vm.method? m = some meth := X.method'
  refine ⟨T.setFrames fs, ?_, .returned (some (.int 1)), hrun, hended, rfl, ⟨_, rfl⟩, hW, hframe⟩
  jvm_step X.here [X.here.top, hx, hb, hdg, hmeth', hr, ret, narrow_b1]
  (try refine ⟨rfl, ?_⟩); (try refine ⟨rfl, ?_⟩)
  first | (intro acts; rw [hret _ acts rfl rfl rfl]) | rw [hret _ _ rfl rfl rfl]
  exact Steps.refl _
/-- what holds at the law's entry: the machine, the code, the tables' words (any of lw_tbl by 'hts w (by decide +kernel)'), the script of L ints xs at the cell b, what the Statement gives of the start (any of its parts by flat_of_before) -/
def lw_At (p : Program) (s : State) (m : MethodId) (meth : Method) (c : Code) (b L : Nat) (xs : Nat → Int32) : Prop :=
  p.tables.exec = Jvm.exec ∧ c.code = code ∧ meth.sig.returnType = ret ∧ c.maxLocals = 4 ∧ s.vm.findClass R_law = some m.cls ∧ (∀ w ∈ lw_tbl, w.before #[Value.ref b] s = true) ∧ va_X b L xs s s.heap ∧ b < s.heap.size ∧ meth.locks = false ∧ (Jvm.Cond.and given_1 narrow_1).before #[Value.ref b] s = true
abbrev cL_law : ByteArray := code
theorem dL_law_0 : decode cL_law 0 = .ok (.new 7, 3) := by decide +kernel
theorem dL_law_3 : decode cL_law 3 = .ok (.dup, 1) := by decide +kernel
theorem dL_law_4 : decode cL_law 4 = .ok (.invokespecial 9, 3) := by decide +kernel
theorem dL_law_7 : decode cL_law 7 = .ok (.astore_n 1, 1) := by decide +kernel
theorem dL_law_8 : decode cL_law 8 = .ok (.new 10, 3) := by decide +kernel
theorem dL_law_11 : decode cL_law 11 = .ok (.dup, 1) := by decide +kernel
theorem dL_law_12 : decode cL_law 12 = .ok (.invokespecial 12, 3) := by decide +kernel
theorem dL_law_15 : decode cL_law 15 = .ok (.astore_n 2, 1) := by decide +kernel
theorem dL_law_16 : decode cL_law 16 = .ok (.iconst 0, 1) := by decide +kernel
theorem dL_law_17 : decode cL_law 17 = .ok (.istore_n 3, 1) := by decide +kernel
theorem dL_law_18 : decode cL_law 18 = .ok (.iload_n 3, 1) := by decide +kernel
theorem dL_law_19 : decode cL_law 19 = .ok (.aload_n 0, 1) := by decide +kernel
theorem dL_law_20 : decode cL_law 20 = .ok (.arraylength, 1) := by decide +kernel
theorem dL_law_21 : decode cL_law 21 = .ok (.iconst 3, 1) := by decide +kernel
theorem dL_law_22 : decode cL_law 22 = .ok (.isub, 1) := by decide +kernel
theorem dL_law_23 : decode cL_law 23 = .ok (.if_icmp .gt 284, 3) := by decide +kernel
theorem dL_law_26 : decode cL_law 26 = .ok (.aload_n 0, 1) := by decide +kernel
theorem dL_law_27 : decode cL_law 27 = .ok (.iload_n 3, 1) := by decide +kernel
theorem dL_law_28 : decode cL_law 28 = .ok (.iaload, 1) := by decide +kernel
theorem dL_law_29 : decode cL_law 29 = .ok (.bipush 15, 2) := by decide +kernel
theorem dL_law_31 : decode cL_law 31 = .ok (.iand, 1) := by decide +kernel
theorem dL_law_32 : decode cL_law 32 = .ok (.tableswitch 269 0 8 #[52, 85, 98, 121, 144, 167, 190, 223, 246], 52) := by decide +kernel
theorem dL_law_84 : decode cL_law 84 = .ok (.aload_n 1, 1) := by decide +kernel
theorem dL_law_85 : decode cL_law 85 = .ok (.aload_n 0, 1) := by decide +kernel
theorem dL_law_86 : decode cL_law 86 = .ok (.iload_n 3, 1) := by decide +kernel
theorem dL_law_87 : decode cL_law 87 = .ok (.iconst 1, 1) := by decide +kernel
theorem dL_law_88 : decode cL_law 88 = .ok (.iadd, 1) := by decide +kernel
theorem dL_law_89 : decode cL_law 89 = .ok (.iaload, 1) := by decide +kernel
theorem dL_law_90 : decode cL_law 90 = .ok (.aload_n 0, 1) := by decide +kernel
theorem dL_law_91 : decode cL_law 91 = .ok (.iload_n 3, 1) := by decide +kernel
theorem dL_law_92 : decode cL_law 92 = .ok (.iconst 2, 1) := by decide +kernel
theorem dL_law_93 : decode cL_law 93 = .ok (.iadd, 1) := by decide +kernel
theorem dL_law_94 : decode cL_law 94 = .ok (.iaload, 1) := by decide +kernel
theorem dL_law_95 : decode cL_law 95 = .ok (.invokevirtual 13, 3) := by decide +kernel
theorem dL_law_98 : decode cL_law 98 = .ok (.aload_n 2, 1) := by decide +kernel
theorem dL_law_99 : decode cL_law 99 = .ok (.aload_n 0, 1) := by decide +kernel
theorem dL_law_100 : decode cL_law 100 = .ok (.iload_n 3, 1) := by decide +kernel
theorem dL_law_101 : decode cL_law 101 = .ok (.iconst 1, 1) := by decide +kernel
theorem dL_law_102 : decode cL_law 102 = .ok (.iadd, 1) := by decide +kernel
theorem dL_law_103 : decode cL_law 103 = .ok (.iaload, 1) := by decide +kernel
theorem dL_law_104 : decode cL_law 104 = .ok (.aload_n 0, 1) := by decide +kernel
theorem dL_law_105 : decode cL_law 105 = .ok (.iload_n 3, 1) := by decide +kernel
theorem dL_law_106 : decode cL_law 106 = .ok (.iconst 2, 1) := by decide +kernel
theorem dL_law_107 : decode cL_law 107 = .ok (.iadd, 1) := by decide +kernel
theorem dL_law_108 : decode cL_law 108 = .ok (.iaload, 1) := by decide +kernel
theorem dL_law_109 : decode cL_law 109 = .ok (.invokevirtual 17, 3) := by decide +kernel
theorem dL_law_112 : decode cL_law 112 = .ok (.if_icmp .eq 189, 3) := by decide +kernel
theorem dL_law_115 : decode cL_law 115 = .ok (.iconst 0, 1) := by decide +kernel
theorem dL_law_116 : decode cL_law 116 = .ok (.ireturn, 1) := by decide +kernel
theorem dL_law_117 : decode cL_law 117 = .ok (.aload_n 1, 1) := by decide +kernel
theorem dL_law_118 : decode cL_law 118 = .ok (.invokevirtual 18, 3) := by decide +kernel
theorem dL_law_121 : decode cL_law 121 = .ok (.aload_n 2, 1) := by decide +kernel
theorem dL_law_122 : decode cL_law 122 = .ok (.invokevirtual 22, 3) := by decide +kernel
theorem dL_law_125 : decode cL_law 125 = .ok (.if_icmp .eq 176, 3) := by decide +kernel
theorem dL_law_128 : decode cL_law 128 = .ok (.iconst 0, 1) := by decide +kernel
theorem dL_law_129 : decode cL_law 129 = .ok (.ireturn, 1) := by decide +kernel
theorem dL_law_130 : decode cL_law 130 = .ok (.aload_n 1, 1) := by decide +kernel
theorem dL_law_131 : decode cL_law 131 = .ok (.aload_n 0, 1) := by decide +kernel
theorem dL_law_132 : decode cL_law 132 = .ok (.iload_n 3, 1) := by decide +kernel
theorem dL_law_133 : decode cL_law 133 = .ok (.iconst 1, 1) := by decide +kernel
theorem dL_law_134 : decode cL_law 134 = .ok (.iadd, 1) := by decide +kernel
theorem dL_law_135 : decode cL_law 135 = .ok (.iaload, 1) := by decide +kernel
theorem dL_law_136 : decode cL_law 136 = .ok (.invokevirtual 23, 3) := by decide +kernel
theorem dL_law_139 : decode cL_law 139 = .ok (.aload_n 2, 1) := by decide +kernel
theorem dL_law_140 : decode cL_law 140 = .ok (.aload_n 0, 1) := by decide +kernel
theorem dL_law_141 : decode cL_law 141 = .ok (.iload_n 3, 1) := by decide +kernel
theorem dL_law_142 : decode cL_law 142 = .ok (.iconst 1, 1) := by decide +kernel
theorem dL_law_143 : decode cL_law 143 = .ok (.iadd, 1) := by decide +kernel
theorem dL_law_144 : decode cL_law 144 = .ok (.iaload, 1) := by decide +kernel
theorem dL_law_145 : decode cL_law 145 = .ok (.invokevirtual 27, 3) := by decide +kernel
theorem dL_law_148 : decode cL_law 148 = .ok (.if_icmp .eq 153, 3) := by decide +kernel
theorem dL_law_151 : decode cL_law 151 = .ok (.iconst 0, 1) := by decide +kernel
theorem dL_law_152 : decode cL_law 152 = .ok (.ireturn, 1) := by decide +kernel
theorem dL_law_153 : decode cL_law 153 = .ok (.aload_n 1, 1) := by decide +kernel
theorem dL_law_154 : decode cL_law 154 = .ok (.aload_n 0, 1) := by decide +kernel
theorem dL_law_155 : decode cL_law 155 = .ok (.iload_n 3, 1) := by decide +kernel
theorem dL_law_156 : decode cL_law 156 = .ok (.iconst 1, 1) := by decide +kernel
theorem dL_law_157 : decode cL_law 157 = .ok (.iadd, 1) := by decide +kernel
theorem dL_law_158 : decode cL_law 158 = .ok (.iaload, 1) := by decide +kernel
theorem dL_law_159 : decode cL_law 159 = .ok (.invokevirtual 28, 3) := by decide +kernel
theorem dL_law_162 : decode cL_law 162 = .ok (.aload_n 2, 1) := by decide +kernel
theorem dL_law_163 : decode cL_law 163 = .ok (.aload_n 0, 1) := by decide +kernel
theorem dL_law_164 : decode cL_law 164 = .ok (.iload_n 3, 1) := by decide +kernel
theorem dL_law_165 : decode cL_law 165 = .ok (.iconst 1, 1) := by decide +kernel
theorem dL_law_166 : decode cL_law 166 = .ok (.iadd, 1) := by decide +kernel
theorem dL_law_167 : decode cL_law 167 = .ok (.iaload, 1) := by decide +kernel
theorem dL_law_168 : decode cL_law 168 = .ok (.invokevirtual 31, 3) := by decide +kernel
theorem dL_law_171 : decode cL_law 171 = .ok (.if_icmp .eq 130, 3) := by decide +kernel
theorem dL_law_174 : decode cL_law 174 = .ok (.iconst 0, 1) := by decide +kernel
theorem dL_law_175 : decode cL_law 175 = .ok (.ireturn, 1) := by decide +kernel
theorem dL_law_176 : decode cL_law 176 = .ok (.aload_n 1, 1) := by decide +kernel
theorem dL_law_177 : decode cL_law 177 = .ok (.aload_n 0, 1) := by decide +kernel
theorem dL_law_178 : decode cL_law 178 = .ok (.iload_n 3, 1) := by decide +kernel
theorem dL_law_179 : decode cL_law 179 = .ok (.iconst 1, 1) := by decide +kernel
theorem dL_law_180 : decode cL_law 180 = .ok (.iadd, 1) := by decide +kernel
theorem dL_law_181 : decode cL_law 181 = .ok (.iaload, 1) := by decide +kernel
theorem dL_law_182 : decode cL_law 182 = .ok (.invokevirtual 32, 3) := by decide +kernel
theorem dL_law_185 : decode cL_law 185 = .ok (.aload_n 2, 1) := by decide +kernel
theorem dL_law_186 : decode cL_law 186 = .ok (.aload_n 0, 1) := by decide +kernel
theorem dL_law_187 : decode cL_law 187 = .ok (.iload_n 3, 1) := by decide +kernel
theorem dL_law_188 : decode cL_law 188 = .ok (.iconst 1, 1) := by decide +kernel
theorem dL_law_189 : decode cL_law 189 = .ok (.iadd, 1) := by decide +kernel
theorem dL_law_190 : decode cL_law 190 = .ok (.iaload, 1) := by decide +kernel
theorem dL_law_191 : decode cL_law 191 = .ok (.invokevirtual 35, 3) := by decide +kernel
theorem dL_law_194 : decode cL_law 194 = .ok (.if_icmp .eq 107, 3) := by decide +kernel
theorem dL_law_197 : decode cL_law 197 = .ok (.iconst 0, 1) := by decide +kernel
theorem dL_law_198 : decode cL_law 198 = .ok (.ireturn, 1) := by decide +kernel
theorem dL_law_199 : decode cL_law 199 = .ok (.aload_n 1, 1) := by decide +kernel
theorem dL_law_200 : decode cL_law 200 = .ok (.aload_n 0, 1) := by decide +kernel
theorem dL_law_201 : decode cL_law 201 = .ok (.iload_n 3, 1) := by decide +kernel
theorem dL_law_202 : decode cL_law 202 = .ok (.iconst 1, 1) := by decide +kernel
theorem dL_law_203 : decode cL_law 203 = .ok (.iadd, 1) := by decide +kernel
theorem dL_law_204 : decode cL_law 204 = .ok (.iaload, 1) := by decide +kernel
theorem dL_law_205 : decode cL_law 205 = .ok (.invokevirtual 36, 3) := by decide +kernel
theorem dL_law_208 : decode cL_law 208 = .ok (.aload_n 2, 1) := by decide +kernel
theorem dL_law_209 : decode cL_law 209 = .ok (.aload_n 0, 1) := by decide +kernel
theorem dL_law_210 : decode cL_law 210 = .ok (.iload_n 3, 1) := by decide +kernel
theorem dL_law_211 : decode cL_law 211 = .ok (.iconst 1, 1) := by decide +kernel
theorem dL_law_212 : decode cL_law 212 = .ok (.iadd, 1) := by decide +kernel
theorem dL_law_213 : decode cL_law 213 = .ok (.iaload, 1) := by decide +kernel
theorem dL_law_214 : decode cL_law 214 = .ok (.invokevirtual 39, 3) := by decide +kernel
theorem dL_law_217 : decode cL_law 217 = .ok (.if_icmp .eq 84, 3) := by decide +kernel
theorem dL_law_220 : decode cL_law 220 = .ok (.iconst 0, 1) := by decide +kernel
theorem dL_law_221 : decode cL_law 221 = .ok (.ireturn, 1) := by decide +kernel
theorem dL_law_222 : decode cL_law 222 = .ok (.aload_n 1, 1) := by decide +kernel
theorem dL_law_223 : decode cL_law 223 = .ok (.aload_n 0, 1) := by decide +kernel
theorem dL_law_224 : decode cL_law 224 = .ok (.iload_n 3, 1) := by decide +kernel
theorem dL_law_225 : decode cL_law 225 = .ok (.iconst 1, 1) := by decide +kernel
theorem dL_law_226 : decode cL_law 226 = .ok (.iadd, 1) := by decide +kernel
theorem dL_law_227 : decode cL_law 227 = .ok (.iaload, 1) := by decide +kernel
theorem dL_law_228 : decode cL_law 228 = .ok (.aload_n 0, 1) := by decide +kernel
theorem dL_law_229 : decode cL_law 229 = .ok (.iload_n 3, 1) := by decide +kernel
theorem dL_law_230 : decode cL_law 230 = .ok (.iconst 2, 1) := by decide +kernel
theorem dL_law_231 : decode cL_law 231 = .ok (.iadd, 1) := by decide +kernel
theorem dL_law_232 : decode cL_law 232 = .ok (.iaload, 1) := by decide +kernel
theorem dL_law_233 : decode cL_law 233 = .ok (.invokevirtual 40, 3) := by decide +kernel
theorem dL_law_236 : decode cL_law 236 = .ok (.aload_n 2, 1) := by decide +kernel
theorem dL_law_237 : decode cL_law 237 = .ok (.aload_n 0, 1) := by decide +kernel
theorem dL_law_238 : decode cL_law 238 = .ok (.iload_n 3, 1) := by decide +kernel
theorem dL_law_239 : decode cL_law 239 = .ok (.iconst 1, 1) := by decide +kernel
theorem dL_law_240 : decode cL_law 240 = .ok (.iadd, 1) := by decide +kernel
theorem dL_law_241 : decode cL_law 241 = .ok (.iaload, 1) := by decide +kernel
theorem dL_law_242 : decode cL_law 242 = .ok (.aload_n 0, 1) := by decide +kernel
theorem dL_law_243 : decode cL_law 243 = .ok (.iload_n 3, 1) := by decide +kernel
theorem dL_law_244 : decode cL_law 244 = .ok (.iconst 2, 1) := by decide +kernel
theorem dL_law_245 : decode cL_law 245 = .ok (.iadd, 1) := by decide +kernel
theorem dL_law_246 : decode cL_law 246 = .ok (.iaload, 1) := by decide +kernel
theorem dL_law_247 : decode cL_law 247 = .ok (.invokevirtual 44, 3) := by decide +kernel
theorem dL_law_250 : decode cL_law 250 = .ok (.if_icmp .eq 51, 3) := by decide +kernel
theorem dL_law_253 : decode cL_law 253 = .ok (.iconst 0, 1) := by decide +kernel
theorem dL_law_254 : decode cL_law 254 = .ok (.ireturn, 1) := by decide +kernel
theorem dL_law_255 : decode cL_law 255 = .ok (.aload_n 1, 1) := by decide +kernel
theorem dL_law_256 : decode cL_law 256 = .ok (.aload_n 0, 1) := by decide +kernel
theorem dL_law_257 : decode cL_law 257 = .ok (.iload_n 3, 1) := by decide +kernel
theorem dL_law_258 : decode cL_law 258 = .ok (.iconst 1, 1) := by decide +kernel
theorem dL_law_259 : decode cL_law 259 = .ok (.iadd, 1) := by decide +kernel
theorem dL_law_260 : decode cL_law 260 = .ok (.iaload, 1) := by decide +kernel
theorem dL_law_261 : decode cL_law 261 = .ok (.invokevirtual 45, 3) := by decide +kernel
theorem dL_law_264 : decode cL_law 264 = .ok (.aload_n 2, 1) := by decide +kernel
theorem dL_law_265 : decode cL_law 265 = .ok (.aload_n 0, 1) := by decide +kernel
theorem dL_law_266 : decode cL_law 266 = .ok (.iload_n 3, 1) := by decide +kernel
theorem dL_law_267 : decode cL_law 267 = .ok (.iconst 1, 1) := by decide +kernel
theorem dL_law_268 : decode cL_law 268 = .ok (.iadd, 1) := by decide +kernel
theorem dL_law_269 : decode cL_law 269 = .ok (.iaload, 1) := by decide +kernel
theorem dL_law_270 : decode cL_law 270 = .ok (.invokevirtual 48, 3) := by decide +kernel
theorem dL_law_273 : decode cL_law 273 = .ok (.if_icmp .eq 28, 3) := by decide +kernel
theorem dL_law_276 : decode cL_law 276 = .ok (.iconst 0, 1) := by decide +kernel
theorem dL_law_277 : decode cL_law 277 = .ok (.ireturn, 1) := by decide +kernel
theorem dL_law_278 : decode cL_law 278 = .ok (.aload_n 1, 1) := by decide +kernel
theorem dL_law_279 : decode cL_law 279 = .ok (.aload_n 0, 1) := by decide +kernel
theorem dL_law_280 : decode cL_law 280 = .ok (.iload_n 3, 1) := by decide +kernel
theorem dL_law_281 : decode cL_law 281 = .ok (.iconst 1, 1) := by decide +kernel
theorem dL_law_282 : decode cL_law 282 = .ok (.iadd, 1) := by decide +kernel
theorem dL_law_283 : decode cL_law 283 = .ok (.iaload, 1) := by decide +kernel
theorem dL_law_284 : decode cL_law 284 = .ok (.invokevirtual 49, 3) := by decide +kernel
theorem dL_law_287 : decode cL_law 287 = .ok (.aload_n 2, 1) := by decide +kernel
theorem dL_law_288 : decode cL_law 288 = .ok (.aload_n 0, 1) := by decide +kernel
theorem dL_law_289 : decode cL_law 289 = .ok (.iload_n 3, 1) := by decide +kernel
theorem dL_law_290 : decode cL_law 290 = .ok (.iconst 1, 1) := by decide +kernel
theorem dL_law_291 : decode cL_law 291 = .ok (.iadd, 1) := by decide +kernel
theorem dL_law_292 : decode cL_law 292 = .ok (.iaload, 1) := by decide +kernel
theorem dL_law_293 : decode cL_law 293 = .ok (.invokevirtual 52, 3) := by decide +kernel
theorem dL_law_296 : decode cL_law 296 = .ok (.if_icmp .eq 5, 3) := by decide +kernel
theorem dL_law_299 : decode cL_law 299 = .ok (.iconst 0, 1) := by decide +kernel
theorem dL_law_300 : decode cL_law 300 = .ok (.ireturn, 1) := by decide +kernel
theorem dL_law_301 : decode cL_law 301 = .ok (.iinc 3 3, 3) := by decide +kernel
theorem dL_law_304 : decode cL_law 304 = .ok (.goto (-286), 3) := by decide +kernel
theorem dL_law_307 : decode cL_law 307 = .ok (.iconst 1, 1) := by decide +kernel
theorem dL_law_308 : decode cL_law 308 = .ok (.ireturn, 1) := by decide +kernel
theorem lq_W_type {s : State} {args : Array Value} {mc ms : Nat} (htb : ∀ w ∈ lw_tbl, w.before args s = true) (hts : ∀ w ∈ w_C, w.before args s = true) : CallW room_1 s args R_law R_W 13 y_W_type b_W_type 5 (some .boolean) (.code y_W_type b_W_type 5 (some .boolean) :: w_C) (rmA 6 133 mc ms) mc ms 2 := ⟨callB_of 2 hts (good_C k_C_139) rfl rfl rfl (hts _ k_C_0) (tb_at htb 319 (by decide +kernel)) ⟨by decide +kernel, by decide +kernel, by decide +kernel⟩ ⟨Nat.le_of_ble_eq_true rfl, Nat.le_of_ble_eq_true rfl⟩, hts _ k_C_137, hts _ k_C_138⟩
theorem lq_M_type {s : State} {args : Array Value} {mc ms : Nat} (htb : ∀ w ∈ lw_tbl, w.before args s = true) (hts : ∀ w ∈ w_M, w.before args s = true) : CallW room_1 s args R_law R_M 17 y_M_type b_M_type 5 (some .boolean) (.code y_M_type b_M_type 5 (some .boolean) :: w_M) (rmM 1 22) 0 0 2 := ⟨callB_of 2 hts (good_M k_M_37) rfl rfl rfl (hts _ k_M_46) (tb_at htb 1209 (by decide +kernel)) ⟨by decide +kernel, by decide +kernel, by decide +kernel⟩ ⟨Nat.le_of_ble_eq_true rfl, Nat.le_of_ble_eq_true rfl⟩, hts _ k_M_141, hts _ k_M_142⟩
theorem lq_W_run {s : State} {args : Array Value} {mc ms : Nat} (htb : ∀ w ∈ lw_tbl, w.before args s = true) (hts : ∀ w ∈ w_C, w.before args s = true) : CallW room_1 s args R_law R_W 18 y_W_run b_W_run 3 (some .int) (.code y_W_run b_W_run 3 (some .int) :: w_C) (rmA 8 197 mc ms) mc ms 0 := ⟨callB_of 0 hts (good_C k_C_239) rfl rfl rfl (hts _ k_C_0) (tb_at htb 428 (by decide +kernel)) ⟨by decide +kernel, by decide +kernel, by decide +kernel⟩ ⟨Nat.le_of_ble_eq_true rfl, Nat.le_of_ble_eq_true rfl⟩, hts _ k_C_237, hts _ k_C_238⟩
theorem lq_M_run {s : State} {args : Array Value} {mc ms : Nat} (htb : ∀ w ∈ lw_tbl, w.before args s = true) (hts : ∀ w ∈ w_M, w.before args s = true) : CallW room_1 s args R_law R_M 22 y_M_run b_M_run 1 (some .int) (.code y_M_run b_M_run 1 (some .int) :: w_M) (rmM 8 181) 0 0 0 := ⟨callB_of 0 hts (good_M k_M_38) rfl rfl rfl (hts _ k_M_46) (tb_at htb 1216 (by decide +kernel)) ⟨by decide +kernel, by decide +kernel, by decide +kernel⟩ ⟨Nat.le_of_ble_eq_true rfl, Nat.le_of_ble_eq_true rfl⟩, hts _ k_M_145, hts _ k_M_146⟩
theorem lq_W_count {s : State} {args : Array Value} {mc ms : Nat} (htb : ∀ w ∈ lw_tbl, w.before args s = true) (hts : ∀ w ∈ w_C, w.before args s = true) : CallW room_1 s args R_law R_W 23 y_W_count b_W_count 3 (some .int) (.code y_W_count b_W_count 3 (some .int) :: w_C) (rmM 1 20) 0 0 1 := ⟨callB_of 1 hts (good_C k_C_732) rfl rfl rfl (hts _ k_C_0) (tb_at htb 996 (by decide +kernel)) ⟨by decide +kernel, by decide +kernel, by decide +kernel⟩ ⟨Nat.le_of_ble_eq_true rfl, Nat.le_of_ble_eq_true rfl⟩, hts _ k_C_730, hts _ k_C_731⟩
theorem lq_M_count {s : State} {args : Array Value} {mc ms : Nat} (htb : ∀ w ∈ lw_tbl, w.before args s = true) (hts : ∀ w ∈ w_M, w.before args s = true) : CallW room_1 s args R_law R_M 27 y_M_count b_M_count 2 (some .int) (.code y_M_count b_M_count 2 (some .int) :: w_M) (rmM 0 0) 0 0 1 := ⟨callB_of 1 hts (good_M k_M_39) rfl rfl rfl (hts _ k_M_46) (tb_at htb 1356 (by decide +kernel)) ⟨by decide +kernel, by decide +kernel, by decide +kernel⟩ ⟨Nat.le_of_ble_eq_true rfl, Nat.le_of_ble_eq_true rfl⟩, hts _ k_M_215, hts _ k_M_216⟩
theorem lq_W_stack {s : State} {args : Array Value} {mc ms : Nat} (htb : ∀ w ∈ lw_tbl, w.before args s = true) (hts : ∀ w ∈ w_C, w.before args s = true) : CallW room_1 s args R_law R_W 28 y_W_stack b_W_stack 2 (some .int) (.code y_W_stack b_W_stack 2 (some .int) :: w_C) (rmM 1 21) 0 0 1 := ⟨callB_of 1 hts (good_C k_C_736) rfl rfl rfl (hts _ k_C_0) (tb_at htb 1001 (by decide +kernel)) ⟨by decide +kernel, by decide +kernel, by decide +kernel⟩ ⟨Nat.le_of_ble_eq_true rfl, Nat.le_of_ble_eq_true rfl⟩, hts _ k_C_734, hts _ k_C_735⟩
theorem lq_M_stack {s : State} {args : Array Value} {mc ms : Nat} (htb : ∀ w ∈ lw_tbl, w.before args s = true) (hts : ∀ w ∈ w_M, w.before args s = true) : CallW room_1 s args R_law R_M 31 y_M_stack b_M_stack 2 (some .int) (.code y_M_stack b_M_stack 2 (some .int) :: w_M) (rmM 1 22) 0 0 1 := ⟨callB_of 1 hts (good_M k_M_40) rfl rfl rfl (hts _ k_M_46) (tb_at htb 1360 (by decide +kernel)) ⟨by decide +kernel, by decide +kernel, by decide +kernel⟩ ⟨Nat.le_of_ble_eq_true rfl, Nat.le_of_ble_eq_true rfl⟩, hts _ k_M_217, hts _ k_M_218⟩
theorem lq_W_out {s : State} {args : Array Value} {mc ms : Nat} (htb : ∀ w ∈ lw_tbl, w.before args s = true) (hts : ∀ w ∈ w_C, w.before args s = true) : CallW room_1 s args R_law R_W 32 y_W_out b_W_out 4 (some .int) (.code y_W_out b_W_out 4 (some .int) :: w_C) (rmM 0 0) 0 0 1 := ⟨callB_of 1 hts (good_C k_C_740) rfl rfl rfl (hts _ k_C_0) (tb_at htb 1006 (by decide +kernel)) ⟨by decide +kernel, by decide +kernel, by decide +kernel⟩ ⟨Nat.le_of_ble_eq_true rfl, Nat.le_of_ble_eq_true rfl⟩, hts _ k_C_738, hts _ k_C_739⟩
theorem lq_M_out {s : State} {args : Array Value} {mc ms : Nat} (htb : ∀ w ∈ lw_tbl, w.before args s = true) (hts : ∀ w ∈ w_M, w.before args s = true) : CallW room_1 s args R_law R_M 35 y_M_out b_M_out 2 (some .int) (.code y_M_out b_M_out 2 (some .int) :: w_M) (rmM 1 22) 0 0 1 := ⟨callB_of 1 hts (good_M k_M_41) rfl rfl rfl (hts _ k_M_46) (tb_at htb 1364 (by decide +kernel)) ⟨by decide +kernel, by decide +kernel, by decide +kernel⟩ ⟨Nat.le_of_ble_eq_true rfl, Nat.le_of_ble_eq_true rfl⟩, hts _ k_M_219, hts _ k_M_220⟩
theorem lq_W_cell {s : State} {args : Array Value} {mc ms : Nat} (htb : ∀ w ∈ lw_tbl, w.before args s = true) (hts : ∀ w ∈ w_C, w.before args s = true) : CallW room_1 s args R_law R_W 36 y_W_cell b_W_cell 2 (some .int) (.code y_W_cell b_W_cell 2 (some .int) :: w_C) (rmM 2 42) 0 0 1 := ⟨callB_of 1 hts (good_C k_C_743) rfl rfl rfl (hts _ k_C_0) (tb_at htb 1010 (by decide +kernel)) ⟨by decide +kernel, by decide +kernel, by decide +kernel⟩ ⟨Nat.le_of_ble_eq_true rfl, Nat.le_of_ble_eq_true rfl⟩, hts _ k_C_741, hts _ k_C_742⟩
theorem lq_M_cell {s : State} {args : Array Value} {mc ms : Nat} (htb : ∀ w ∈ lw_tbl, w.before args s = true) (hts : ∀ w ∈ w_M, w.before args s = true) : CallW room_1 s args R_law R_M 39 y_M_cell b_M_cell 2 (some .int) (.code y_M_cell b_M_cell 2 (some .int) :: w_M) (rmM 1 22) 0 0 1 := ⟨callB_of 1 hts (good_M k_M_42) rfl rfl rfl (hts _ k_M_46) (tb_at htb 1368 (by decide +kernel)) ⟨by decide +kernel, by decide +kernel, by decide +kernel⟩ ⟨Nat.le_of_ble_eq_true rfl, Nat.le_of_ble_eq_true rfl⟩, hts _ k_M_221, hts _ k_M_222⟩
theorem lq_W_disk {s : State} {args : Array Value} {mc ms : Nat} (htb : ∀ w ∈ lw_tbl, w.before args s = true) (hts : ∀ w ∈ w_C, w.before args s = true) : CallW room_1 s args R_law R_W 40 y_W_disk b_W_disk 3 (some .int) (.code y_W_disk b_W_disk 3 (some .int) :: w_C) (rmM 2 43) 0 0 2 := ⟨callB_of 2 hts (good_C k_C_747) rfl rfl rfl (hts _ k_C_0) (tb_at htb 1015 (by decide +kernel)) ⟨by decide +kernel, by decide +kernel, by decide +kernel⟩ ⟨Nat.le_of_ble_eq_true rfl, Nat.le_of_ble_eq_true rfl⟩, hts _ k_C_745, hts _ k_C_746⟩
theorem lq_M_disk {s : State} {args : Array Value} {mc ms : Nat} (htb : ∀ w ∈ lw_tbl, w.before args s = true) (hts : ∀ w ∈ w_M, w.before args s = true) : CallW room_1 s args R_law R_M 44 y_M_disk b_M_disk 3 (some .int) (.code y_M_disk b_M_disk 3 (some .int) :: w_M) (rmM 1 22) 0 0 2 := ⟨callB_of 2 hts (good_M k_M_43) rfl rfl rfl (hts _ k_M_46) (tb_at htb 1372 (by decide +kernel)) ⟨by decide +kernel, by decide +kernel, by decide +kernel⟩ ⟨Nat.le_of_ble_eq_true rfl, Nat.le_of_ble_eq_true rfl⟩, hts _ k_M_223, hts _ k_M_224⟩
theorem lq_W_items {s : State} {args : Array Value} {mc ms : Nat} (htb : ∀ w ∈ lw_tbl, w.before args s = true) (hts : ∀ w ∈ w_C, w.before args s = true) : CallW room_1 s args R_law R_W 45 y_W_items b_W_items 3 (some .int) (.code y_W_items b_W_items 3 (some .int) :: w_C) (rmM 1 22) 0 0 1 := ⟨callB_of 1 hts (good_C k_C_755) rfl rfl rfl (hts _ k_C_0) (tb_at htb 1024 (by decide +kernel)) ⟨by decide +kernel, by decide +kernel, by decide +kernel⟩ ⟨Nat.le_of_ble_eq_true rfl, Nat.le_of_ble_eq_true rfl⟩, hts _ k_C_753, hts _ k_C_754⟩
theorem lq_M_items {s : State} {args : Array Value} {mc ms : Nat} (htb : ∀ w ∈ lw_tbl, w.before args s = true) (hts : ∀ w ∈ w_M, w.before args s = true) : CallW room_1 s args R_law R_M 48 y_M_items b_M_items 2 (some .int) (.code y_M_items b_M_items 2 (some .int) :: w_M) (rmM 1 22) 0 0 1 := ⟨callB_of 1 hts (good_M k_M_44) rfl rfl rfl (hts _ k_M_46) (tb_at htb 1376 (by decide +kernel)) ⟨by decide +kernel, by decide +kernel, by decide +kernel⟩ ⟨Nat.le_of_ble_eq_true rfl, Nat.le_of_ble_eq_true rfl⟩, hts _ k_M_225, hts _ k_M_226⟩
theorem lq_W_buffer {s : State} {args : Array Value} {mc ms : Nat} (htb : ∀ w ∈ lw_tbl, w.before args s = true) (hts : ∀ w ∈ w_C, w.before args s = true) : CallW room_1 s args R_law R_W 49 y_W_buffer b_W_buffer 2 (some .int) (.code y_W_buffer b_W_buffer 2 (some .int) :: w_C) (rmM 1 21) 0 0 1 := ⟨callB_of 1 hts (good_C k_C_759) rfl rfl rfl (hts _ k_C_0) (tb_at htb 1029 (by decide +kernel)) ⟨by decide +kernel, by decide +kernel, by decide +kernel⟩ ⟨Nat.le_of_ble_eq_true rfl, Nat.le_of_ble_eq_true rfl⟩, hts _ k_C_757, hts _ k_C_758⟩
theorem lq_M_buffer {s : State} {args : Array Value} {mc ms : Nat} (htb : ∀ w ∈ lw_tbl, w.before args s = true) (hts : ∀ w ∈ w_M, w.before args s = true) : CallW room_1 s args R_law R_M 52 y_M_buffer b_M_buffer 2 (some .int) (.code y_M_buffer b_M_buffer 2 (some .int) :: w_M) (rmM 1 22) 0 0 1 := ⟨callB_of 1 hts (good_M k_M_45) rfl rfl rfl (hts _ k_M_46) (tb_at htb 1380 (by decide +kernel)) ⟨by decide +kernel, by decide +kernel, by decide +kernel⟩ ⟨Nat.le_of_ble_eq_true rfl, Nat.le_of_ble_eq_true rfl⟩, hts _ k_M_227, hts _ k_M_228⟩
/-- the class and the reference answer alike from S and T, and stay alike -/
def StepOK (Sim : Nat → Gm → StC → StM → Prop) (mc ms : Nat) : Prop := ∀ (k : Nat) (g : Gm) (S : StC) (T : StM), k < 512 → Sim k g S T → (∀ a0 a1 : Int32, wp_W_type g (fun r S1 => wp_M_type (fun r1 T1 => r = r1 ∧ Sim (k + 1) g S1 T1) T a0 a1) mc ms S a0 a1) ∧ (wp_W_run g (fun r S1 => wp_M_run (fun r1 T1 => r = r1 ∧ Sim (k + 1) g S1 T1) T) mc ms S) ∧ (∀ a0 : Int32, wp_W_count g (fun r S1 => wp_M_count (fun r1 T1 => r = r1 ∧ Sim (k + 1) g S1 T1) T a0) S a0) ∧ (∀ a0 : Int32, wp_W_stack g (fun r S1 => wp_M_stack (fun r1 T1 => r = r1 ∧ Sim (k + 1) g S1 T1) T a0) S a0) ∧ (∀ a0 : Int32, wp_W_out g (fun r S1 => wp_M_out (fun r1 T1 => r = r1 ∧ Sim (k + 1) g S1 T1) T a0) S a0) ∧ (∀ a0 : Int32, wp_W_cell g (fun r S1 => wp_M_cell (fun r1 T1 => r = r1 ∧ Sim (k + 1) g S1 T1) T a0) S a0) ∧ (∀ a0 a1 : Int32, wp_W_disk g (fun r S1 => wp_M_disk (fun r1 T1 => r = r1 ∧ Sim (k + 1) g S1 T1) T a0 a1) S a0 a1) ∧ (∀ a0 : Int32, wp_W_items g (fun r S1 => wp_M_items (fun r1 T1 => r = r1 ∧ Sim (k + 1) g S1 T1) T a0) S a0) ∧ (∀ a0 : Int32, wp_W_buffer g (fun r S1 => wp_M_buffer (fun r1 T1 => r = r1 ∧ Sim (k + 1) g S1 T1) T a0) S a0) ∧ Sim (k + 1) g S T
def lo0 (z90 z91 z92 z95 : Nat) : Nat → Nat := fun n => if n = 90 then z90 else if n = 91 then z91 else if n = 92 then z92 else z95
/-- the constructors leave alike things; the class's cells are taken up in the order of wC -/
def InitOK (Sim : Nat → Gm → StC → StM → Prop) (mc0 ms0 : Nat) : Prop := ∀ (D : va_G) (ids : Nat → ClassId) (aE aK aV : Nat → Nat) (z90 z91 z92 z95 h0 : Nat), (∀ i j, i < 52 → j < 52 → aE i = aE j → i = j) →
  wp_W_init (D, ids, gad (lo0 z90 z91 z92 z95) aE aK aV) (fun SP => ∃ (lo : Nat → Nat) (S : StC) (js : List Nat), lo 90 = z90 ∧ lo 91 = z91 ∧ lo 92 = z92 ∧ lo 95 = z95 ∧ lo 0 = h0 ∧ va_nd js = true ∧ js.map (fun i => (wP SP)[i]?) = (wC (D, ids, gad lo aE aK aV) S).map some ∧ wp_M_init (fun T => Sim 0 (D, ids, gad lo aE aK aV) S T) zM) mc0 ms0 ([h0], fun _ => .inr (1, [.null, .null])) h0
theorem in_of {j L : Nat} (h : j < L) (hL : L ≤ 1536) : vp_in (Int32.ofNat j) L := by
  have e : (Int32.ofNat j).toInt = (j : Int) := Int32.toInt_ofNat_of_lt (by omega)
  rintro (h1 | h1)
  · rw [Int32.lt_iff_toInt_lt, e] at h1
    have : (0 : Int32).toInt = 0 := rfl
    omega
  · rw [Int32.toNatClampNeg_ofNat_of_lt (by omega)] at h1
    omega
theorem more_of {k L : Nat} (hL : L ≤ 1536) (hk : k ≤ 1600) (h : ¬ Int32.ofNat L - 3 < Int32.ofNat k) : k + 3 ≤ L := by
  have e : (Int32.ofNat k).toInt = (k : Int) := Int32.toInt_ofNat_of_lt (by omega)
  have e1 : (Int32.ofNat L).toInt = (L : Int) := Int32.toInt_ofNat_of_lt (by omega)
  have e2 : (Int32.ofNat L - 3).toInt = (L : Int) - 3 := by
    rw [Int32.toInt_sub, e1]
    show ((L : Int) - 3).bmod (2 ^ 32) = _
    rw [Int.bmod_eq_of_le (by omega) (by omega)]
  rw [Int32.lt_iff_toInt_lt, e, e2] at h
  omega
set_option maxRecDepth 100000 in
set_option maxHeartbeats 8000000 in
theorem law_loop {p : Program} {l : Launch} {e : Env} {s : State} {m : MethodId} {below : List Frame} {meth : Method} {c : Code} {b L : Nat} {xs : Nat → Int32} {Sim : Nat → Gm → StC → StM → Prop} {mc ms c0 s0 : Nat} {D : va_G} {ids idm : Nat → ClassId} {ad adm : Nat → Nat} {A : Nat → Prop} (hs : StepOK Sim mc ms) (hL : L ≤ 1536) (C0 : lw_At p s m meth c b L xs) (hA : ∀ q : Nat, s.heap.size ≤ q → A q) (hA2 : ∀ q : Nat, A q → s.heap.size ≤ q)
    (htsC : ∀ w ∈ w_C, w.before #[Value.ref b] s = true) (htsM : ∀ w ∈ w_M, w.before #[Value.ref b] s = true) (hK : va_K D classes (tysC (D, ids, ad)) s) (hKm : va_K D classes (tysM (D, idm, adm)) s) (hC : SC (D, ids, ad) A s s.heap) (hN : NW (D, ids, ad) s) (hc : c0 + 512 * mc ≤ 715962) (hz : s0 + 512 * ms ≤ 6954363) :
    ∀ (n k : Nat), L ≤ 3 * k + n → 3 * k ≤ L + 2 → ∀ (S : StC) (T : StM) (H : Heap) (locs : List Loc) (ls : Array Slot), Sim k (D, ids, ad) S T → va_P D classes (wC (D, ids, ad) S) H → va_P D classes (wM (D, idm, adm) T) H → va_D A (wC (D, ids, ad) S ++ wM (D, idm, adm) T) → va_S A s.heap H locs → lv_has ls 4 [(3, .int (Int32.ofNat (3 * k))), (2, .ref (adm 0)), (1, .ref (ad 0)), (0, .ref b)] → W p l e room_1 s m #[Value.ref b] below meth c H locs (c0 + k * mc) (s0 + k * ms) (lw_Z below #[Value.ref b] s) (F0 m 18 ls []) := by
  obtain ⟨hx, hb, hr, hml, hown, htb, hX, hbl, hlk, -⟩ := C0
  have hb : c.code = cL_law := hb
  have hbA : ¬ A b := fun h => by
    have := hA2 b h
    omega
  intro n
  induction n using Nat.strongRecOn with
  | _ n ih =>
  intro k h1 h2 S T H locs ls hsim hP hPm hD hS hl
  have hk : k ≤ 512 := by omega
  have hck : c0 + k * mc ≤ 715962 := Nat.le_trans (Nat.add_le_add_left (Nat.mul_le_mul_right _ hk) _) hc
  have hzk : s0 + k * ms ≤ 6954363 := Nat.le_trans (Nat.add_le_add_left (Nat.mul_le_mul_right _ hk) _) hz
  refine lv_iload_n hx hb dL_law_18 rfl (lv_at hl 0 rfl) ?_
  refine lv_aload_n hx hb dL_law_19 rfl (lv_at hl 3 rfl) ?_
  refine va_slen hx hb hX hbl hbA hS dL_law_20 ?_
  refine lv_iconst (v := 3) hx hb dL_law_21 (by decide) ?_
  refine lv_isub hx hb dL_law_22 ?_
  refine lv_icmp_gt hx hb dL_law_23 (tgt := 307) (by decide) (fun hc => ?_) (fun hc => ?_)
  · refine lv_iconst (v := 1) hx hb dL_law_307 (by decide) ?_
    refine va_forget (fun q hq => hA2 _ (hS.2.2 q hq)) ?_
    refine W.widen (k := 715962) (n := 6954363) hck hzk ?_
    exact lw_ret hx hb hr hlk dL_law_308
  have hlt : 3 * k + 3 ≤ L := more_of hL (by omega) hc
  have hk1 : k + 1 ≤ 512 := by omega
  have hck1 : c0 + k * mc + mc ≤ 715962 := by
    have := Nat.mul_le_mul_right mc hk1
    rw [Nat.succ_mul] at this
    omega
  have hzk1 : s0 + k * ms + ms ≤ 6954363 := by
    have := Nat.mul_le_mul_right ms hk1
    rw [Nat.succ_mul] at this
    omega
  have tail : ∀ (S : StC) (T : StM) (H : Heap) (locs : List Loc) (cells slots : Nat), Sim (k + 1) (D, ids, ad) S T → va_P D classes (wC (D, ids, ad) S) H → va_P D classes (wM (D, idm, adm) T) H → va_D A (wC (D, ids, ad) S ++ wM (D, idm, adm) T) → va_S A s.heap H locs → cells ≤ c0 + k * mc + mc → slots ≤ s0 + k * ms + ms → W p l e room_1 s m #[Value.ref b] below meth c H locs cells slots (lw_Z below #[Value.ref b] s) (F0 m 301 ls []) := by
    intro S T H locs cells slots hsim hP hPm hD hS e1 e2
    refine W.widen (k := c0 + (k + 1) * mc) (n := s0 + (k + 1) * ms) (by rw [Nat.succ_mul]; omega) (by rw [Nat.succ_mul]; omega) ?_
    refine lv_iinc (k := 0) (v := Int32.ofNat (3 * (k + 1))) (lv' := [(3, .int (Int32.ofNat (3 * (k + 1)))), (2, .ref (adm 0)), (1, .ref (ad 0)), (0, .ref b)]) hx hb dL_law_301 hl rfl (by rw [Nat.mul_add, Int32.ofNat_add]; rfl) (by decide) rfl (fun ls hl => ?_)
    refine lv_goto hx hb dL_law_304 (tgt := 18) (by decide) ?_
    exact ih (n - 3) (by omega) (k + 1) (by omega) (by omega) S T H locs ls hsim hP hPm hD hS hl
  have in0 : vp_in (Int32.ofNat (3 * k)) L := in_of (by omega) hL
  have in1 : vp_in (Int32.ofNat (3 * k) + 1) L := by
    rw [show Int32.ofNat (3 * k) + 1 = Int32.ofNat (3 * k + 1) from (Int32.ofNat_add _ _).symm]
    exact in_of (by omega) hL
  have in2 : vp_in (Int32.ofNat (3 * k) + 2) L := by
    rw [show Int32.ofNat (3 * k) + 2 = Int32.ofNat (3 * k + 2) from (Int32.ofNat_add _ _).symm]
    exact in_of (by omega) hL
  refine lv_aload_n hx hb dL_law_26 rfl (lv_at hl 3 rfl) ?_
  refine lv_iload_n hx hb dL_law_27 rfl (lv_at hl 0 rfl) ?_
  refine va_sld hx hb hX hbl hbA hS in0 dL_law_28 ?_
  refine lv_bipush (v := 15) hx hb dL_law_29 (by decide) ?_
  refine lv_iand hx hb dL_law_31 ?_
  obtain ⟨s0', s1', s2', s3', s4', s5', s6', s7', s8', s9'⟩ := hs k (D, ids, ad) S T (by omega) hsim
  generalize xs (Int32.ofNat (3 * k)).toNatClampNeg &&& 15 = x
  rcases (show x.toInt = 0 ∨ x.toInt = 1 ∨ x.toInt = 2 ∨ x.toInt = 3 ∨ x.toInt = 4 ∨ x.toInt = 5 ∨ x.toInt = 6 ∨ x.toInt = 7 ∨ x.toInt = 8 ∨ (x.toInt < 0 ∨ 8 < x.toInt) by omega) with h | h | h | h | h | h | h | h | h | h
  · refine lv_tableIn hx hb dL_law_32 (off := 52) (tgt := 84) (by omega) (by omega) (by rw [h]; rfl) (by decide) ?_
    refine lv_aload_n hx hb dL_law_84 rfl (lv_at hl 2 rfl) ?_
    refine lv_aload_n hx hb dL_law_85 rfl (lv_at hl 3 rfl) ?_
    refine lv_iload_n hx hb dL_law_86 rfl (lv_at hl 0 rfl) ?_
    refine lv_iconst (v := 1) hx hb dL_law_87 (by decide) ?_
    refine lv_iadd hx hb dL_law_88 ?_
    refine va_sld hx hb hX hbl hbA hS in1 dL_law_89 ?_
    refine lv_aload_n hx hb dL_law_90 rfl (lv_at hl 3 rfl) ?_
    refine lv_iload_n hx hb dL_law_91 rfl (lv_at hl 0 rfl) ?_
    refine lv_iconst (v := 2) hx hb dL_law_92 (by decide) ?_
    refine lv_iadd hx hb dL_law_93 ?_
    refine va_sld hx hb hX hbl hbA hS in2 dL_law_94 ?_
    refine lwC (ids := ids) (ad := ad) (idm := idm) (adm := adm) (S := S) (T := T) (mc1 := mc) (ms1 := ms) (As := [.int (xs (Int32.ofNat (3 * k) + 1).toNatClampNeg), .int (xs (Int32.ofNat (3 * k) + 2).toNatClampNeg)]) (rest := []) hx hb hml hown htsC hK hC hN hP hPm hD hS hA hck1 hzk1 hl.1 (va_recv (q0 := 0) (ci := 1) (q := (R_W, F_W, 2)) hK hP rfl rfl) (lq_W_type htb htsC) (c_W_type l (D, ids, ad) H.size S (xs (Int32.ofNat (3 * k) + 1).toNatClampNeg) (xs (Int32.ofNat (3 * k) + 2).toNatClampNeg) _ mc ms (s0' (xs (Int32.ofNat (3 * k) + 1).toNatClampNeg) (xs (Int32.ofNat (3 * k) + 2).toNatClampNeg))) rfl rfl (Nat.le_of_ble_eq_true rfl) dL_law_95 (fun r S1 H locs hw hP hPm hD hS => ?_)
    refine lv_aload_n hx hb dL_law_98 rfl (lv_at hl 1 rfl) ?_
    refine lv_aload_n hx hb dL_law_99 rfl (lv_at hl 3 rfl) ?_
    refine lv_iload_n hx hb dL_law_100 rfl (lv_at hl 0 rfl) ?_
    refine lv_iconst (v := 1) hx hb dL_law_101 (by decide) ?_
    refine lv_iadd hx hb dL_law_102 ?_
    refine va_sld hx hb hX hbl hbA hS in1 dL_law_103 ?_
    refine lv_aload_n hx hb dL_law_104 rfl (lv_at hl 3 rfl) ?_
    refine lv_iload_n hx hb dL_law_105 rfl (lv_at hl 0 rfl) ?_
    refine lv_iconst (v := 2) hx hb dL_law_106 (by decide) ?_
    refine lv_iadd hx hb dL_law_107 ?_
    refine va_sld hx hb hX hbl hbA hS in2 dL_law_108 ?_
    refine lwM (ids := ids) (ad := ad) (idm := idm) (adm := adm) (S := S1) (T := T) (As := [.int (xs (Int32.ofNat (3 * k) + 1).toNatClampNeg), .int (xs (Int32.ofNat (3 * k) + 2).toNatClampNeg)]) (rest := [.int r]) hx hb hml hown htsM hKm hP hPm hD hS hA hck1 hzk1 hl.1 (lq_M_type (mc := 0) (ms := 0) htb htsM) (c_M_type l (D, idm, adm) H.size T (xs (Int32.ofNat (3 * k) + 1).toNatClampNeg) (xs (Int32.ofNat (3 * k) + 2).toNatClampNeg) _ hw) rfl rfl (Nat.le_of_ble_eq_true rfl) dL_law_109 (fun r1 T1 H locs hw hP hPm hD hS => ?_)
    exact lv_icmp_eq hx hb dL_law_112 (tgt := 301) (by decide) (fun _ => tail S1 T1 H locs _ _ hw.2 hP hPm hD hS (Nat.le_refl _) (Nat.le_refl _)) (fun hne => absurd hw.1 hne)
  · refine lv_tableIn hx hb dL_law_32 (off := 85) (tgt := 117) (by omega) (by omega) (by rw [h]; rfl) (by decide) ?_
    refine lv_aload_n hx hb dL_law_117 rfl (lv_at hl 2 rfl) ?_
    refine lwC (ids := ids) (ad := ad) (idm := idm) (adm := adm) (S := S) (T := T) (mc1 := mc) (ms1 := ms) (As := []) (rest := []) hx hb hml hown htsC hK hC hN hP hPm hD hS hA hck1 hzk1 hl.1 (va_recv (q0 := 0) (ci := 1) (q := (R_W, F_W, 2)) hK hP rfl rfl) (lq_W_run htb htsC) (c_W_run l (D, ids, ad) H.size S  _ mc ms (s1' )) rfl rfl (Nat.le_of_ble_eq_true rfl) dL_law_118 (fun r S1 H locs hw hP hPm hD hS => ?_)
    refine lv_aload_n hx hb dL_law_121 rfl (lv_at hl 1 rfl) ?_
    refine lwM (ids := ids) (ad := ad) (idm := idm) (adm := adm) (S := S1) (T := T) (As := []) (rest := [.int r]) hx hb hml hown htsM hKm hP hPm hD hS hA hck1 hzk1 hl.1 (lq_M_run (mc := 0) (ms := 0) htb htsM) (c_M_run l (D, idm, adm) H.size T  _ hw) rfl rfl (Nat.le_of_ble_eq_true rfl) dL_law_122 (fun r1 T1 H locs hw hP hPm hD hS => ?_)
    exact lv_icmp_eq hx hb dL_law_125 (tgt := 301) (by decide) (fun _ => tail S1 T1 H locs _ _ hw.2 hP hPm hD hS (Nat.le_refl _) (Nat.le_refl _)) (fun hne => absurd hw.1 hne)
  · refine lv_tableIn hx hb dL_law_32 (off := 98) (tgt := 130) (by omega) (by omega) (by rw [h]; rfl) (by decide) ?_
    refine lv_aload_n hx hb dL_law_130 rfl (lv_at hl 2 rfl) ?_
    refine lv_aload_n hx hb dL_law_131 rfl (lv_at hl 3 rfl) ?_
    refine lv_iload_n hx hb dL_law_132 rfl (lv_at hl 0 rfl) ?_
    refine lv_iconst (v := 1) hx hb dL_law_133 (by decide) ?_
    refine lv_iadd hx hb dL_law_134 ?_
    refine va_sld hx hb hX hbl hbA hS in1 dL_law_135 ?_
    refine lwC (ids := ids) (ad := ad) (idm := idm) (adm := adm) (S := S) (T := T) (mc1 := 0) (ms1 := 0) (As := [.int (xs (Int32.ofNat (3 * k) + 1).toNatClampNeg)]) (rest := []) hx hb hml hown htsC hK hC hN hP hPm hD hS hA hck hzk hl.1 (va_recv (q0 := 0) (ci := 1) (q := (R_W, F_W, 2)) hK hP rfl rfl) (lq_W_count (mc := 0) (ms := 0) htb htsC) (c_W_count l (D, ids, ad) H.size S (xs (Int32.ofNat (3 * k) + 1).toNatClampNeg) _ (s2' (xs (Int32.ofNat (3 * k) + 1).toNatClampNeg))) rfl rfl (Nat.le_of_ble_eq_true rfl) dL_law_136 (fun r S1 H locs hw hP hPm hD hS => ?_)
    refine lv_aload_n hx hb dL_law_139 rfl (lv_at hl 1 rfl) ?_
    refine lv_aload_n hx hb dL_law_140 rfl (lv_at hl 3 rfl) ?_
    refine lv_iload_n hx hb dL_law_141 rfl (lv_at hl 0 rfl) ?_
    refine lv_iconst (v := 1) hx hb dL_law_142 (by decide) ?_
    refine lv_iadd hx hb dL_law_143 ?_
    refine va_sld hx hb hX hbl hbA hS in1 dL_law_144 ?_
    refine lwM (ids := ids) (ad := ad) (idm := idm) (adm := adm) (S := S1) (T := T) (As := [.int (xs (Int32.ofNat (3 * k) + 1).toNatClampNeg)]) (rest := [.int r]) hx hb hml hown htsM hKm hP hPm hD hS hA hck hzk hl.1 (lq_M_count (mc := 0) (ms := 0) htb htsM) (c_M_count l (D, idm, adm) H.size T (xs (Int32.ofNat (3 * k) + 1).toNatClampNeg) _ hw) rfl rfl (Nat.le_of_ble_eq_true rfl) dL_law_145 (fun r1 T1 H locs hw hP hPm hD hS => ?_)
    exact lv_icmp_eq hx hb dL_law_148 (tgt := 301) (by decide) (fun _ => tail S1 T1 H locs _ _ hw.2 hP hPm hD hS (Nat.le_add_right _ _) (Nat.le_add_right _ _)) (fun hne => absurd hw.1 hne)
  · refine lv_tableIn hx hb dL_law_32 (off := 121) (tgt := 153) (by omega) (by omega) (by rw [h]; rfl) (by decide) ?_
    refine lv_aload_n hx hb dL_law_153 rfl (lv_at hl 2 rfl) ?_
    refine lv_aload_n hx hb dL_law_154 rfl (lv_at hl 3 rfl) ?_
    refine lv_iload_n hx hb dL_law_155 rfl (lv_at hl 0 rfl) ?_
    refine lv_iconst (v := 1) hx hb dL_law_156 (by decide) ?_
    refine lv_iadd hx hb dL_law_157 ?_
    refine va_sld hx hb hX hbl hbA hS in1 dL_law_158 ?_
    refine lwC (ids := ids) (ad := ad) (idm := idm) (adm := adm) (S := S) (T := T) (mc1 := 0) (ms1 := 0) (As := [.int (xs (Int32.ofNat (3 * k) + 1).toNatClampNeg)]) (rest := []) hx hb hml hown htsC hK hC hN hP hPm hD hS hA hck hzk hl.1 (va_recv (q0 := 0) (ci := 1) (q := (R_W, F_W, 2)) hK hP rfl rfl) (lq_W_stack (mc := 0) (ms := 0) htb htsC) (c_W_stack l (D, ids, ad) H.size S (xs (Int32.ofNat (3 * k) + 1).toNatClampNeg) _ (s3' (xs (Int32.ofNat (3 * k) + 1).toNatClampNeg))) rfl rfl (Nat.le_of_ble_eq_true rfl) dL_law_159 (fun r S1 H locs hw hP hPm hD hS => ?_)
    refine lv_aload_n hx hb dL_law_162 rfl (lv_at hl 1 rfl) ?_
    refine lv_aload_n hx hb dL_law_163 rfl (lv_at hl 3 rfl) ?_
    refine lv_iload_n hx hb dL_law_164 rfl (lv_at hl 0 rfl) ?_
    refine lv_iconst (v := 1) hx hb dL_law_165 (by decide) ?_
    refine lv_iadd hx hb dL_law_166 ?_
    refine va_sld hx hb hX hbl hbA hS in1 dL_law_167 ?_
    refine lwM (ids := ids) (ad := ad) (idm := idm) (adm := adm) (S := S1) (T := T) (As := [.int (xs (Int32.ofNat (3 * k) + 1).toNatClampNeg)]) (rest := [.int r]) hx hb hml hown htsM hKm hP hPm hD hS hA hck hzk hl.1 (lq_M_stack (mc := 0) (ms := 0) htb htsM) (c_M_stack l (D, idm, adm) H.size T (xs (Int32.ofNat (3 * k) + 1).toNatClampNeg) _ hw) rfl rfl (Nat.le_of_ble_eq_true rfl) dL_law_168 (fun r1 T1 H locs hw hP hPm hD hS => ?_)
    exact lv_icmp_eq hx hb dL_law_171 (tgt := 301) (by decide) (fun _ => tail S1 T1 H locs _ _ hw.2 hP hPm hD hS (Nat.le_add_right _ _) (Nat.le_add_right _ _)) (fun hne => absurd hw.1 hne)
  · refine lv_tableIn hx hb dL_law_32 (off := 144) (tgt := 176) (by omega) (by omega) (by rw [h]; rfl) (by decide) ?_
    refine lv_aload_n hx hb dL_law_176 rfl (lv_at hl 2 rfl) ?_
    refine lv_aload_n hx hb dL_law_177 rfl (lv_at hl 3 rfl) ?_
    refine lv_iload_n hx hb dL_law_178 rfl (lv_at hl 0 rfl) ?_
    refine lv_iconst (v := 1) hx hb dL_law_179 (by decide) ?_
    refine lv_iadd hx hb dL_law_180 ?_
    refine va_sld hx hb hX hbl hbA hS in1 dL_law_181 ?_
    refine lwC (ids := ids) (ad := ad) (idm := idm) (adm := adm) (S := S) (T := T) (mc1 := 0) (ms1 := 0) (As := [.int (xs (Int32.ofNat (3 * k) + 1).toNatClampNeg)]) (rest := []) hx hb hml hown htsC hK hC hN hP hPm hD hS hA hck hzk hl.1 (va_recv (q0 := 0) (ci := 1) (q := (R_W, F_W, 2)) hK hP rfl rfl) (lq_W_out (mc := 0) (ms := 0) htb htsC) (c_W_out l (D, ids, ad) H.size S (xs (Int32.ofNat (3 * k) + 1).toNatClampNeg) _ (s4' (xs (Int32.ofNat (3 * k) + 1).toNatClampNeg))) rfl rfl (Nat.le_of_ble_eq_true rfl) dL_law_182 (fun r S1 H locs hw hP hPm hD hS => ?_)
    refine lv_aload_n hx hb dL_law_185 rfl (lv_at hl 1 rfl) ?_
    refine lv_aload_n hx hb dL_law_186 rfl (lv_at hl 3 rfl) ?_
    refine lv_iload_n hx hb dL_law_187 rfl (lv_at hl 0 rfl) ?_
    refine lv_iconst (v := 1) hx hb dL_law_188 (by decide) ?_
    refine lv_iadd hx hb dL_law_189 ?_
    refine va_sld hx hb hX hbl hbA hS in1 dL_law_190 ?_
    refine lwM (ids := ids) (ad := ad) (idm := idm) (adm := adm) (S := S1) (T := T) (As := [.int (xs (Int32.ofNat (3 * k) + 1).toNatClampNeg)]) (rest := [.int r]) hx hb hml hown htsM hKm hP hPm hD hS hA hck hzk hl.1 (lq_M_out (mc := 0) (ms := 0) htb htsM) (c_M_out l (D, idm, adm) H.size T (xs (Int32.ofNat (3 * k) + 1).toNatClampNeg) _ hw) rfl rfl (Nat.le_of_ble_eq_true rfl) dL_law_191 (fun r1 T1 H locs hw hP hPm hD hS => ?_)
    exact lv_icmp_eq hx hb dL_law_194 (tgt := 301) (by decide) (fun _ => tail S1 T1 H locs _ _ hw.2 hP hPm hD hS (Nat.le_add_right _ _) (Nat.le_add_right _ _)) (fun hne => absurd hw.1 hne)
  · refine lv_tableIn hx hb dL_law_32 (off := 167) (tgt := 199) (by omega) (by omega) (by rw [h]; rfl) (by decide) ?_
    refine lv_aload_n hx hb dL_law_199 rfl (lv_at hl 2 rfl) ?_
    refine lv_aload_n hx hb dL_law_200 rfl (lv_at hl 3 rfl) ?_
    refine lv_iload_n hx hb dL_law_201 rfl (lv_at hl 0 rfl) ?_
    refine lv_iconst (v := 1) hx hb dL_law_202 (by decide) ?_
    refine lv_iadd hx hb dL_law_203 ?_
    refine va_sld hx hb hX hbl hbA hS in1 dL_law_204 ?_
    refine lwC (ids := ids) (ad := ad) (idm := idm) (adm := adm) (S := S) (T := T) (mc1 := 0) (ms1 := 0) (As := [.int (xs (Int32.ofNat (3 * k) + 1).toNatClampNeg)]) (rest := []) hx hb hml hown htsC hK hC hN hP hPm hD hS hA hck hzk hl.1 (va_recv (q0 := 0) (ci := 1) (q := (R_W, F_W, 2)) hK hP rfl rfl) (lq_W_cell (mc := 0) (ms := 0) htb htsC) (c_W_cell l (D, ids, ad) H.size S (xs (Int32.ofNat (3 * k) + 1).toNatClampNeg) _ (s5' (xs (Int32.ofNat (3 * k) + 1).toNatClampNeg))) rfl rfl (Nat.le_of_ble_eq_true rfl) dL_law_205 (fun r S1 H locs hw hP hPm hD hS => ?_)
    refine lv_aload_n hx hb dL_law_208 rfl (lv_at hl 1 rfl) ?_
    refine lv_aload_n hx hb dL_law_209 rfl (lv_at hl 3 rfl) ?_
    refine lv_iload_n hx hb dL_law_210 rfl (lv_at hl 0 rfl) ?_
    refine lv_iconst (v := 1) hx hb dL_law_211 (by decide) ?_
    refine lv_iadd hx hb dL_law_212 ?_
    refine va_sld hx hb hX hbl hbA hS in1 dL_law_213 ?_
    refine lwM (ids := ids) (ad := ad) (idm := idm) (adm := adm) (S := S1) (T := T) (As := [.int (xs (Int32.ofNat (3 * k) + 1).toNatClampNeg)]) (rest := [.int r]) hx hb hml hown htsM hKm hP hPm hD hS hA hck hzk hl.1 (lq_M_cell (mc := 0) (ms := 0) htb htsM) (c_M_cell l (D, idm, adm) H.size T (xs (Int32.ofNat (3 * k) + 1).toNatClampNeg) _ hw) rfl rfl (Nat.le_of_ble_eq_true rfl) dL_law_214 (fun r1 T1 H locs hw hP hPm hD hS => ?_)
    exact lv_icmp_eq hx hb dL_law_217 (tgt := 301) (by decide) (fun _ => tail S1 T1 H locs _ _ hw.2 hP hPm hD hS (Nat.le_add_right _ _) (Nat.le_add_right _ _)) (fun hne => absurd hw.1 hne)
  · refine lv_tableIn hx hb dL_law_32 (off := 190) (tgt := 222) (by omega) (by omega) (by rw [h]; rfl) (by decide) ?_
    refine lv_aload_n hx hb dL_law_222 rfl (lv_at hl 2 rfl) ?_
    refine lv_aload_n hx hb dL_law_223 rfl (lv_at hl 3 rfl) ?_
    refine lv_iload_n hx hb dL_law_224 rfl (lv_at hl 0 rfl) ?_
    refine lv_iconst (v := 1) hx hb dL_law_225 (by decide) ?_
    refine lv_iadd hx hb dL_law_226 ?_
    refine va_sld hx hb hX hbl hbA hS in1 dL_law_227 ?_
    refine lv_aload_n hx hb dL_law_228 rfl (lv_at hl 3 rfl) ?_
    refine lv_iload_n hx hb dL_law_229 rfl (lv_at hl 0 rfl) ?_
    refine lv_iconst (v := 2) hx hb dL_law_230 (by decide) ?_
    refine lv_iadd hx hb dL_law_231 ?_
    refine va_sld hx hb hX hbl hbA hS in2 dL_law_232 ?_
    refine lwC (ids := ids) (ad := ad) (idm := idm) (adm := adm) (S := S) (T := T) (mc1 := 0) (ms1 := 0) (As := [.int (xs (Int32.ofNat (3 * k) + 1).toNatClampNeg), .int (xs (Int32.ofNat (3 * k) + 2).toNatClampNeg)]) (rest := []) hx hb hml hown htsC hK hC hN hP hPm hD hS hA hck hzk hl.1 (va_recv (q0 := 0) (ci := 1) (q := (R_W, F_W, 2)) hK hP rfl rfl) (lq_W_disk (mc := 0) (ms := 0) htb htsC) (c_W_disk l (D, ids, ad) H.size S (xs (Int32.ofNat (3 * k) + 1).toNatClampNeg) (xs (Int32.ofNat (3 * k) + 2).toNatClampNeg) _ (s6' (xs (Int32.ofNat (3 * k) + 1).toNatClampNeg) (xs (Int32.ofNat (3 * k) + 2).toNatClampNeg))) rfl rfl (Nat.le_of_ble_eq_true rfl) dL_law_233 (fun r S1 H locs hw hP hPm hD hS => ?_)
    refine lv_aload_n hx hb dL_law_236 rfl (lv_at hl 1 rfl) ?_
    refine lv_aload_n hx hb dL_law_237 rfl (lv_at hl 3 rfl) ?_
    refine lv_iload_n hx hb dL_law_238 rfl (lv_at hl 0 rfl) ?_
    refine lv_iconst (v := 1) hx hb dL_law_239 (by decide) ?_
    refine lv_iadd hx hb dL_law_240 ?_
    refine va_sld hx hb hX hbl hbA hS in1 dL_law_241 ?_
    refine lv_aload_n hx hb dL_law_242 rfl (lv_at hl 3 rfl) ?_
    refine lv_iload_n hx hb dL_law_243 rfl (lv_at hl 0 rfl) ?_
    refine lv_iconst (v := 2) hx hb dL_law_244 (by decide) ?_
    refine lv_iadd hx hb dL_law_245 ?_
    refine va_sld hx hb hX hbl hbA hS in2 dL_law_246 ?_
    refine lwM (ids := ids) (ad := ad) (idm := idm) (adm := adm) (S := S1) (T := T) (As := [.int (xs (Int32.ofNat (3 * k) + 1).toNatClampNeg), .int (xs (Int32.ofNat (3 * k) + 2).toNatClampNeg)]) (rest := [.int r]) hx hb hml hown htsM hKm hP hPm hD hS hA hck hzk hl.1 (lq_M_disk (mc := 0) (ms := 0) htb htsM) (c_M_disk l (D, idm, adm) H.size T (xs (Int32.ofNat (3 * k) + 1).toNatClampNeg) (xs (Int32.ofNat (3 * k) + 2).toNatClampNeg) _ hw) rfl rfl (Nat.le_of_ble_eq_true rfl) dL_law_247 (fun r1 T1 H locs hw hP hPm hD hS => ?_)
    exact lv_icmp_eq hx hb dL_law_250 (tgt := 301) (by decide) (fun _ => tail S1 T1 H locs _ _ hw.2 hP hPm hD hS (Nat.le_add_right _ _) (Nat.le_add_right _ _)) (fun hne => absurd hw.1 hne)
  · refine lv_tableIn hx hb dL_law_32 (off := 223) (tgt := 255) (by omega) (by omega) (by rw [h]; rfl) (by decide) ?_
    refine lv_aload_n hx hb dL_law_255 rfl (lv_at hl 2 rfl) ?_
    refine lv_aload_n hx hb dL_law_256 rfl (lv_at hl 3 rfl) ?_
    refine lv_iload_n hx hb dL_law_257 rfl (lv_at hl 0 rfl) ?_
    refine lv_iconst (v := 1) hx hb dL_law_258 (by decide) ?_
    refine lv_iadd hx hb dL_law_259 ?_
    refine va_sld hx hb hX hbl hbA hS in1 dL_law_260 ?_
    refine lwC (ids := ids) (ad := ad) (idm := idm) (adm := adm) (S := S) (T := T) (mc1 := 0) (ms1 := 0) (As := [.int (xs (Int32.ofNat (3 * k) + 1).toNatClampNeg)]) (rest := []) hx hb hml hown htsC hK hC hN hP hPm hD hS hA hck hzk hl.1 (va_recv (q0 := 0) (ci := 1) (q := (R_W, F_W, 2)) hK hP rfl rfl) (lq_W_items (mc := 0) (ms := 0) htb htsC) (c_W_items l (D, ids, ad) H.size S (xs (Int32.ofNat (3 * k) + 1).toNatClampNeg) _ (s7' (xs (Int32.ofNat (3 * k) + 1).toNatClampNeg))) rfl rfl (Nat.le_of_ble_eq_true rfl) dL_law_261 (fun r S1 H locs hw hP hPm hD hS => ?_)
    refine lv_aload_n hx hb dL_law_264 rfl (lv_at hl 1 rfl) ?_
    refine lv_aload_n hx hb dL_law_265 rfl (lv_at hl 3 rfl) ?_
    refine lv_iload_n hx hb dL_law_266 rfl (lv_at hl 0 rfl) ?_
    refine lv_iconst (v := 1) hx hb dL_law_267 (by decide) ?_
    refine lv_iadd hx hb dL_law_268 ?_
    refine va_sld hx hb hX hbl hbA hS in1 dL_law_269 ?_
    refine lwM (ids := ids) (ad := ad) (idm := idm) (adm := adm) (S := S1) (T := T) (As := [.int (xs (Int32.ofNat (3 * k) + 1).toNatClampNeg)]) (rest := [.int r]) hx hb hml hown htsM hKm hP hPm hD hS hA hck hzk hl.1 (lq_M_items (mc := 0) (ms := 0) htb htsM) (c_M_items l (D, idm, adm) H.size T (xs (Int32.ofNat (3 * k) + 1).toNatClampNeg) _ hw) rfl rfl (Nat.le_of_ble_eq_true rfl) dL_law_270 (fun r1 T1 H locs hw hP hPm hD hS => ?_)
    exact lv_icmp_eq hx hb dL_law_273 (tgt := 301) (by decide) (fun _ => tail S1 T1 H locs _ _ hw.2 hP hPm hD hS (Nat.le_add_right _ _) (Nat.le_add_right _ _)) (fun hne => absurd hw.1 hne)
  · refine lv_tableIn hx hb dL_law_32 (off := 246) (tgt := 278) (by omega) (by omega) (by rw [h]; rfl) (by decide) ?_
    refine lv_aload_n hx hb dL_law_278 rfl (lv_at hl 2 rfl) ?_
    refine lv_aload_n hx hb dL_law_279 rfl (lv_at hl 3 rfl) ?_
    refine lv_iload_n hx hb dL_law_280 rfl (lv_at hl 0 rfl) ?_
    refine lv_iconst (v := 1) hx hb dL_law_281 (by decide) ?_
    refine lv_iadd hx hb dL_law_282 ?_
    refine va_sld hx hb hX hbl hbA hS in1 dL_law_283 ?_
    refine lwC (ids := ids) (ad := ad) (idm := idm) (adm := adm) (S := S) (T := T) (mc1 := 0) (ms1 := 0) (As := [.int (xs (Int32.ofNat (3 * k) + 1).toNatClampNeg)]) (rest := []) hx hb hml hown htsC hK hC hN hP hPm hD hS hA hck hzk hl.1 (va_recv (q0 := 0) (ci := 1) (q := (R_W, F_W, 2)) hK hP rfl rfl) (lq_W_buffer (mc := 0) (ms := 0) htb htsC) (c_W_buffer l (D, ids, ad) H.size S (xs (Int32.ofNat (3 * k) + 1).toNatClampNeg) _ (s8' (xs (Int32.ofNat (3 * k) + 1).toNatClampNeg))) rfl rfl (Nat.le_of_ble_eq_true rfl) dL_law_284 (fun r S1 H locs hw hP hPm hD hS => ?_)
    refine lv_aload_n hx hb dL_law_287 rfl (lv_at hl 1 rfl) ?_
    refine lv_aload_n hx hb dL_law_288 rfl (lv_at hl 3 rfl) ?_
    refine lv_iload_n hx hb dL_law_289 rfl (lv_at hl 0 rfl) ?_
    refine lv_iconst (v := 1) hx hb dL_law_290 (by decide) ?_
    refine lv_iadd hx hb dL_law_291 ?_
    refine va_sld hx hb hX hbl hbA hS in1 dL_law_292 ?_
    refine lwM (ids := ids) (ad := ad) (idm := idm) (adm := adm) (S := S1) (T := T) (As := [.int (xs (Int32.ofNat (3 * k) + 1).toNatClampNeg)]) (rest := [.int r]) hx hb hml hown htsM hKm hP hPm hD hS hA hck hzk hl.1 (lq_M_buffer (mc := 0) (ms := 0) htb htsM) (c_M_buffer l (D, idm, adm) H.size T (xs (Int32.ofNat (3 * k) + 1).toNatClampNeg) _ hw) rfl rfl (Nat.le_of_ble_eq_true rfl) dL_law_293 (fun r1 T1 H locs hw hP hPm hD hS => ?_)
    exact lv_icmp_eq hx hb dL_law_296 (tgt := 301) (by decide) (fun _ => tail S1 T1 H locs _ _ hw.2 hP hPm hD hS (Nat.le_add_right _ _) (Nat.le_add_right _ _)) (fun hne => absurd hw.1 hne)
  · refine lv_tableOut hx hb dL_law_32 (tgt := 301) (by omega) (by decide) ?_
    exact tail S T H locs _ _ s9' hP hPm hD hS (Nat.le_add_right _ _) (Nat.le_add_right _ _)
