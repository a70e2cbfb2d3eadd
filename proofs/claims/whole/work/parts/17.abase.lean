def rmA (f n mc ms : Nat) : Room := { frames := f, cells := mc, slots := ms, locals := n }
theorem same_byte {D : va_G} {cl : List vw_C} {tys : List (ClassId × FieldType)} {U : State} (hK : va_K D cl tys U) (i j : Nat) {a b : ClassId} (hi : tys[i]? = some (a, .byte)) (hj : tys[j]? = some (b, .byte)) : a = b := Option.some.inj (((hK.2 i _ hi).2 : U.vm.findClass _ = some a).symm.trans ((hK.2 j _ hj).2 : U.vm.findClass _ = some b))
theorem push_C {g : Gm} {S : StC} {q : Nat} {e : va_E} (h : q ∉ S.2.2.2.2.2.1) : wC g S ++ [(q, e)] = wC g (S.1, S.2.1, S.2.2.1, S.2.2.2.1, S.2.2.2.2.1, S.2.2.2.2.2.1 ++ [q], va_up S.2.2.2.2.2.2 q e) := by
  show (xC g S ++ va_pl _ _) ++ [(q, e)] = xC g S ++ va_pl _ _
  rw [List.append_assoc, va_pl_push h]
set_option maxHeartbeats 4000000 in
theorem ofA_v {l : Launch} {g : Gm} {sz : Nat} {S : StC} {y : MethodName} {cc : ByteArray} {maxL f n mc ms : Nat} {post : StC → Prop} {av : List Value} (hy : plainName y.cls = true) (hlen : (lg_sl av).length ≤ maxL)
    (body : ∀ (p : Program) (e : Env) (s : State) (m : MethodId) (args : Array Value) (below : List Frame) (meth : Method) (c : Code) (Q : State → Prop) (A : Nat → Prop) (H : Heap) (locs : List Loc) (ls : Array Slot), p.tables.exec = Jvm.exec → c.code = cc → c.maxLocals = maxL → (∀ w ∈ w_C, w.before args s = true) → s.vm.findClass y.cls = some m.cls → va_K g.1 classes (tysC g) s → (∀ q : Nat, s.heap.size ≤ q → A q) → SC g A s s.heap → NW g s → meth.name = y.name →
      (∀ (S' : StC) (H : Heap) (locs : List Loc) (pc : Nat) (ls : Array Slot) (c0 z0 : Nat), c0 ≤ mc → z0 ≤ ms → post S' → va_P g.1 classes (wC g S') H → va_D A (wC g S') → va_S A s.heap H locs → decode cc pc = .ok (.return_, 1) → W p l e (rmA f n mc ms) s m args below meth c H locs c0 z0 Q (F0 m pc ls [])) →
      lv_has ls maxL (lv_args 0 av) → va_P g.1 classes (wC g S) H → va_D A (wC g S) → va_S A s.heap H locs → W p l e (rmA f n mc ms) s m args below meth c H locs 0 0 Q (F0 m 0 ls [])) :
    Met l y (.code y cc maxL none :: w_C) (rmA f n mc ms) (va_Pc av (PC g sz S)) (va_Qv post (BC g (AC g sz S)) (AC g sz S)) mc ms (AC g sz S) := by
  refine Met.ofW (cc := cc) (maxL := maxL) (ret := none) hy rfl ?_
  intro p e s m args below meth c s₁ B hml hv
  obtain ⟨rfl, hsz, hP, hK, hD0, hSC, hNW⟩ := hv
  subst hsz
  have hts := atoms_spec (ws := .code y cc maxL none :: w_C) B.pre
  have hlk := B.notSynchronized
  have hD : va_D (AC g s.heap.size S) (wC g S) := hD0.self
  have hl := lv_entry av (n := maxL) hlen
  rw [lg_entry_eq]
  refine body p e s m _ below meth c _ (AC g s.heap.size S) s.heap [] _ B.exec B.bytes hml (fun w h => hts w (List.mem_cons_of_mem _ h)) (findClass_of_methodNamed B.named) hK (fun q h => Or.inr h) hSC hNW (name_of_methodNamed B.named B.method).1 ?_ hl hP hD va_S.rf
  intro S' H locs pc ls c0 z0 hc0 hz0 hp hP hD hS hd
  refine W.widen hc0 hz0 ?_
  exact W.vret B.exec B.bytes B.returns (fun t ht hW => ⟨⟨S', rfl, hp, by rw [ht]; exact hP, va_K.moved hW.alike hK, hD⟩, hS.F ht⟩) hS.2.2 hd
set_option maxHeartbeats 4000000 in
theorem ofA_i {l : Launch} {g : Gm} {sz : Nat} {S : StC} {y : MethodName} {cc : ByteArray} {maxL f n mc ms : Nat} {post : Int32 → StC → Prop} {av : List Value} (hy : plainName y.cls = true) (hlen : (lg_sl av).length ≤ maxL)
    (body : ∀ (p : Program) (e : Env) (s : State) (m : MethodId) (args : Array Value) (below : List Frame) (meth : Method) (c : Code) (Q : State → Prop) (A : Nat → Prop) (H : Heap) (locs : List Loc) (ls : Array Slot), p.tables.exec = Jvm.exec → c.code = cc → c.maxLocals = maxL → (∀ w ∈ w_C, w.before args s = true) → s.vm.findClass y.cls = some m.cls → va_K g.1 classes (tysC g) s → (∀ q : Nat, s.heap.size ≤ q → A q) → SC g A s s.heap → NW g s → meth.name = y.name →
      (∀ (r : Int32) (S' : StC) (H : Heap) (locs : List Loc) (pc : Nat) (ls : Array Slot) (c0 z0 : Nat), c0 ≤ mc → z0 ≤ ms → post r S' → va_P g.1 classes (wC g S') H → va_D A (wC g S') → va_S A s.heap H locs → decode cc pc = .ok (.ireturn, 1) → W p l e (rmA f n mc ms) s m args below meth c H locs c0 z0 Q (F0 m pc ls [.int r])) →
      lv_has ls maxL (lv_args 0 av) → va_P g.1 classes (wC g S) H → va_D A (wC g S) → va_S A s.heap H locs → W p l e (rmA f n mc ms) s m args below meth c H locs 0 0 Q (F0 m 0 ls [])) :
    Met l y (.code y cc maxL (some .int) :: w_C) (rmA f n mc ms) (va_Pc av (PC g sz S)) (va_Qi post (BC g (AC g sz S)) (AC g sz S)) mc ms (AC g sz S) := by
  refine Met.ofW (cc := cc) (maxL := maxL) (ret := (some .int)) hy rfl ?_
  intro p e s m args below meth c s₁ B hml hv
  obtain ⟨rfl, hsz, hP, hK, hD0, hSC, hNW⟩ := hv
  subst hsz
  have hts := atoms_spec (ws := .code y cc maxL (some .int) :: w_C) B.pre
  have hlk := B.notSynchronized
  have hD : va_D (AC g s.heap.size S) (wC g S) := hD0.self
  have hl := lv_entry av (n := maxL) hlen
  rw [lg_entry_eq]
  refine body p e s m _ below meth c _ (AC g s.heap.size S) s.heap [] _ B.exec B.bytes hml (fun w h => hts w (List.mem_cons_of_mem _ h)) (findClass_of_methodNamed B.named) hK (fun q h => Or.inr h) hSC hNW (name_of_methodNamed B.named B.method).1 ?_ hl hP hD va_S.rf
  intro r S' H locs pc ls c0 z0 hc0 hz0 hp hP hD hS hd
  refine W.widen hc0 hz0 ?_
  exact W.iret B.exec B.bytes B.returns (fun t ht hW => ⟨⟨r, S', rfl, hp, by rw [ht]; exact hP, va_K.moved hW.alike hK, hD⟩, hS.F ht⟩) hS.2.2 hd
set_option maxHeartbeats 4000000 in
theorem ofA_z {l : Launch} {g : Gm} {sz : Nat} {S : StC} {y : MethodName} {cc : ByteArray} {maxL f n mc ms : Nat} {post : Int32 → StC → Prop} {av : List Value} {rt : FieldType} (hy : plainName y.cls = true) (hlen : (lg_sl av).length ≤ maxL)
    (body : ∀ (p : Program) (e : Env) (s : State) (m : MethodId) (args : Array Value) (below : List Frame) (meth : Method) (c : Code) (Q : State → Prop) (A : Nat → Prop) (H : Heap) (locs : List Loc) (ls : Array Slot), p.tables.exec = Jvm.exec → c.code = cc → c.maxLocals = maxL → (∀ w ∈ w_C, w.before args s = true) → s.vm.findClass y.cls = some m.cls → va_K g.1 classes (tysC g) s → (∀ q : Nat, s.heap.size ≤ q → A q) → SC g A s s.heap → NW g s → meth.name = y.name →
      (∀ (r : Int32) (S' : StC) (H : Heap) (locs : List Loc) (pc : Nat) (ls : Array Slot) (c0 z0 : Nat), c0 ≤ mc → z0 ≤ ms → narrow rt (.int r) = .int r → post r S' → va_P g.1 classes (wC g S') H → va_D A (wC g S') → va_S A s.heap H locs → decode cc pc = .ok (.ireturn, 1) → W p l e (rmA f n mc ms) s m args below meth c H locs c0 z0 Q (F0 m pc ls [.int r])) →
      lv_has ls maxL (lv_args 0 av) → va_P g.1 classes (wC g S) H → va_D A (wC g S) → va_S A s.heap H locs → W p l e (rmA f n mc ms) s m args below meth c H locs 0 0 Q (F0 m 0 ls [])) :
    Met l y (.code y cc maxL (some rt) :: w_C) (rmA f n mc ms) (va_Pc av (PC g sz S)) (va_Qi post (BC g (AC g sz S)) (AC g sz S)) mc ms (AC g sz S) := by
  refine Met.ofW (cc := cc) (maxL := maxL) (ret := (some rt)) hy rfl ?_
  intro p e s m args below meth c s₁ B hml hv
  obtain ⟨rfl, hsz, hP, hK, hD0, hSC, hNW⟩ := hv
  subst hsz
  have hts := atoms_spec (ws := .code y cc maxL (some rt) :: w_C) B.pre
  have hlk := B.notSynchronized
  have hD : va_D (AC g s.heap.size S) (wC g S) := hD0.self
  have hl := lv_entry av (n := maxL) hlen
  rw [lg_entry_eq]
  refine body p e s m _ below meth c _ (AC g s.heap.size S) s.heap [] _ B.exec B.bytes hml (fun w h => hts w (List.mem_cons_of_mem _ h)) (findClass_of_methodNamed B.named) hK (fun q h => Or.inr h) hSC hNW (name_of_methodNamed B.named B.method).1 ?_ hl hP hD va_S.rf
  intro r S' H locs pc ls c0 z0 hc0 hz0 hn hp hP hD hS hd
  refine W.widen hc0 hz0 ?_
  exact W.zret B.exec B.bytes B.returns hn (fun t ht hW => ⟨⟨r, S', rfl, hp, by rw [ht]; exact hP, va_K.moved hW.alike hK, hD⟩, hS.F ht⟩) hS.2.2 hd
set_option maxHeartbeats 4000000 in
theorem ofA_q {l : Launch} {g : Gm} {sz : Nat} {S : StC} {y : MethodName} {cc : ByteArray} {maxL f n mc ms : Nat} {post : Option Nat → StC → Prop} {av : List Value} {rt : FieldType} (hrt : (∃ n, rt = .object n) ∨ ∃ t, rt = .array t) (hy : plainName y.cls = true) (hlen : (lg_sl av).length ≤ maxL)
    (body : ∀ (p : Program) (e : Env) (s : State) (m : MethodId) (args : Array Value) (below : List Frame) (meth : Method) (c : Code) (Q : State → Prop) (A : Nat → Prop) (H : Heap) (locs : List Loc) (ls : Array Slot), p.tables.exec = Jvm.exec → c.code = cc → c.maxLocals = maxL → (∀ w ∈ w_C, w.before args s = true) → s.vm.findClass y.cls = some m.cls → va_K g.1 classes (tysC g) s → (∀ q : Nat, s.heap.size ≤ q → A q) → SC g A s s.heap → NW g s → meth.name = y.name →
      (∀ (r : Option Nat) (S' : StC) (H : Heap) (locs : List Loc) (pc : Nat) (ls : Array Slot) (c0 z0 : Nat), c0 ≤ mc → z0 ≤ ms → post r S' → va_P g.1 classes (wC g S') H → va_D A (wC g S') → va_S A s.heap H locs → decode cc pc = .ok (.areturn, 1) → W p l e (rmA f n mc ms) s m args below meth c H locs c0 z0 Q (F0 m pc ls [va_rf r])) →
      lv_has ls maxL (lv_args 0 av) → va_P g.1 classes (wC g S) H → va_D A (wC g S) → va_S A s.heap H locs → W p l e (rmA f n mc ms) s m args below meth c H locs 0 0 Q (F0 m 0 ls [])) :
    Met l y (.code y cc maxL (some rt) :: w_C) (rmA f n mc ms) (va_Pc av (PC g sz S)) (va_Qq post (BC g (AC g sz S)) (AC g sz S)) mc ms (AC g sz S) := by
  refine Met.ofW (cc := cc) (maxL := maxL) (ret := (some rt)) hy rfl ?_
  intro p e s m args below meth c s₁ B hml hv
  obtain ⟨rfl, hsz, hP, hK, hD0, hSC, hNW⟩ := hv
  subst hsz
  have hts := atoms_spec (ws := .code y cc maxL (some rt) :: w_C) B.pre
  have hlk := B.notSynchronized
  have hD : va_D (AC g s.heap.size S) (wC g S) := hD0.self
  have hl := lv_entry av (n := maxL) hlen
  rw [lg_entry_eq]
  refine body p e s m _ below meth c _ (AC g s.heap.size S) s.heap [] _ B.exec B.bytes hml (fun w h => hts w (List.mem_cons_of_mem _ h)) (findClass_of_methodNamed B.named) hK (fun q h => Or.inr h) hSC hNW (name_of_methodNamed B.named B.method).1 ?_ hl hP hD va_S.rf
  intro r S' H locs pc ls c0 z0 hc0 hz0 hp hP hD hS hd
  refine W.widen hc0 hz0 ?_
  exact W.aret B.exec B.bytes B.returns hrt (va_rf_or r) (fun t ht hW => ⟨⟨r, S', rfl, hp, by rw [ht]; exact hP, va_K.moved hW.alike hK, hD⟩, hS.F ht⟩) hS.2.2 hd
section
variable {p : Program} {l : Launch} {e : Env} {R : Room} {s : State} {m : MethodId} {args : Array Value} {below : List Frame} {meth : Method} {c : Code} {H : Heap} {locs : List Loc} {cells slots : Nat} {Q : State → Prop} {cc : ByteArray} {pc idx : Nat} {ls : Array Slot} {rest : List Value} {A : Nat → Prop} {H0 : Heap} {g : Gm} {S S2 : StC}
theorem pn_C {C own : String} {F : u_T} {N ci : Nat} {fs : List Value} (hx : p.tables.exec = Jvm.exec) (hb : c.code = cc) (hts : ∀ w ∈ w_C, w.before args s = true) (hin : ∀ w ∈ u_ws C F N, w ∈ w_C) (ty : Nat → FieldType) (hty : ∀ k, k < N → parseFieldDescriptor (F k).2.2.1 = some (ty k)) (hown : s.vm.findClass own = some m.cls) (hcl : Cond.classLink own idx C ∈ w_C) (hinst : Cond.instantiable C N ∈ w_C) (hini : Cond.initialized C ∈ w_C) (hK : va_K g.1 classes (tysC g) s) (hP : va_P g.1 classes (wC g S) H) (hD : va_D A (wC g S)) (hS : va_S A H0 H locs) (hA : ∀ q : Nat, H0.size ≤ q → A q) (hc : classes[ci]? = some (C, F, N)) (hfs : ∀ j, j < N → defaultValue (ty j) = vp_V fs j) (hcells : cells + 1 ≤ R.cells) (hslots : slots + N ≤ R.slots) (hdg : decode cc pc = .ok (.new idx, 3))
    (kk : ∀ (q : Nat) (H1 : Heap), q ∉ S.2.2.2.2.2.1 → va_P g.1 classes (wC g (S.1, S.2.1, S.2.2.1, S.2.2.2.1, S.2.2.2.2.1, S.2.2.2.2.2.1 ++ [q], va_up S.2.2.2.2.2.2 q (.inr (ci, fs)))) H1 → va_D A (wC g (S.1, S.2.1, S.2.2.1, S.2.2.2.1, S.2.2.2.2.1, S.2.2.2.2.2.1 ++ [q], va_up S.2.2.2.2.2.2 q (.inr (ci, fs)))) → va_S A H0 H1 locs → W p l e R s m args below meth c H1 locs (cells + 1) (slots + N) Q (F0 m (pc + 3) ls (.ref q :: rest))) : W p l e R s m args below meth c H locs cells slots Q (F0 m pc ls rest) := by
  refine va_new (D := g.1) (ci := ci) (fs := fs) (C := C) (T := F) (N := N) hx hb hts hin ty hty hown (hts _ hcl) (hts _ hinst) (hts _ hini) hK hP hD hS hA hc hfs hcells hslots hdg (fun q H1 h1 h2 h3 => ?_)
  have hq : q ∉ S.2.2.2.2.2.1 := va_pl_fresh2 (X := xC g S) (f := S.2.2.2.2.2.2) h2
  rw [push_C hq] at h1 h2
  exact kk q H1 hq h1 h2 h3
theorem pnb_C {n : Int32} (hx : p.tables.exec = Jvm.exec) (hb : c.code = cc) (hts : ∀ w ∈ w_C, w.before args s = true) (harr : Cond.arrayClass .byte ∈ w_C) (hK : va_K g.1 classes (tysC g) s) (hP : va_P g.1 classes (wC g S) H) (hD : va_D A (wC g S)) (hS : va_S A H0 H locs) (hA : ∀ q : Nat, H0.size ≤ q → A q) (hn : ¬ n < 0) (hbytes : n.toNatClampNeg * 1 ≤ 536870912) (hcells : cells + 1 ≤ R.cells) (hslots : slots + n.toNatClampNeg ≤ R.slots) (hdg : decode cc pc = .ok (.newarray .byte, 2))
    (kk : ∀ (q : Nat) (H1 : Heap), q ∉ S.2.2.2.2.2.1 → va_P g.1 classes (wC g (S.1, S.2.1, S.2.2.1, S.2.2.2.1, S.2.2.2.2.1, S.2.2.2.2.2.1 ++ [q], va_up S.2.2.2.2.2.2 q (.inl (g.2.1 3, n.toNatClampNeg, .inl (fun _ => 0))))) H1 → va_D A (wC g (S.1, S.2.1, S.2.2.1, S.2.2.2.1, S.2.2.2.2.1, S.2.2.2.2.2.1 ++ [q], va_up S.2.2.2.2.2.2 q (.inl (g.2.1 3, n.toNatClampNeg, .inl (fun _ => 0))))) → va_S A H0 H1 locs → W p l e R s m args below meth c H1 locs (cells + 1) (slots + n.toNatClampNeg) Q (F0 m (pc + 2) ls (.ref q :: rest))) : W p l e R s m args below meth c H locs cells slots Q (F0 m pc ls (.int n :: rest)) := by
  refine va_newa (atype := .byte) (ty := .byte) (N' := n.toNatClampNeg) (a0 := (n.toNatClampNeg, .inl (fun _ => 0))) hx hb (hts _ harr) rfl hK hP hD hS hA (fun _ => rfl) hn rfl hbytes hcells hslots hdg (fun q cA H1 hK1 h1 h2 h3 => ?_)
  obtain rfl : g.2.1 3 = cA := same_byte hK1 2 7 rfl rfl
  have hq : q ∉ S.2.2.2.2.2.1 := va_pl_fresh2 (X := xC g S) (f := S.2.2.2.2.2.2) h2
  rw [push_C hq] at h1 h2
  exact kk q H1 hq h1 h2 h3
theorem pni_C {n : Int32} (hx : p.tables.exec = Jvm.exec) (hb : c.code = cc) (hts : ∀ w ∈ w_C, w.before args s = true) (harr : Cond.arrayClass .int ∈ w_C) (hK : va_K g.1 classes (tysC g) s) (hP : va_P g.1 classes (wC g S) H) (hD : va_D A (wC g S)) (hS : va_S A H0 H locs) (hA : ∀ q : Nat, H0.size ≤ q → A q) (hn : ¬ n < 0) (hbytes : n.toNatClampNeg * 4 ≤ 536870912) (hcells : cells + 1 ≤ R.cells) (hslots : slots + n.toNatClampNeg ≤ R.slots) (hdg : decode cc pc = .ok (.newarray .int, 2))
    (kk : ∀ (q : Nat) (H1 : Heap), q ∉ S.2.2.2.2.2.1 → va_P g.1 classes (wC g (S.1, S.2.1, S.2.2.1, S.2.2.2.1, S.2.2.2.2.1, S.2.2.2.2.2.1 ++ [q], va_up S.2.2.2.2.2.2 q (.inl (g.2.1 0, n.toNatClampNeg, .inl (fun _ => 0))))) H1 → va_D A (wC g (S.1, S.2.1, S.2.2.1, S.2.2.2.1, S.2.2.2.2.1, S.2.2.2.2.2.1 ++ [q], va_up S.2.2.2.2.2.2 q (.inl (g.2.1 0, n.toNatClampNeg, .inl (fun _ => 0))))) → va_S A H0 H1 locs → W p l e R s m args below meth c H1 locs (cells + 1) (slots + n.toNatClampNeg) Q (F0 m (pc + 2) ls (.ref q :: rest))) : W p l e R s m args below meth c H locs cells slots Q (F0 m pc ls (.int n :: rest)) := by
  refine va_newa (atype := .int) (ty := .int) (N' := n.toNatClampNeg) (a0 := (n.toNatClampNeg, .inl (fun _ => 0))) hx hb (hts _ harr) rfl hK hP hD hS hA (fun _ => rfl) hn rfl hbytes hcells hslots hdg (fun q cA H1 hK1 h1 h2 h3 => ?_)
  obtain rfl : g.2.1 0 = cA := same_int hK1 0 7 rfl rfl
  have hq : q ∉ S.2.2.2.2.2.1 := va_pl_fresh2 (X := xC g S) (f := S.2.2.2.2.2.2) h2
  rw [push_C hq] at h1 h2
  exact kk q H1 hq h1 h2 h3
theorem pbl_C {a n : Nat} {f : Nat → Int32} {i : Int32} (hx : p.tables.exec = Jvm.exec) (hb : c.code = cc) (hK : va_K g.1 classes (tysC g) s) (hP : va_P g.1 classes (wC g S) H) (ha : a ∈ S.2.2.2.2.2.1) (hf : S.2.2.2.2.2.2 a = .inl (g.2.1 3, n, .inl f)) (hi : vp_in i n) (hdg : decode cc pc = .ok (.baload, 1))
    (kk : W p l e R s m args below meth c H locs cells slots Q (F0 m (pc + 1) ls (.int (f i.toNatClampNeg) :: rest))) : W p l e R s m args below meth c H locs cells slots Q (F0 m pc ls (.int i :: .ref a :: rest)) := by
  obtain ⟨q0, hq⟩ := va_pl_get (X := xC g S) (f := S.2.2.2.2.2.2) ha
  rw [hf] at hq
  exact va_bald hx hb hK hP q0 2 hq rfl hi hdg kk
theorem pal_C {a n : Nat} {f : Nat → Int32} (hx : p.tables.exec = Jvm.exec) (hb : c.code = cc) (hK : va_K g.1 classes (tysC g) s) (hP : va_P g.1 classes (wC g S) H) (ha : a ∈ S.2.2.2.2.2.1) (hf : S.2.2.2.2.2.2 a = .inl (g.2.1 3, n, .inl f)) (hdg : decode cc pc = .ok (.arraylength, 1))
    (kk : W p l e R s m args below meth c H locs cells slots Q (F0 m (pc + 1) ls (.int (Int32.ofNat n) :: rest))) : W p l e R s m args below meth c H locs cells slots Q (F0 m pc ls (.ref a :: rest)) := by
  obtain ⟨q0, hq⟩ := va_pl_get (X := xC g S) (f := S.2.2.2.2.2.2) ha
  rw [hf] at hq
  exact va_alen hx hb hK hP q0 2 hq rfl rfl hdg kk
theorem pbs_C {a n : Nat} {f : Nat → Int32} {i x : Int32} (hx : p.tables.exec = Jvm.exec) (hb : c.code = cc) (hK : va_K g.1 classes (tysC g) s) (hP : va_P g.1 classes (wC g S) H) (hD : va_D A (wC g S)) (hS : va_S A H0 H locs) (ha : a ∈ S.2.2.2.2.2.1) (hf : S.2.2.2.2.2.2 a = .inl (g.2.1 3, n, .inl f)) (hi : vp_in i n) (hdg : decode cc pc = .ok (.bastore, 1))
    (kk : ∀ (H1 : Heap) (locs1 : List Loc), va_P g.1 classes (wC g (S.1, S.2.1, S.2.2.1, S.2.2.2.1, S.2.2.2.2.1, S.2.2.2.2.2.1, va_up S.2.2.2.2.2.2 a (.inl (g.2.1 3, n, .inl (upd f i.toNatClampNeg (vp_nar .byte x)))))) H1 → va_D A (wC g (S.1, S.2.1, S.2.2.1, S.2.2.2.1, S.2.2.2.2.1, S.2.2.2.2.2.1, va_up S.2.2.2.2.2.2 a (.inl (g.2.1 3, n, .inl (upd f i.toNatClampNeg (vp_nar .byte x)))))) → va_S A H0 H1 locs1 → W p l e R s m args below meth c H1 locs1 cells slots Q (F0 m (pc + 1) ls rest)) : W p l e R s m args below meth c H locs cells slots Q (F0 m pc ls (.int x :: .int i :: .ref a :: rest)) := by
  obtain ⟨q0, hq⟩ := va_pl_get (X := xC g S) (f := S.2.2.2.2.2.2) ha
  have hset := fun e9 => va_pl_set (e := e9) hD ha hq
  rw [hf] at hq
  refine va_bast hx hb hK hP hD hS q0 2 hq rfl hi hdg (fun H1 locs1 h1 h2 h3 => ?_)
  have e1 : (wC g S).set q0 (a, .inl (g.2.1 3, n, .inl (upd f i.toNatClampNeg (vp_nar .byte x)))) = wC g (S.1, S.2.1, S.2.2.1, S.2.2.2.1, S.2.2.2.2.1, S.2.2.2.2.2.1, va_up S.2.2.2.2.2.2 a (.inl (g.2.1 3, n, .inl (upd f i.toNatClampNeg (vp_nar .byte x))))) := hset _
  rw [e1] at h1 h2
  exact kk H1 locs1 h1 h2 h3
theorem ppF_C {C own : String} {F : u_T} {N ci a : Nat} {vs : List Value} {v : Value} (hx : p.tables.exec = Jvm.exec) (hb : c.code = cc) (hts : ∀ w ∈ w_C, w.before args s = true) (hin : ∀ w ∈ u_ws C F N, w ∈ w_C) (ty : Nat → FieldType) (hty : ∀ k, k < N → parseFieldDescriptor (F k).2.2.1 = some (ty k)) (hnm : ∀ a, a < N → ∀ b, b < N → a ≠ b → (F a).2.1 ≠ (F b).2.1) (hown : s.vm.findClass own = some m.cls) (hK : va_K g.1 classes (tysC g) s) (hP : va_P g.1 classes (wC g S) H) (hD : va_D A (wC g S)) (hS : va_S A H0 H locs) (ha : a ∈ S.2.2.2.2.2.1) (hf : S.2.2.2.2.2.2 a = .inr (ci, vs)) (hc : classes[ci]? = some (C, F, N)) (k : Nat) (hk : k < N) (hfin : (F k).2.2.2 = true) (hmn : meth.name = "<init>") (hdecl : (F k).1 = own) (hn : narrow (ty k) v = v) (hfit : fits (ty k) v = true) (hl : k < vs.length) (hlink : Cond.fieldLink own idx (F k).1 (F k).2.1 (F k).2.2.1 ∈ w_C) (hdg : decode cc pc = .ok (.putfield idx, 3))
    (kk : ∀ (H1 : Heap) (locs1 : List Loc), va_P g.1 classes (wC g (S.1, S.2.1, S.2.2.1, S.2.2.2.1, S.2.2.2.2.1, S.2.2.2.2.2.1, va_up S.2.2.2.2.2.2 a (.inr (ci, vs.set k v)))) H1 → va_D A (wC g (S.1, S.2.1, S.2.2.1, S.2.2.2.1, S.2.2.2.2.1, S.2.2.2.2.2.1, va_up S.2.2.2.2.2.2 a (.inr (ci, vs.set k v)))) → va_S A H0 H1 locs1 → W p l e R s m args below meth c H1 locs1 cells slots Q (F0 m (pc + 3) ls rest)) : W p l e R s m args below meth c H locs cells slots Q (F0 m pc ls (v :: .ref a :: rest)) := by
  obtain ⟨q0, hq⟩ := va_pl_get (X := xC g S) (f := S.2.2.2.2.2.2) ha
  have hset := fun e9 => va_pl_set (e := e9) hD ha hq
  rw [hf] at hq
  refine va_putF (D := g.1) (ci := ci) (C := C) (T := F) (N := N) hx hb hts hin ty hty hnm hown hK hP hD hS q0 hq hc k hk (hts _ hlink) (fun _ h9 => h9) hfin hmn hdecl (hty k hk) hn hfit hl hdg (fun H1 locs1 h1 h2 h3 => ?_)
  have e1 : (wC g S).set q0 (a, .inr (ci, vs.set k v)) = wC g (S.1, S.2.1, S.2.2.1, S.2.2.2.1, S.2.2.2.2.1, S.2.2.2.2.2.1, va_up S.2.2.2.2.2.2 a (.inr (ci, vs.set k v))) := hset _
  rw [e1] at h1 h2
  exact kk H1 locs1 h1 h2 h3
def cpyB (n0 n1 : Nat) (f : Nat → Int32) (sp dp n : Int32) : Prop := cpyOK n0 n1 sp dp n ∧ ∀ i, i < n.toNatClampNeg → fits .byte (.int (f (sp.toNatClampNeg + i))) = true
theorem cpyB_C {own : String} {a b n0 n1 : Nat} {f h : Nat → Int32} {sp dp k : Int32} (hx : p.tables.exec = Jvm.exec) (hb : c.code = cc) (hml : c.maxLocals = ls.size) (hown : s.vm.findClass own = some m.cls) (hlink : (Cond.methodLink own idx arraycopyName).before args s = true) (hnat : (Cond.native arraycopyName).before args s = true) (hstat : (Cond.static arraycopyName).before args s = true) (hini : (Cond.initialized "java/lang/System").before args s = true) (hK : va_K g.1 classes (tysC g) s) (hP : va_P g.1 classes (wC g S) H) (hD : va_D A (wC g S)) (hS : va_S A H0 H locs) (ha : a ∈ S.2.2.2.2.2.1) (hf : S.2.2.2.2.2.2 a = .inl (g.2.1 3, n0, .inl f)) (ha2 : b ∈ S.2.2.2.2.2.1) (hf2 : S.2.2.2.2.2.2 b = .inl (g.2.1 3, n1, .inl h)) (ho : cpyB n0 n1 f sp dp k) (hframes : 1 ≤ R.frames) (hlocals : (rest.map fun v => v.category).sum + (nativeFrameWords "java/lang/System" "arraycopy" 5 + 11) ≤ R.locals) (hdg : decode cc pc = .ok (.invokestatic idx, 3))
    (kk : ∀ (H1 : Heap) (locs1 : List Loc), va_P g.1 classes (wC g (S.1, S.2.1, S.2.2.1, S.2.2.2.1, S.2.2.2.2.1, S.2.2.2.2.2.1, va_up S.2.2.2.2.2.2 b (.inl (g.2.1 3, n1, .inl (va_cpy f h sp.toNatClampNeg dp.toNatClampNeg k.toNatClampNeg))))) H1 → va_D A (wC g (S.1, S.2.1, S.2.2.1, S.2.2.2.1, S.2.2.2.2.1, S.2.2.2.2.2.1, va_up S.2.2.2.2.2.2 b (.inl (g.2.1 3, n1, .inl (va_cpy f h sp.toNatClampNeg dp.toNatClampNeg k.toNatClampNeg))))) → va_S A H0 H1 locs1 → W p l e R s m args below meth c H1 locs1 cells slots Q (F0 m (pc + 3) ls rest)) : W p l e R s m args below meth c H locs cells slots Q (F0 m pc ls (.int k :: .int dp :: .ref b :: .int sp :: .ref a :: rest)) := by
  obtain ⟨q0, hq⟩ := va_pl_get (X := xC g S) (f := S.2.2.2.2.2.2) ha
  obtain ⟨q1, hq1⟩ := va_pl_get (X := xC g S) (f := S.2.2.2.2.2.2) ha2
  have hset := fun e9 => va_pl_set (e := e9) hD ha2 hq1
  rw [hf] at hq
  rw [hf2] at hq1
  obtain ⟨⟨h1, h2, h3, h4, h5⟩, h6⟩ := ho
  refine va_copyi (ty := .byte) hx hb hml hown hlink hnat hstat hini hK hP hD hS q0 q1 2 2 hq hq1 rfl rfl rfl h1 h2 h3 h4 h5 h6 hframes hlocals hdg (fun H1 locs1 e1 e2 e3 => ?_)
  have e4 : (wC g S).set q1 (b, .inl (g.2.1 3, n1, .inl (va_cpy f h sp.toNatClampNeg dp.toNatClampNeg k.toNatClampNeg))) = wC g (S.1, S.2.1, S.2.2.1, S.2.2.2.1, S.2.2.2.2.1, S.2.2.2.2.2.1, va_up S.2.2.2.2.2.2 b (.inl (g.2.1 3, n1, .inl (va_cpy f h sp.toNatClampNeg dp.toNatClampNeg k.toNatClampNeg)))) := hset _
  rw [e4] at e1 e2
  exact kk H1 locs1 e1 e2 e3
theorem srecv_C {a i : Nat} (hC : SC g A s s.heap) (hS : va_S A s.heap H locs) (he : a = g.2.2 (200 + i)) (hi : i < 53) : ∃ cell : Cell, H[a]? = some cell ∧ cell.vm.isStatics = false ∧ s.vm.findClass "java/lang/String" = some cell.cls := by
  subst he
  exact vk_recv (adK := fun i => g.2.2 (200 + i)) hC.2.1 hi hS
theorem nmB_C (hK : va_K g.1 classes (tysC g) s) : s.vm.findClass "[B" = some (g.2.1 3) := (hK.2 2 _ rfl).2
theorem clone_C {own : String} {a n : Nat} {f : Nat → Int32} (hx : p.tables.exec = Jvm.exec) (hb : c.code = cc) (hml : c.maxLocals = ls.size) (hown : s.vm.findClass own = some m.cls) (hts : ∀ w ∈ w_C, w.before args s = true) (hN : NW g s) (hlink : Cond.methodLink own idx ⟨"[B", "clone", "()Ljava/lang/Object;"⟩ ∈ w_C) (hsame : Cond.sameMethod "[B" "java/lang/Object" "clone" "()Ljava/lang/Object;" ∈ w_C) (hnat : Cond.native ⟨"java/lang/Object", "clone", "()Ljava/lang/Object;"⟩ ∈ w_C) (hinst : Cond.instanceMethod ⟨"java/lang/Object", "clone", "()Ljava/lang/Object;"⟩ ∈ w_C) (hsel : Cond.selects "[B" ⟨"[B", "clone", "()Ljava/lang/Object;"⟩ ⟨"java/lang/Object", "clone", "()Ljava/lang/Object;"⟩ ∈ w_C) (hK : va_K g.1 classes (tysC g) s) (hP : va_P g.1 classes (wC g S) H) (hD : va_D A (wC g S)) (hS : va_S A H0 H locs) (hA : ∀ q : Nat, H0.size ≤ q → A q) (ha : a ∈ S.2.2.2.2.2.1) (hf : S.2.2.2.2.2.2 a = .inl (g.2.1 3, n, .inl f)) (hfit : ∀ i, i < n → fits .byte (.int (f i)) = true) (hframes : 1 ≤ R.frames) (hlocals : (rest.map fun v => v.category).sum + 14 ≤ R.locals) (hcells : cells + 1 ≤ R.cells) (hslots : slots + n ≤ R.slots) (hdg : decode cc pc = .ok (.invokevirtual idx, 3))
    (kk : ∀ (q : Nat) (H1 : Heap), q ∉ S.2.2.2.2.2.1 → va_P g.1 classes (wC g (S.1, S.2.1, S.2.2.1, S.2.2.2.1, S.2.2.2.2.1, S.2.2.2.2.2.1 ++ [q], va_up S.2.2.2.2.2.2 q (.inl (g.2.1 3, n, .inl f)))) H1 → va_D A (wC g (S.1, S.2.1, S.2.2.1, S.2.2.2.1, S.2.2.2.2.1, S.2.2.2.2.2.1 ++ [q], va_up S.2.2.2.2.2.2 q (.inl (g.2.1 3, n, .inl f)))) → va_S A H0 H1 locs → W p l e R s m args below meth c H1 locs (cells + 1) (slots + n) Q (F0 m (pc + 3) ls (.ref q :: rest))) : W p l e R s m args below meth c H locs cells slots Q (F0 m pc ls (.ref a :: rest)) := by
  obtain ⟨q0, hq⟩ := va_pl_get (X := xC g S) (f := S.2.2.2.2.2.2) ha
  rw [hf] at hq
  refine va_clone (ad := "[B") (x := (n, .inl f)) (ty := .byte) hx hb hml hown (hts _ hlink) (hts _ hsame) (hts _ hnat) (hts _ hinst) (hts _ hsel) hN.2.2.2 hK hP hD hS hA q0 2 hq rfl (nmB_C hK) (fun i v hv => ?_) hframes hlocals hcells hslots hdg (fun q H1 hK1 h1 h2 h3 => ?_)
  · have hv : (arrV (g.2.1 3) n (fun j => .int (f j))).slots[i]? = some v := hv
    by_cases hi : i < n
    · rw [arrV_read _ _ hi] at hv
      cases hv
      exact hfit i hi
    · rw [Array.getElem?_eq_none (by rw [arrV_size]; omega)] at hv
      cases hv
  · have hq : q ∉ S.2.2.2.2.2.1 := va_pl_fresh2 (X := xC g S) (f := S.2.2.2.2.2.2) h2
    rw [push_C hq] at h1 h2
    exact kk q H1 hq h1 h2 h3
theorem castB_C {own : String} {a n : Nat} {f : Nat → Int32} (hx : p.tables.exec = Jvm.exec) (hb : c.code = cc) (hown : s.vm.findClass own = some m.cls) (hts : ∀ w ∈ w_C, w.before args s = true) (hlink : Cond.classLink own idx "[B" ∈ w_C) (hK : va_K g.1 classes (tysC g) s) (hP : va_P g.1 classes (wC g S) H) (ha : a ∈ S.2.2.2.2.2.1) (hf : S.2.2.2.2.2.2 a = .inl (g.2.1 3, n, .inl f)) (hdg : decode cc pc = .ok (.checkcast idx, 3))
    (kk : W p l e R s m args below meth c H locs cells slots Q (F0 m (pc + 3) ls (.ref a :: rest))) : W p l e R s m args below meth c H locs cells slots Q (F0 m pc ls (.ref a :: rest)) := by
  obtain ⟨q0, hq⟩ := va_pl_get (X := xC g S) (f := S.2.2.2.2.2.2) ha
  rw [hf] at hq
  exact va_castA hx hb hown (hts _ hlink) hP q0 hq (nmB_C hK) hdg kk
def isStr (g : Gm) (S : StC) (a : Nat) : Prop := (∃ vs : List Value, a ∈ S.2.2.2.2.2.1 ∧ S.2.2.2.2.2.2 a = .inr (3, vs)) ∨ ∃ i : Nat, i < 53 ∧ a = g.2.2 (200 + i)
theorem strv_C {a : Nat} (hK : va_K g.1 classes (tysC g) s) (hC : SC g A s s.heap) (hP : va_P g.1 classes (wC g S) H) (hS : va_S A s.heap H locs) (h : isStr g S a) : ∃ cell : Cell, H[a]? = some cell ∧ cell.vm.isStatics = false ∧ s.vm.findClass R_St = some cell.cls := by
  rcases h with ⟨vs, ha, hf⟩ | ⟨i, hi, he⟩
  · exact precv_C (C := R_St) (F := F_St) (N := 4) hK hP ha hf rfl
  · exact srecv_C hC hS he hi
theorem gsp_C {own : String} {a i : Nat} (hx : p.tables.exec = Jvm.exec) (hb : c.code = cc) (hts : ∀ w ∈ w_C, w.before args s = true) (hC : SC g A s s.heap) (hS : va_S A s.heap H locs) (hown : s.vm.findClass own = some m.cls) (he : a = g.2.2 (100 + i)) (hi : i < 52) (hlink : Cond.fieldLink own idx "WordSmith$BuiltIn" "spelling" "Ljava/lang/String;" ∈ w_C) (hdg : decode cc pc = .ok (.getfield idx, 3))
    (kk : W p l e R s m args below meth c H locs cells slots Q (F0 m (pc + 3) ls (.ref (g.2.2 (200 + i)) :: rest))) : W p l e R s m args below meth c H locs cells slots Q (F0 m pc ls (.ref a :: rest)) := by
  subst he
  exact va_getX (ad := fun i => g.2.2 (100 + i)) (v := fun i => .ref (g.2.2 (200 + i))) hx hb hC.2.2.1 hi hS hown (hts _ hlink) (fun _ h9 => h9) hdg kk
theorem cA_vV {own C : String} {y : MethodName} {bytes : ByteArray} {a maxL nL n mc1 ms1 : Nat} {rm : Room} {post : StC → Prop} {As st0 : List Value} (hx : p.tables.exec = Jvm.exec) (hb : c.code = cc) (hml : c.maxLocals = nL) (hown : s.vm.findClass own = some m.cls) (hts : ∀ w ∈ w_C, w.before args s = true) (hK : va_K g.1 classes (tysC g) s) (hC : SC g A s s.heap) (hN : NW g s) (hP : va_P g.1 classes (wC g S) H) (hD : va_D A (wC g S)) (hS : va_S A s.heap H locs) (hA : ∀ q : Nat, s.heap.size ≤ q → A q) (hcl : cells + mc1 ≤ R.cells) (hsl : slots + ms1 ≤ R.slots) (hsz : ls.size = nL) (hrc : ∃ cell : Cell, H[a]? = some cell ∧ cell.vm.isStatics = false ∧ s.vm.findClass C = some cell.cls) 
    (cw : CallW R s args own C idx y bytes maxL none (.code y bytes maxL none :: w_C) rm mc1 ms1 n) (hM : Met l y (.code y bytes maxL none :: w_C) rm (va_Pc (.ref a :: As) (PC g H.size S)) (va_Qv post (BC g (AC g H.size S)) (AC g H.size S)) mc1 ms1 (AC g H.size S)) (hst : st0 = As.reverse ++ .ref a :: rest) (hn : As.length = n) (hW : (rest.map fun v => v.category).sum ≤ 8) (hdg : decode cc pc = .ok (.invokevirtual idx, 3))
    (kk : ∀ (S' : StC) (H1 : Heap) (locs1 : List Loc), post S' → va_P g.1 classes (wC g S') H1 → va_D A (wC g S') → va_S A s.heap H1 locs1 → W p l e R s m args below meth c H1 locs1 (cells + mc1) (slots + ms1) Q (F0 m (pc + 3) ls (rest))) : W p l e R s m args below meth c H locs cells slots Q (F0 m pc ls st0) := by
  subst hst
  have hF := free_C (S0 := S) hD hS hA
  refine va_callv (va_runV (rest := rest) ⟨hx, hb, hml, hown, hts⟩ hM cw ⟨PC_blind, hrc, pre_C hK hC hN hP hD hS hA⟩ rfl hn hsz rfl (lv_room hW) hdg ⟨hcl, hsl⟩) hS (fun q _ h => hF q h) hF (fun u t H1 locs1 ht hvm hp hB hz1 hk1 hS1 => ?_)
  obtain ⟨hP1, hK1, hD1⟩ := hB
  rw [ht] at hP1
  exact kk u H1 locs1 hp hP1 (hD1.weaken (fun _ _ _ h => hF _ h)) hS1
theorem cA_vS {own : String} {y : MethodName} {bytes : ByteArray} {maxL nL n mc1 ms1 : Nat} {rm : Room} {post : StC → Prop} {As st0 : List Value} (hx : p.tables.exec = Jvm.exec) (hb : c.code = cc) (hml : c.maxLocals = nL) (hown : s.vm.findClass own = some m.cls) (hts : ∀ w ∈ w_C, w.before args s = true) (hK : va_K g.1 classes (tysC g) s) (hC : SC g A s s.heap) (hN : NW g s) (hP : va_P g.1 classes (wC g S) H) (hD : va_D A (wC g S)) (hS : va_S A s.heap H locs) (hA : ∀ q : Nat, s.heap.size ≤ q → A q) (hcl : cells + mc1 ≤ R.cells) (hsl : slots + ms1 ≤ R.slots) (hsz : ls.size = nL) 
    (cw : CallB R s args own idx y bytes maxL none (.code y bytes maxL none :: w_C) rm mc1 ms1 n ∧ (Cond.static y).before args s = true) (hM : Met l y (.code y bytes maxL none :: w_C) rm (va_Pc As (PC g H.size S)) (va_Qv post (BC g (AC g H.size S)) (AC g H.size S)) mc1 ms1 (AC g H.size S)) (hst : st0 = As.reverse ++ rest) (hn : As.length = n) (hW : (rest.map fun v => v.category).sum ≤ 8) (hdg : decode cc pc = .ok (.invokestatic idx, 3))
    (kk : ∀ (S' : StC) (H1 : Heap) (locs1 : List Loc), post S' → va_P g.1 classes (wC g S') H1 → va_D A (wC g S') → va_S A s.heap H1 locs1 → W p l e R s m args below meth c H1 locs1 (cells + mc1) (slots + ms1) Q (F0 m (pc + 3) ls (rest))) : W p l e R s m args below meth c H locs cells slots Q (F0 m pc ls st0) := by
  subst hst
  have hF := free_C (S0 := S) hD hS hA
  refine va_callv (va_runS (rest := rest) ⟨hx, hb, hml, hown, hts⟩ hM cw ⟨PC_blind, pre_C hK hC hN hP hD hS hA⟩ rfl hn hsz rfl (lv_room hW) hdg ⟨hcl, hsl⟩) hS (fun q _ h => hF q h) hF (fun u t H1 locs1 ht hvm hp hB hz1 hk1 hS1 => ?_)
  obtain ⟨hP1, hK1, hD1⟩ := hB
  rw [ht] at hP1
  exact kk u H1 locs1 hp hP1 (hD1.weaken (fun _ _ _ h => hF _ h)) hS1
theorem cA_vU {own C owner : String} {y x : MethodName} {bytes : ByteArray} {a maxL nL n mc1 ms1 : Nat} {rm : Room} {post : StC → Prop} {As st0 : List Value} (hx : p.tables.exec = Jvm.exec) (hb : c.code = cc) (hml : c.maxLocals = nL) (hown : s.vm.findClass own = some m.cls) (hts : ∀ w ∈ w_C, w.before args s = true) (hK : va_K g.1 classes (tysC g) s) (hC : SC g A s s.heap) (hN : NW g s) (hP : va_P g.1 classes (wC g S) H) (hD : va_D A (wC g S)) (hS : va_S A s.heap H locs) (hA : ∀ q : Nat, s.heap.size ≤ q → A q) (hcl : cells + mc1 ≤ R.cells) (hsl : slots + ms1 ≤ R.slots) (hsz : ls.size = nL) (hrc : ∃ cell : Cell, H[a]? = some cell ∧ cell.vm.isStatics = false ∧ s.vm.findClass C = some cell.cls) 
    (cw : va_CU R s args own C owner idx x y bytes maxL none (.code y bytes maxL none :: w_C) rm mc1 ms1 n) (hM : Met l y (.code y bytes maxL none :: w_C) rm (va_Pc (.ref a :: As) (PC g H.size S)) (va_Qv post (BC g (AC g H.size S)) (AC g H.size S)) mc1 ms1 (AC g H.size S)) (hst : st0 = As.reverse ++ .ref a :: rest) (hn : As.length = n) (hW : (rest.map fun v => v.category).sum ≤ 8) (hdg : decode cc pc = .ok (.invokevirtual idx, 3))
    (kk : ∀ (S' : StC) (H1 : Heap) (locs1 : List Loc), post S' → va_P g.1 classes (wC g S') H1 → va_D A (wC g S') → va_S A s.heap H1 locs1 → W p l e R s m args below meth c H1 locs1 (cells + mc1) (slots + ms1) Q (F0 m (pc + 3) ls (rest))) : W p l e R s m args below meth c H locs cells slots Q (F0 m pc ls st0) := by
  subst hst
  have hF := free_C (S0 := S) hD hS hA
  refine va_callv (va_runU (rest := rest) ⟨hx, hb, hml, hown, hts⟩ hM cw ⟨PC_blind, hrc, pre_C hK hC hN hP hD hS hA⟩ rfl hn hsz rfl (lv_room hW) hdg ⟨hcl, hsl⟩) hS (fun q _ h => hF q h) hF (fun u t H1 locs1 ht hvm hp hB hz1 hk1 hS1 => ?_)
  obtain ⟨hP1, hK1, hD1⟩ := hB
  rw [ht] at hP1
  exact kk u H1 locs1 hp hP1 (hD1.weaken (fun _ _ _ h => hF _ h)) hS1
theorem cA_vX {own C : String} {y : MethodName} {bytes : ByteArray} {a cC maxL nL n mc1 ms1 : Nat} {rm : Room} {post : StC → Prop} {As st0 : List Value} (hx : p.tables.exec = Jvm.exec) (hb : c.code = cc) (hml : c.maxLocals = nL) (hown : s.vm.findClass own = some m.cls) (hts : ∀ w ∈ w_C, w.before args s = true) (hK : va_K g.1 classes (tysC g) s) (hC : SC g A s s.heap) (hN : NW g s) (hP : va_P g.1 classes (wC g S) H) (hD : va_D A (wC g S)) (hS : va_S A s.heap H locs) (hA : ∀ q : Nat, s.heap.size ≤ q → A q) (hcl : cells + mc1 ≤ R.cells) (hsl : slots + ms1 ≤ R.slots) (hsz : ls.size = nL) (hat : ClassAt s C cC) (hrc : ∃ cell : Cell, H[a]? = some cell ∧ cell.vm.isStatics = false ∧ s.vm.findClass C = some cell.cls) 
    (cw : va_CS R s args own idx y bytes maxL none (.code y bytes maxL none :: w_C) rm mc1 ms1 n) (hM : Met l y (.code y bytes maxL none :: w_C) rm (va_Pc (.ref a :: As) (PC g H.size S)) (va_Qv post (BC g (AC g H.size S)) (AC g H.size S)) mc1 ms1 (AC g H.size S)) (hst : st0 = As.reverse ++ .ref a :: rest) (hn : As.length = n) (hW : (rest.map fun v => v.category).sum ≤ 8) (hdg : decode cc pc = .ok (.invokespecial idx, 3))
    (kk : ∀ (S' : StC) (H1 : Heap) (locs1 : List Loc), post S' → va_P g.1 classes (wC g S') H1 → va_D A (wC g S') → va_S A s.heap H1 locs1 → W p l e R s m args below meth c H1 locs1 (cells + mc1) (slots + ms1) Q (F0 m (pc + 3) ls (rest))) : W p l e R s m args below meth c H locs cells slots Q (F0 m pc ls st0) := by
  subst hst
  have hF := free_C (S0 := S) hD hS hA
  refine va_callv (va_runSU hat (rest := rest) ⟨hx, hb, hml, hown, hts⟩ hM cw ⟨PC_blind, hrc, pre_C hK hC hN hP hD hS hA⟩ rfl hn hsz rfl (lv_room hW) hdg ⟨hcl, hsl⟩) hS (fun q _ h => hF q h) hF (fun u t H1 locs1 ht hvm hp hB hz1 hk1 hS1 => ?_)
  obtain ⟨hP1, hK1, hD1⟩ := hB
  rw [ht] at hP1
  exact kk u H1 locs1 hp hP1 (hD1.weaken (fun _ _ _ h => hF _ h)) hS1
theorem cA_vI {own : String} {y : MethodName} {bytes : ByteArray} {a maxL nL n mc1 ms1 : Nat} {rm : Room} {post : StC → Prop} {As st0 : List Value} (hx : p.tables.exec = Jvm.exec) (hb : c.code = cc) (hml : c.maxLocals = nL) (hown : s.vm.findClass own = some m.cls) (hts : ∀ w ∈ w_C, w.before args s = true) (hK : va_K g.1 classes (tysC g) s) (hC : SC g A s s.heap) (hN : NW g s) (hP : va_P g.1 classes (wC g S) H) (hD : va_D A (wC g S)) (hS : va_S A s.heap H locs) (hA : ∀ q : Nat, s.heap.size ≤ q → A q) (hcl : cells + mc1 ≤ R.cells) (hsl : slots + ms1 ≤ R.slots) (hsz : ls.size = nL) 
    (cw : CallB R s args own idx y bytes maxL none (.code y bytes maxL none :: w_C) rm mc1 ms1 n ∧ y.name = "<init>" ∧ (Cond.instanceMethod y).before args s = true) (hM : Met l y (.code y bytes maxL none :: w_C) rm (va_Pc (.ref a :: As) (PC g H.size S)) (va_Qv post (BC g (AC g H.size S)) (AC g H.size S)) mc1 ms1 (AC g H.size S)) (hst : st0 = As.reverse ++ .ref a :: rest) (hn : As.length = n) (hW : (rest.map fun v => v.category).sum ≤ 8) (hdg : decode cc pc = .ok (.invokespecial idx, 3))
    (kk : ∀ (S' : StC) (H1 : Heap) (locs1 : List Loc), post S' → va_P g.1 classes (wC g S') H1 → va_D A (wC g S') → va_S A s.heap H1 locs1 → W p l e R s m args below meth c H1 locs1 (cells + mc1) (slots + ms1) Q (F0 m (pc + 3) ls (rest))) : W p l e R s m args below meth c H locs cells slots Q (F0 m pc ls st0) := by
  subst hst
  have hF := free_C (S0 := S) hD hS hA
  refine va_callv (va_runI (rest := rest) ⟨hx, hb, hml, hown, hts⟩ hM cw ⟨PC_blind, pre_C hK hC hN hP hD hS hA⟩ rfl hn hsz rfl (lv_room hW) hdg ⟨hcl, hsl⟩) hS (fun q _ h => hF q h) hF (fun u t H1 locs1 ht hvm hp hB hz1 hk1 hS1 => ?_)
  obtain ⟨hP1, hK1, hD1⟩ := hB
  rw [ht] at hP1
  exact kk u H1 locs1 hp hP1 (hD1.weaken (fun _ _ _ h => hF _ h)) hS1
theorem cA_iV {own C : String} {y : MethodName} {bytes : ByteArray} {a maxL nL n mc1 ms1 : Nat} {rm : Room} {ret : Option FieldType} {post : Int32 → StC → Prop} {As st0 : List Value} (hx : p.tables.exec = Jvm.exec) (hb : c.code = cc) (hml : c.maxLocals = nL) (hown : s.vm.findClass own = some m.cls) (hts : ∀ w ∈ w_C, w.before args s = true) (hK : va_K g.1 classes (tysC g) s) (hC : SC g A s s.heap) (hN : NW g s) (hP : va_P g.1 classes (wC g S) H) (hD : va_D A (wC g S)) (hS : va_S A s.heap H locs) (hA : ∀ q : Nat, s.heap.size ≤ q → A q) (hcl : cells + mc1 ≤ R.cells) (hsl : slots + ms1 ≤ R.slots) (hsz : ls.size = nL) (hrc : ∃ cell : Cell, H[a]? = some cell ∧ cell.vm.isStatics = false ∧ s.vm.findClass C = some cell.cls) 
    (cw : CallW R s args own C idx y bytes maxL ret (.code y bytes maxL ret :: w_C) rm mc1 ms1 n) (hM : Met l y (.code y bytes maxL ret :: w_C) rm (va_Pc (.ref a :: As) (PC g H.size S)) (va_Qi post (BC g (AC g H.size S)) (AC g H.size S)) mc1 ms1 (AC g H.size S)) (hst : st0 = As.reverse ++ .ref a :: rest) (hn : As.length = n) (hW : (rest.map fun v => v.category).sum ≤ 8) (hdg : decode cc pc = .ok (.invokevirtual idx, 3))
    (kk : ∀ (r : Int32) (S' : StC) (H1 : Heap) (locs1 : List Loc), post r S' → va_P g.1 classes (wC g S') H1 → va_D A (wC g S') → va_S A s.heap H1 locs1 → W p l e R s m args below meth c H1 locs1 (cells + mc1) (slots + ms1) Q (F0 m (pc + 3) ls (.int r :: rest))) : W p l e R s m args below meth c H locs cells slots Q (F0 m pc ls st0) := by
  subst hst
  have hF := free_C (S0 := S) hD hS hA
  refine va_calli (va_runV (rest := rest) ⟨hx, hb, hml, hown, hts⟩ hM cw ⟨PC_blind, hrc, pre_C hK hC hN hP hD hS hA⟩ rfl hn hsz rfl (lv_room hW) hdg ⟨hcl, hsl⟩) hS (fun q _ h => hF q h) hF (fun r u t H1 locs1 ht hvm hp hB hz1 hk1 hS1 => ?_)
  obtain ⟨hP1, hK1, hD1⟩ := hB
  rw [ht] at hP1
  exact kk r u H1 locs1 hp hP1 (hD1.weaken (fun _ _ _ h => hF _ h)) hS1
theorem cA_iS {own : String} {y : MethodName} {bytes : ByteArray} {maxL nL n mc1 ms1 : Nat} {rm : Room} {ret : Option FieldType} {post : Int32 → StC → Prop} {As st0 : List Value} (hx : p.tables.exec = Jvm.exec) (hb : c.code = cc) (hml : c.maxLocals = nL) (hown : s.vm.findClass own = some m.cls) (hts : ∀ w ∈ w_C, w.before args s = true) (hK : va_K g.1 classes (tysC g) s) (hC : SC g A s s.heap) (hN : NW g s) (hP : va_P g.1 classes (wC g S) H) (hD : va_D A (wC g S)) (hS : va_S A s.heap H locs) (hA : ∀ q : Nat, s.heap.size ≤ q → A q) (hcl : cells + mc1 ≤ R.cells) (hsl : slots + ms1 ≤ R.slots) (hsz : ls.size = nL) 
    (cw : CallB R s args own idx y bytes maxL ret (.code y bytes maxL ret :: w_C) rm mc1 ms1 n ∧ (Cond.static y).before args s = true) (hM : Met l y (.code y bytes maxL ret :: w_C) rm (va_Pc As (PC g H.size S)) (va_Qi post (BC g (AC g H.size S)) (AC g H.size S)) mc1 ms1 (AC g H.size S)) (hst : st0 = As.reverse ++ rest) (hn : As.length = n) (hW : (rest.map fun v => v.category).sum ≤ 8) (hdg : decode cc pc = .ok (.invokestatic idx, 3))
    (kk : ∀ (r : Int32) (S' : StC) (H1 : Heap) (locs1 : List Loc), post r S' → va_P g.1 classes (wC g S') H1 → va_D A (wC g S') → va_S A s.heap H1 locs1 → W p l e R s m args below meth c H1 locs1 (cells + mc1) (slots + ms1) Q (F0 m (pc + 3) ls (.int r :: rest))) : W p l e R s m args below meth c H locs cells slots Q (F0 m pc ls st0) := by
  subst hst
  have hF := free_C (S0 := S) hD hS hA
  refine va_calli (va_runS (rest := rest) ⟨hx, hb, hml, hown, hts⟩ hM cw ⟨PC_blind, pre_C hK hC hN hP hD hS hA⟩ rfl hn hsz rfl (lv_room hW) hdg ⟨hcl, hsl⟩) hS (fun q _ h => hF q h) hF (fun r u t H1 locs1 ht hvm hp hB hz1 hk1 hS1 => ?_)
  obtain ⟨hP1, hK1, hD1⟩ := hB
  rw [ht] at hP1
  exact kk r u H1 locs1 hp hP1 (hD1.weaken (fun _ _ _ h => hF _ h)) hS1
theorem cA_iU {own C owner : String} {y x : MethodName} {bytes : ByteArray} {a maxL nL n mc1 ms1 : Nat} {rm : Room} {ret : Option FieldType} {post : Int32 → StC → Prop} {As st0 : List Value} (hx : p.tables.exec = Jvm.exec) (hb : c.code = cc) (hml : c.maxLocals = nL) (hown : s.vm.findClass own = some m.cls) (hts : ∀ w ∈ w_C, w.before args s = true) (hK : va_K g.1 classes (tysC g) s) (hC : SC g A s s.heap) (hN : NW g s) (hP : va_P g.1 classes (wC g S) H) (hD : va_D A (wC g S)) (hS : va_S A s.heap H locs) (hA : ∀ q : Nat, s.heap.size ≤ q → A q) (hcl : cells + mc1 ≤ R.cells) (hsl : slots + ms1 ≤ R.slots) (hsz : ls.size = nL) (hrc : ∃ cell : Cell, H[a]? = some cell ∧ cell.vm.isStatics = false ∧ s.vm.findClass C = some cell.cls) 
    (cw : va_CU R s args own C owner idx x y bytes maxL ret (.code y bytes maxL ret :: w_C) rm mc1 ms1 n) (hM : Met l y (.code y bytes maxL ret :: w_C) rm (va_Pc (.ref a :: As) (PC g H.size S)) (va_Qi post (BC g (AC g H.size S)) (AC g H.size S)) mc1 ms1 (AC g H.size S)) (hst : st0 = As.reverse ++ .ref a :: rest) (hn : As.length = n) (hW : (rest.map fun v => v.category).sum ≤ 8) (hdg : decode cc pc = .ok (.invokevirtual idx, 3))
    (kk : ∀ (r : Int32) (S' : StC) (H1 : Heap) (locs1 : List Loc), post r S' → va_P g.1 classes (wC g S') H1 → va_D A (wC g S') → va_S A s.heap H1 locs1 → W p l e R s m args below meth c H1 locs1 (cells + mc1) (slots + ms1) Q (F0 m (pc + 3) ls (.int r :: rest))) : W p l e R s m args below meth c H locs cells slots Q (F0 m pc ls st0) := by
  subst hst
  have hF := free_C (S0 := S) hD hS hA
  refine va_calli (va_runU (rest := rest) ⟨hx, hb, hml, hown, hts⟩ hM cw ⟨PC_blind, hrc, pre_C hK hC hN hP hD hS hA⟩ rfl hn hsz rfl (lv_room hW) hdg ⟨hcl, hsl⟩) hS (fun q _ h => hF q h) hF (fun r u t H1 locs1 ht hvm hp hB hz1 hk1 hS1 => ?_)
  obtain ⟨hP1, hK1, hD1⟩ := hB
  rw [ht] at hP1
  exact kk r u H1 locs1 hp hP1 (hD1.weaken (fun _ _ _ h => hF _ h)) hS1
theorem cA_iX {own C : String} {y : MethodName} {bytes : ByteArray} {a cC maxL nL n mc1 ms1 : Nat} {rm : Room} {ret : Option FieldType} {post : Int32 → StC → Prop} {As st0 : List Value} (hx : p.tables.exec = Jvm.exec) (hb : c.code = cc) (hml : c.maxLocals = nL) (hown : s.vm.findClass own = some m.cls) (hts : ∀ w ∈ w_C, w.before args s = true) (hK : va_K g.1 classes (tysC g) s) (hC : SC g A s s.heap) (hN : NW g s) (hP : va_P g.1 classes (wC g S) H) (hD : va_D A (wC g S)) (hS : va_S A s.heap H locs) (hA : ∀ q : Nat, s.heap.size ≤ q → A q) (hcl : cells + mc1 ≤ R.cells) (hsl : slots + ms1 ≤ R.slots) (hsz : ls.size = nL) (hat : ClassAt s C cC) (hrc : ∃ cell : Cell, H[a]? = some cell ∧ cell.vm.isStatics = false ∧ s.vm.findClass C = some cell.cls) 
    (cw : va_CS R s args own idx y bytes maxL ret (.code y bytes maxL ret :: w_C) rm mc1 ms1 n) (hM : Met l y (.code y bytes maxL ret :: w_C) rm (va_Pc (.ref a :: As) (PC g H.size S)) (va_Qi post (BC g (AC g H.size S)) (AC g H.size S)) mc1 ms1 (AC g H.size S)) (hst : st0 = As.reverse ++ .ref a :: rest) (hn : As.length = n) (hW : (rest.map fun v => v.category).sum ≤ 8) (hdg : decode cc pc = .ok (.invokespecial idx, 3))
    (kk : ∀ (r : Int32) (S' : StC) (H1 : Heap) (locs1 : List Loc), post r S' → va_P g.1 classes (wC g S') H1 → va_D A (wC g S') → va_S A s.heap H1 locs1 → W p l e R s m args below meth c H1 locs1 (cells + mc1) (slots + ms1) Q (F0 m (pc + 3) ls (.int r :: rest))) : W p l e R s m args below meth c H locs cells slots Q (F0 m pc ls st0) := by
  subst hst
  have hF := free_C (S0 := S) hD hS hA
  refine va_calli (va_runSU hat (rest := rest) ⟨hx, hb, hml, hown, hts⟩ hM cw ⟨PC_blind, hrc, pre_C hK hC hN hP hD hS hA⟩ rfl hn hsz rfl (lv_room hW) hdg ⟨hcl, hsl⟩) hS (fun q _ h => hF q h) hF (fun r u t H1 locs1 ht hvm hp hB hz1 hk1 hS1 => ?_)
  obtain ⟨hP1, hK1, hD1⟩ := hB
  rw [ht] at hP1
  exact kk r u H1 locs1 hp hP1 (hD1.weaken (fun _ _ _ h => hF _ h)) hS1
theorem cA_qV {own C : String} {y : MethodName} {bytes : ByteArray} {a maxL nL n mc1 ms1 : Nat} {rm : Room} {ret : Option FieldType} {post : Option Nat → StC → Prop} {As st0 : List Value} (hx : p.tables.exec = Jvm.exec) (hb : c.code = cc) (hml : c.maxLocals = nL) (hown : s.vm.findClass own = some m.cls) (hts : ∀ w ∈ w_C, w.before args s = true) (hK : va_K g.1 classes (tysC g) s) (hC : SC g A s s.heap) (hN : NW g s) (hP : va_P g.1 classes (wC g S) H) (hD : va_D A (wC g S)) (hS : va_S A s.heap H locs) (hA : ∀ q : Nat, s.heap.size ≤ q → A q) (hcl : cells + mc1 ≤ R.cells) (hsl : slots + ms1 ≤ R.slots) (hsz : ls.size = nL) (hrc : ∃ cell : Cell, H[a]? = some cell ∧ cell.vm.isStatics = false ∧ s.vm.findClass C = some cell.cls) 
    (cw : CallW R s args own C idx y bytes maxL ret (.code y bytes maxL ret :: w_C) rm mc1 ms1 n) (hM : Met l y (.code y bytes maxL ret :: w_C) rm (va_Pc (.ref a :: As) (PC g H.size S)) (va_Qq post (BC g (AC g H.size S)) (AC g H.size S)) mc1 ms1 (AC g H.size S)) (hst : st0 = As.reverse ++ .ref a :: rest) (hn : As.length = n) (hW : (rest.map fun v => v.category).sum ≤ 8) (hdg : decode cc pc = .ok (.invokevirtual idx, 3))
    (kk : ∀ (r : Option Nat) (S' : StC) (H1 : Heap) (locs1 : List Loc), post r S' → va_P g.1 classes (wC g S') H1 → va_D A (wC g S') → va_S A s.heap H1 locs1 → W p l e R s m args below meth c H1 locs1 (cells + mc1) (slots + ms1) Q (F0 m (pc + 3) ls (va_rf r :: rest))) : W p l e R s m args below meth c H locs cells slots Q (F0 m pc ls st0) := by
  subst hst
  have hF := free_C (S0 := S) hD hS hA
  refine va_callq (va_runV (rest := rest) ⟨hx, hb, hml, hown, hts⟩ hM cw ⟨PC_blind, hrc, pre_C hK hC hN hP hD hS hA⟩ rfl hn hsz rfl (lv_room hW) hdg ⟨hcl, hsl⟩) hS (fun q _ h => hF q h) hF (fun r u t H1 locs1 ht hvm hp hB hz1 hk1 hS1 => ?_)
  obtain ⟨hP1, hK1, hD1⟩ := hB
  rw [ht] at hP1
  exact kk r u H1 locs1 hp hP1 (hD1.weaken (fun _ _ _ h => hF _ h)) hS1
theorem cA_qS {own : String} {y : MethodName} {bytes : ByteArray} {maxL nL n mc1 ms1 : Nat} {rm : Room} {ret : Option FieldType} {post : Option Nat → StC → Prop} {As st0 : List Value} (hx : p.tables.exec = Jvm.exec) (hb : c.code = cc) (hml : c.maxLocals = nL) (hown : s.vm.findClass own = some m.cls) (hts : ∀ w ∈ w_C, w.before args s = true) (hK : va_K g.1 classes (tysC g) s) (hC : SC g A s s.heap) (hN : NW g s) (hP : va_P g.1 classes (wC g S) H) (hD : va_D A (wC g S)) (hS : va_S A s.heap H locs) (hA : ∀ q : Nat, s.heap.size ≤ q → A q) (hcl : cells + mc1 ≤ R.cells) (hsl : slots + ms1 ≤ R.slots) (hsz : ls.size = nL) 
    (cw : CallB R s args own idx y bytes maxL ret (.code y bytes maxL ret :: w_C) rm mc1 ms1 n ∧ (Cond.static y).before args s = true) (hM : Met l y (.code y bytes maxL ret :: w_C) rm (va_Pc As (PC g H.size S)) (va_Qq post (BC g (AC g H.size S)) (AC g H.size S)) mc1 ms1 (AC g H.size S)) (hst : st0 = As.reverse ++ rest) (hn : As.length = n) (hW : (rest.map fun v => v.category).sum ≤ 8) (hdg : decode cc pc = .ok (.invokestatic idx, 3))
    (kk : ∀ (r : Option Nat) (S' : StC) (H1 : Heap) (locs1 : List Loc), post r S' → va_P g.1 classes (wC g S') H1 → va_D A (wC g S') → va_S A s.heap H1 locs1 → W p l e R s m args below meth c H1 locs1 (cells + mc1) (slots + ms1) Q (F0 m (pc + 3) ls (va_rf r :: rest))) : W p l e R s m args below meth c H locs cells slots Q (F0 m pc ls st0) := by
  subst hst
  have hF := free_C (S0 := S) hD hS hA
  refine va_callq (va_runS (rest := rest) ⟨hx, hb, hml, hown, hts⟩ hM cw ⟨PC_blind, pre_C hK hC hN hP hD hS hA⟩ rfl hn hsz rfl (lv_room hW) hdg ⟨hcl, hsl⟩) hS (fun q _ h => hF q h) hF (fun r u t H1 locs1 ht hvm hp hB hz1 hk1 hS1 => ?_)
  obtain ⟨hP1, hK1, hD1⟩ := hB
  rw [ht] at hP1
  exact kk r u H1 locs1 hp hP1 (hD1.weaken (fun _ _ _ h => hF _ h)) hS1
theorem cA_qU {own C owner : String} {y x : MethodName} {bytes : ByteArray} {a maxL nL n mc1 ms1 : Nat} {rm : Room} {ret : Option FieldType} {post : Option Nat → StC → Prop} {As st0 : List Value} (hx : p.tables.exec = Jvm.exec) (hb : c.code = cc) (hml : c.maxLocals = nL) (hown : s.vm.findClass own = some m.cls) (hts : ∀ w ∈ w_C, w.before args s = true) (hK : va_K g.1 classes (tysC g) s) (hC : SC g A s s.heap) (hN : NW g s) (hP : va_P g.1 classes (wC g S) H) (hD : va_D A (wC g S)) (hS : va_S A s.heap H locs) (hA : ∀ q : Nat, s.heap.size ≤ q → A q) (hcl : cells + mc1 ≤ R.cells) (hsl : slots + ms1 ≤ R.slots) (hsz : ls.size = nL) (hrc : ∃ cell : Cell, H[a]? = some cell ∧ cell.vm.isStatics = false ∧ s.vm.findClass C = some cell.cls) 
    (cw : va_CU R s args own C owner idx x y bytes maxL ret (.code y bytes maxL ret :: w_C) rm mc1 ms1 n) (hM : Met l y (.code y bytes maxL ret :: w_C) rm (va_Pc (.ref a :: As) (PC g H.size S)) (va_Qq post (BC g (AC g H.size S)) (AC g H.size S)) mc1 ms1 (AC g H.size S)) (hst : st0 = As.reverse ++ .ref a :: rest) (hn : As.length = n) (hW : (rest.map fun v => v.category).sum ≤ 8) (hdg : decode cc pc = .ok (.invokevirtual idx, 3))
    (kk : ∀ (r : Option Nat) (S' : StC) (H1 : Heap) (locs1 : List Loc), post r S' → va_P g.1 classes (wC g S') H1 → va_D A (wC g S') → va_S A s.heap H1 locs1 → W p l e R s m args below meth c H1 locs1 (cells + mc1) (slots + ms1) Q (F0 m (pc + 3) ls (va_rf r :: rest))) : W p l e R s m args below meth c H locs cells slots Q (F0 m pc ls st0) := by
  subst hst
  have hF := free_C (S0 := S) hD hS hA
  refine va_callq (va_runU (rest := rest) ⟨hx, hb, hml, hown, hts⟩ hM cw ⟨PC_blind, hrc, pre_C hK hC hN hP hD hS hA⟩ rfl hn hsz rfl (lv_room hW) hdg ⟨hcl, hsl⟩) hS (fun q _ h => hF q h) hF (fun r u t H1 locs1 ht hvm hp hB hz1 hk1 hS1 => ?_)
  obtain ⟨hP1, hK1, hD1⟩ := hB
  rw [ht] at hP1
  exact kk r u H1 locs1 hp hP1 (hD1.weaken (fun _ _ _ h => hF _ h)) hS1
theorem cA_qX {own C : String} {y : MethodName} {bytes : ByteArray} {a cC maxL nL n mc1 ms1 : Nat} {rm : Room} {ret : Option FieldType} {post : Option Nat → StC → Prop} {As st0 : List Value} (hx : p.tables.exec = Jvm.exec) (hb : c.code = cc) (hml : c.maxLocals = nL) (hown : s.vm.findClass own = some m.cls) (hts : ∀ w ∈ w_C, w.before args s = true) (hK : va_K g.1 classes (tysC g) s) (hC : SC g A s s.heap) (hN : NW g s) (hP : va_P g.1 classes (wC g S) H) (hD : va_D A (wC g S)) (hS : va_S A s.heap H locs) (hA : ∀ q : Nat, s.heap.size ≤ q → A q) (hcl : cells + mc1 ≤ R.cells) (hsl : slots + ms1 ≤ R.slots) (hsz : ls.size = nL) (hat : ClassAt s C cC) (hrc : ∃ cell : Cell, H[a]? = some cell ∧ cell.vm.isStatics = false ∧ s.vm.findClass C = some cell.cls) 
    (cw : va_CS R s args own idx y bytes maxL ret (.code y bytes maxL ret :: w_C) rm mc1 ms1 n) (hM : Met l y (.code y bytes maxL ret :: w_C) rm (va_Pc (.ref a :: As) (PC g H.size S)) (va_Qq post (BC g (AC g H.size S)) (AC g H.size S)) mc1 ms1 (AC g H.size S)) (hst : st0 = As.reverse ++ .ref a :: rest) (hn : As.length = n) (hW : (rest.map fun v => v.category).sum ≤ 8) (hdg : decode cc pc = .ok (.invokespecial idx, 3))
    (kk : ∀ (r : Option Nat) (S' : StC) (H1 : Heap) (locs1 : List Loc), post r S' → va_P g.1 classes (wC g S') H1 → va_D A (wC g S') → va_S A s.heap H1 locs1 → W p l e R s m args below meth c H1 locs1 (cells + mc1) (slots + ms1) Q (F0 m (pc + 3) ls (va_rf r :: rest))) : W p l e R s m args below meth c H locs cells slots Q (F0 m pc ls st0) := by
  subst hst
  have hF := free_C (S0 := S) hD hS hA
  refine va_callq (va_runSU hat (rest := rest) ⟨hx, hb, hml, hown, hts⟩ hM cw ⟨PC_blind, hrc, pre_C hK hC hN hP hD hS hA⟩ rfl hn hsz rfl (lv_room hW) hdg ⟨hcl, hsl⟩) hS (fun q _ h => hF q h) hF (fun r u t H1 locs1 ht hvm hp hB hz1 hk1 hS1 => ?_)
  obtain ⟨hP1, hK1, hD1⟩ := hB
  rw [ht] at hP1
  exact kk r u H1 locs1 hp hP1 (hD1.weaken (fun _ _ _ h => hF _ h)) hS1
end
theorem good_U2 {own C owner : String} {idx n : Nat} {x y : MethodName} {b : ByteArray} {r : Option FieldType} (h1 : Cond.methodLink own idx x ∈ w_C) (h2 : Cond.sameMethod x.cls owner x.name x.desc ∈ w_C) (h6 : Cond.instanceMethod ⟨owner, x.name, x.desc⟩ ∈ w_C) (h3 : Cond.selects C x y ∈ w_C) (h4 : Cond.instanceMethod y ∈ w_C) (h5 : Cond.initialized y.cls ∈ w_C) (hc : Cond.code y b n r ∈ w_C) : GoodIn w_C (va_wsO own idx C owner x y (.code y b n r :: w_C)) := fun w h => (List.mem_append.mp h).elim (fun h => by
    have hw : w ∈ w_C := by
      simp only [List.mem_cons, List.not_mem_nil, or_false] at h
      rcases h with rfl | rfl | rfl | rfl | rfl | rfl
      · exact h1
      · exact h2
      · exact h6
      · exact h3
      · exact h4
      · exact h5
    exact ⟨hw, good_of_word (List.all_eq_true.mp all_C w hw)⟩) (fun h => good_C hc w h)
theorem good_X {own : String} {idx n : Nat} {y : MethodName} {b : ByteArray} {r : Option FieldType} (h1 : Cond.methodLink own idx y ∈ w_C) (h2 : Cond.sameMethod y.cls y.cls y.name y.desc ∈ w_C) (h3 : Cond.superclass own y.cls ∈ w_C) (h4 : Cond.instanceMethod y ∈ w_C) (h5 : Cond.initialized y.cls ∈ w_C) (hc : Cond.code y b n r ∈ w_C) : GoodIn w_C (va_wsSU own idx y (.code y b n r :: w_C)) := fun w h => (List.mem_append.mp h).elim (fun h => by
    have hw : w ∈ w_C := by
      simp only [List.mem_cons, List.not_mem_nil, or_false] at h
      rcases h with rfl | rfl | rfl | rfl | rfl
      · exact h1
      · exact h2
      · exact h3
      · exact h4
      · exact h5
    exact ⟨hw, good_of_word (List.all_eq_true.mp all_C w hw)⟩) (fun h => good_C hc w h)
