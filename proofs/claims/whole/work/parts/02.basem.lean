abbrev StM : Type := (Nat → Int32) × (Nat → Nat → Int32) × (Nat → Int64)
abbrev Gm : Type := va_G × (Nat → ClassId) × (Nat → Nat)
def fM (g : Gm) (S : StM) : List Value := [.ref (g.2.2 1), .int (S.1 1), .int (S.1 2), .int (S.1 3), .int (S.1 4), .ref (g.2.2 6), .int (S.1 6), .ref (g.2.2 8), .int (S.1 8), .ref (g.2.2 10), .int (S.1 10), .int (S.1 11), .ref (g.2.2 13), .int (S.1 13), .int (S.1 14), .ref (g.2.2 16), .ref (g.2.2 17), .ref (g.2.2 18), .ref (g.2.2 19), .ref (g.2.2 20), .int (S.1 20), .int (S.1 21), .int (S.1 22), .ref (g.2.2 24), .ref (g.2.2 25), .int (S.1 25), .ref (g.2.2 27), .ref (g.2.2 28), .ref (g.2.2 29), .ref (g.2.2 30), .ref (g.2.2 31), .ref (g.2.2 32), .ref (g.2.2 33), .ref (g.2.2 34), .int (S.1 34)]
def wM (g : Gm) (S : StM) : va_W := [(g.2.2 0, .inr (0, fM g S)), (g.2.2 1, .inl (g.2.1 0, 120, .inl (S.2.1 0))), (g.2.2 6, .inl (g.2.1 0, 24, .inl (S.2.1 5))), (g.2.2 8, .inl (g.2.1 0, 24, .inl (S.2.1 7))), (g.2.2 10, .inl (g.2.1 0, 96, .inl (S.2.1 9))), (g.2.2 13, .inl (g.2.1 0, 40, .inl (S.2.1 12))), (g.2.2 16, .inl (g.2.1 2, 77, .inr (.inl S.2.2))), (g.2.2 17, .inl (g.2.1 1, 25, .inl (S.2.1 16))), (g.2.2 18, .inl (g.2.1 0, 25, .inl (S.2.1 17))), (g.2.2 19, .inl (g.2.1 0, 1500, .inl (S.2.1 18))), (g.2.2 20, .inl (g.2.1 0, 1500, .inl (S.2.1 19))), (g.2.2 24, .inl (g.2.1 0, 8, .inl (S.2.1 23))), (g.2.2 25, .inl (g.2.1 0, 8, .inl (S.2.1 24))), (g.2.2 27, .inl (g.2.1 0, 16, .inl (S.2.1 26))), (g.2.2 28, .inl (g.2.1 0, 16, .inl (S.2.1 27))), (g.2.2 29, .inl (g.2.1 0, 16, .inl (S.2.1 28))), (g.2.2 30, .inl (g.2.1 0, 64, .inl (S.2.1 29))), (g.2.2 31, .inl (g.2.1 0, 64, .inl (S.2.1 30))), (g.2.2 32, .inl (g.2.1 0, 64, .inl (S.2.1 31))), (g.2.2 33, .inl (g.2.1 0, 2, .inl (S.2.1 32))), (g.2.2 34, .inl (g.2.1 1, 2, .inl (S.2.1 33)))]
def tysM (g : Gm) : List (ClassId × FieldType) := [(g.2.1 0, .int), (g.2.1 1, .boolean), (g.2.1 2, .long)]
def rmM (f n : Nat) : Room := { frames := f, cells := 0, slots := 0, locals := n }
def zM : StM := (fun _ => 0, fun _ _ => 0, fun _ => 0)
def AM (g : Gm) (sz : Nat) : Nat → Prop := va_A (wM g zM) sz
theorem wM_fst (g : Gm) (S S' : StM) : (wM g S).map Prod.fst = (wM g S').map Prod.fst := rfl
theorem wM_ad {g : Gm} {S : StM} (S' : StM) {k q : Nat} {e : va_E} (h : (wM g S)[k]? = some (q, e)) : ∃ e', (wM g S')[k]? = some (q, e') := by
  have h1 : ((wM g S').map Prod.fst)[k]? = some q := by
    rw [wM_fst g S' S, List.getElem?_map, h]
    rfl
  rw [List.getElem?_map] at h1
  cases h2 : (wM g S')[k]? with
  | none => rw [h2] at h1; cases h1
  | some z =>
    rw [h2] at h1
    obtain ⟨a, e'⟩ := z
    cases h1
    exact ⟨e', rfl⟩
theorem AM_of {g : Gm} (S : StM) {sz q : Nat} (h : AM g sz q) : va_A (wM g S) sz q := by
  rcases h with ⟨k, e, hk⟩ | h
  · obtain ⟨e', h2⟩ := wM_ad S hk
    exact Or.inl ⟨k, e', h2⟩
  · exact Or.inr h
theorem AM_in {g : Gm} {S : StM} {sz k : Nat} {q : Nat × va_E} (h : (wM g S)[k]? = some q) : AM g sz q.1 := by
  obtain ⟨a, e⟩ := q
  obtain ⟨e', h2⟩ := wM_ad zM h
  exact Or.inl ⟨k, e', h2⟩
def PM (g : Gm) (sz : Nat) (S : StM) : State → Prop := fun U => U.heap.size = sz ∧ va_P g.1 classes (wM g S) U.heap ∧ va_K g.1 classes (tysM g) U ∧ va_D (fun _ => True) (wM g S)
def BM (g : Gm) (sz : Nat) : StM → State → Prop := fun S t => va_P g.1 classes (wM g S) t.heap ∧ va_K g.1 classes (tysM g) t ∧ va_D (AM g sz) (wM g S)
theorem PM_blind {av : List Value} {g : Gm} {sz : Nat} {S : StM} : FrameBlind (va_Pc av (PM g sz S)) := fun a U g0 mk q => by
  obtain ⟨q0, q1, qP, qK, qD⟩ := q
  exact ⟨q0, q1, qP, va_K.moved (u := U) (U := U.calling g0 mk a) (Vm.Alike.refl U.vm) qK, qD⟩
theorem sA_M_0 (g : Gm) (S : StM) (f : Nat → Int32) : (wM g S).set 1 (g.2.2 1, .inl (g.2.1 0, 120, .inl f)) = wM g (S.1, va_up S.2.1 0 f, S.2.2) := rfl
theorem sI_M_1 (g : Gm) (S : StM) (v : Int32) : (wM g S).set 0 (g.2.2 0, .inr (0, (fM g S).set 1 (.int v))) = wM g (upd S.1 1 v, S.2) := rfl
theorem sI_M_2 (g : Gm) (S : StM) (v : Int32) : (wM g S).set 0 (g.2.2 0, .inr (0, (fM g S).set 2 (.int v))) = wM g (upd S.1 2 v, S.2) := rfl
theorem sI_M_3 (g : Gm) (S : StM) (v : Int32) : (wM g S).set 0 (g.2.2 0, .inr (0, (fM g S).set 3 (.int v))) = wM g (upd S.1 3 v, S.2) := rfl
theorem sI_M_4 (g : Gm) (S : StM) (v : Int32) : (wM g S).set 0 (g.2.2 0, .inr (0, (fM g S).set 4 (.int v))) = wM g (upd S.1 4 v, S.2) := rfl
theorem sA_M_5 (g : Gm) (S : StM) (f : Nat → Int32) : (wM g S).set 2 (g.2.2 6, .inl (g.2.1 0, 24, .inl f)) = wM g (S.1, va_up S.2.1 5 f, S.2.2) := rfl
theorem sI_M_6 (g : Gm) (S : StM) (v : Int32) : (wM g S).set 0 (g.2.2 0, .inr (0, (fM g S).set 6 (.int v))) = wM g (upd S.1 6 v, S.2) := rfl
theorem sA_M_7 (g : Gm) (S : StM) (f : Nat → Int32) : (wM g S).set 3 (g.2.2 8, .inl (g.2.1 0, 24, .inl f)) = wM g (S.1, va_up S.2.1 7 f, S.2.2) := rfl
theorem sI_M_8 (g : Gm) (S : StM) (v : Int32) : (wM g S).set 0 (g.2.2 0, .inr (0, (fM g S).set 8 (.int v))) = wM g (upd S.1 8 v, S.2) := rfl
theorem sA_M_9 (g : Gm) (S : StM) (f : Nat → Int32) : (wM g S).set 4 (g.2.2 10, .inl (g.2.1 0, 96, .inl f)) = wM g (S.1, va_up S.2.1 9 f, S.2.2) := rfl
theorem sI_M_10 (g : Gm) (S : StM) (v : Int32) : (wM g S).set 0 (g.2.2 0, .inr (0, (fM g S).set 10 (.int v))) = wM g (upd S.1 10 v, S.2) := rfl
theorem sI_M_11 (g : Gm) (S : StM) (v : Int32) : (wM g S).set 0 (g.2.2 0, .inr (0, (fM g S).set 11 (.int v))) = wM g (upd S.1 11 v, S.2) := rfl
theorem sA_M_12 (g : Gm) (S : StM) (f : Nat → Int32) : (wM g S).set 5 (g.2.2 13, .inl (g.2.1 0, 40, .inl f)) = wM g (S.1, va_up S.2.1 12 f, S.2.2) := rfl
theorem sI_M_13 (g : Gm) (S : StM) (v : Int32) : (wM g S).set 0 (g.2.2 0, .inr (0, (fM g S).set 13 (.int v))) = wM g (upd S.1 13 v, S.2) := rfl
theorem sI_M_14 (g : Gm) (S : StM) (v : Int32) : (wM g S).set 0 (g.2.2 0, .inr (0, (fM g S).set 14 (.int v))) = wM g (upd S.1 14 v, S.2) := rfl
theorem sA_M_15 (g : Gm) (S : StM) (f : Nat → Int64) : (wM g S).set 6 (g.2.2 16, .inl (g.2.1 2, 77, .inr (.inl f))) = wM g (S.1, S.2.1, f) := rfl
theorem sA_M_16 (g : Gm) (S : StM) (f : Nat → Int32) : (wM g S).set 7 (g.2.2 17, .inl (g.2.1 1, 25, .inl f)) = wM g (S.1, va_up S.2.1 16 f, S.2.2) := rfl
theorem sA_M_17 (g : Gm) (S : StM) (f : Nat → Int32) : (wM g S).set 8 (g.2.2 18, .inl (g.2.1 0, 25, .inl f)) = wM g (S.1, va_up S.2.1 17 f, S.2.2) := rfl
theorem sA_M_18 (g : Gm) (S : StM) (f : Nat → Int32) : (wM g S).set 9 (g.2.2 19, .inl (g.2.1 0, 1500, .inl f)) = wM g (S.1, va_up S.2.1 18 f, S.2.2) := rfl
theorem sA_M_19 (g : Gm) (S : StM) (f : Nat → Int32) : (wM g S).set 10 (g.2.2 20, .inl (g.2.1 0, 1500, .inl f)) = wM g (S.1, va_up S.2.1 19 f, S.2.2) := rfl
theorem sI_M_20 (g : Gm) (S : StM) (v : Int32) : (wM g S).set 0 (g.2.2 0, .inr (0, (fM g S).set 20 (.int v))) = wM g (upd S.1 20 v, S.2) := rfl
theorem sI_M_21 (g : Gm) (S : StM) (v : Int32) : (wM g S).set 0 (g.2.2 0, .inr (0, (fM g S).set 21 (.int v))) = wM g (upd S.1 21 v, S.2) := rfl
theorem sI_M_22 (g : Gm) (S : StM) (v : Int32) : (wM g S).set 0 (g.2.2 0, .inr (0, (fM g S).set 22 (.int v))) = wM g (upd S.1 22 v, S.2) := rfl
theorem sA_M_23 (g : Gm) (S : StM) (f : Nat → Int32) : (wM g S).set 11 (g.2.2 24, .inl (g.2.1 0, 8, .inl f)) = wM g (S.1, va_up S.2.1 23 f, S.2.2) := rfl
theorem sA_M_24 (g : Gm) (S : StM) (f : Nat → Int32) : (wM g S).set 12 (g.2.2 25, .inl (g.2.1 0, 8, .inl f)) = wM g (S.1, va_up S.2.1 24 f, S.2.2) := rfl
theorem sI_M_25 (g : Gm) (S : StM) (v : Int32) : (wM g S).set 0 (g.2.2 0, .inr (0, (fM g S).set 25 (.int v))) = wM g (upd S.1 25 v, S.2) := rfl
theorem sA_M_26 (g : Gm) (S : StM) (f : Nat → Int32) : (wM g S).set 13 (g.2.2 27, .inl (g.2.1 0, 16, .inl f)) = wM g (S.1, va_up S.2.1 26 f, S.2.2) := rfl
theorem sA_M_27 (g : Gm) (S : StM) (f : Nat → Int32) : (wM g S).set 14 (g.2.2 28, .inl (g.2.1 0, 16, .inl f)) = wM g (S.1, va_up S.2.1 27 f, S.2.2) := rfl
theorem sA_M_28 (g : Gm) (S : StM) (f : Nat → Int32) : (wM g S).set 15 (g.2.2 29, .inl (g.2.1 0, 16, .inl f)) = wM g (S.1, va_up S.2.1 28 f, S.2.2) := rfl
theorem sA_M_29 (g : Gm) (S : StM) (f : Nat → Int32) : (wM g S).set 16 (g.2.2 30, .inl (g.2.1 0, 64, .inl f)) = wM g (S.1, va_up S.2.1 29 f, S.2.2) := rfl
theorem sA_M_30 (g : Gm) (S : StM) (f : Nat → Int32) : (wM g S).set 17 (g.2.2 31, .inl (g.2.1 0, 64, .inl f)) = wM g (S.1, va_up S.2.1 30 f, S.2.2) := rfl
theorem sA_M_31 (g : Gm) (S : StM) (f : Nat → Int32) : (wM g S).set 18 (g.2.2 32, .inl (g.2.1 0, 64, .inl f)) = wM g (S.1, va_up S.2.1 31 f, S.2.2) := rfl
theorem sA_M_32 (g : Gm) (S : StM) (f : Nat → Int32) : (wM g S).set 19 (g.2.2 33, .inl (g.2.1 0, 2, .inl f)) = wM g (S.1, va_up S.2.1 32 f, S.2.2) := rfl
theorem sA_M_33 (g : Gm) (S : StM) (f : Nat → Int32) : (wM g S).set 20 (g.2.2 34, .inl (g.2.1 1, 2, .inl f)) = wM g (S.1, va_up S.2.1 33 f, S.2.2) := rfl
theorem sI_M_34 (g : Gm) (S : StM) (v : Int32) : (wM g S).set 0 (g.2.2 0, .inr (0, (fM g S).set 34 (.int v))) = wM g (upd S.1 34 v, S.2) := rfl
set_option maxHeartbeats 4000000 in
theorem ofM_v {l : Launch} {g : Gm} {sz : Nat} {S : StM} {y : MethodName} {cc : ByteArray} {maxL : Nat} {rm : Room} {post : StM → Prop} {av : List Value} (hy : plainName y.cls = true) (hlen : (lg_sl av).length ≤ maxL)
    (body : ∀ (p : Program) (e : Env) (s : State) (m : MethodId) (args : Array Value) (below : List Frame) (meth : Method) (c : Code) (Q : State → Prop) (H : Heap) (locs : List Loc) (ls : Array Slot), p.tables.exec = Jvm.exec → c.code = cc → c.maxLocals = maxL → (∀ w ∈ w_M, w.before args s = true) → s.vm.findClass y.cls = some m.cls → va_K g.1 classes (tysM g) s → (∀ q : Nat, s.heap.size ≤ q → AM g s.heap.size q) →
      (∀ (S' : StM) (H : Heap) (locs : List Loc) (pc : Nat) (ls : Array Slot), post S' → va_P g.1 classes (wM g S') H → va_D (AM g s.heap.size) (wM g S') → va_S (AM g s.heap.size) s.heap H locs → decode cc pc = .ok (.return_, 1) → W p l e rm s m args below meth c H locs 0 0 Q (F0 m pc ls [])) →
      lv_has ls maxL (lv_args 0 av) → va_P g.1 classes (wM g S) H → va_D (AM g s.heap.size) (wM g S) → va_S (AM g s.heap.size) s.heap H locs → W p l e rm s m args below meth c H locs 0 0 Q (F0 m 0 ls [])) :
    Met l y (.code y cc maxL none :: w_M) rm (va_Pc av (PM g sz S)) (va_Qv post (BM g sz) (AM g sz)) 0 0 (AM g sz) := by
  refine Met.ofW (cc := cc) (maxL := maxL) (ret := none) hy rfl ?_
  intro p e s m args below meth c s₁ B hml hv
  obtain ⟨rfl, hsz, hP, hK, hD0⟩ := hv
  subst hsz
  have hts := atoms_spec (ws := .code y cc maxL none :: w_M) B.pre
  have hlk := B.notSynchronized
  have hD : va_D (AM g s.heap.size) (wM g S) := ⟨hD0.1, fun k q hk => AM_in hk⟩
  have hl := lv_entry av (n := maxL) hlen
  rw [lg_entry_eq]
  refine body p e s m _ below meth c _ s.heap [] _ B.exec B.bytes hml (fun w h => hts w (List.mem_cons_of_mem _ h)) (findClass_of_methodNamed B.named) hK (fun q h => Or.inr h) ?_ hl hP hD va_S.rf
  intro S' H locs pc ls hp hP hD hS hd
  exact W.vret B.exec B.bytes B.returns (fun t ht hW => ⟨⟨S', rfl, hp, by rw [ht]; exact hP, va_K.moved hW.alike hK, hD⟩, hS.F ht⟩) hS.2.2 hd
set_option maxHeartbeats 4000000 in
theorem ofM_i {l : Launch} {g : Gm} {sz : Nat} {S : StM} {y : MethodName} {cc : ByteArray} {maxL : Nat} {rm : Room} {post : Int32 → StM → Prop} {av : List Value} (hy : plainName y.cls = true) (hlen : (lg_sl av).length ≤ maxL)
    (body : ∀ (p : Program) (e : Env) (s : State) (m : MethodId) (args : Array Value) (below : List Frame) (meth : Method) (c : Code) (Q : State → Prop) (H : Heap) (locs : List Loc) (ls : Array Slot), p.tables.exec = Jvm.exec → c.code = cc → c.maxLocals = maxL → (∀ w ∈ w_M, w.before args s = true) → s.vm.findClass y.cls = some m.cls → va_K g.1 classes (tysM g) s → (∀ q : Nat, s.heap.size ≤ q → AM g s.heap.size q) →
      (∀ (r : Int32) (S' : StM) (H : Heap) (locs : List Loc) (pc : Nat) (ls : Array Slot), post r S' → va_P g.1 classes (wM g S') H → va_D (AM g s.heap.size) (wM g S') → va_S (AM g s.heap.size) s.heap H locs → decode cc pc = .ok (.ireturn, 1) → W p l e rm s m args below meth c H locs 0 0 Q (F0 m pc ls [.int r])) →
      lv_has ls maxL (lv_args 0 av) → va_P g.1 classes (wM g S) H → va_D (AM g s.heap.size) (wM g S) → va_S (AM g s.heap.size) s.heap H locs → W p l e rm s m args below meth c H locs 0 0 Q (F0 m 0 ls [])) :
    Met l y (.code y cc maxL (some .int) :: w_M) rm (va_Pc av (PM g sz S)) (va_Qi post (BM g sz) (AM g sz)) 0 0 (AM g sz) := by
  refine Met.ofW (cc := cc) (maxL := maxL) (ret := (some .int)) hy rfl ?_
  intro p e s m args below meth c s₁ B hml hv
  obtain ⟨rfl, hsz, hP, hK, hD0⟩ := hv
  subst hsz
  have hts := atoms_spec (ws := .code y cc maxL (some .int) :: w_M) B.pre
  have hlk := B.notSynchronized
  have hD : va_D (AM g s.heap.size) (wM g S) := ⟨hD0.1, fun k q hk => AM_in hk⟩
  have hl := lv_entry av (n := maxL) hlen
  rw [lg_entry_eq]
  refine body p e s m _ below meth c _ s.heap [] _ B.exec B.bytes hml (fun w h => hts w (List.mem_cons_of_mem _ h)) (findClass_of_methodNamed B.named) hK (fun q h => Or.inr h) ?_ hl hP hD va_S.rf
  intro r S' H locs pc ls hp hP hD hS hd
  exact W.iret B.exec B.bytes B.returns (fun t ht hW => ⟨⟨r, S', rfl, hp, by rw [ht]; exact hP, va_K.moved hW.alike hK, hD⟩, hS.F ht⟩) hS.2.2 hd
set_option maxHeartbeats 4000000 in
theorem ofM_z {l : Launch} {g : Gm} {sz : Nat} {S : StM} {y : MethodName} {cc : ByteArray} {maxL : Nat} {rm : Room} {post : Int32 → StM → Prop} {av : List Value} (hy : plainName y.cls = true) (hlen : (lg_sl av).length ≤ maxL)
    (body : ∀ (p : Program) (e : Env) (s : State) (m : MethodId) (args : Array Value) (below : List Frame) (meth : Method) (c : Code) (Q : State → Prop) (H : Heap) (locs : List Loc) (ls : Array Slot), p.tables.exec = Jvm.exec → c.code = cc → c.maxLocals = maxL → (∀ w ∈ w_M, w.before args s = true) → s.vm.findClass y.cls = some m.cls → va_K g.1 classes (tysM g) s → (∀ q : Nat, s.heap.size ≤ q → AM g s.heap.size q) →
      (∀ (r : Int32) (S' : StM) (H : Heap) (locs : List Loc) (pc : Nat) (ls : Array Slot), narrow .boolean (.int r) = .int r → post r S' → va_P g.1 classes (wM g S') H → va_D (AM g s.heap.size) (wM g S') → va_S (AM g s.heap.size) s.heap H locs → decode cc pc = .ok (.ireturn, 1) → W p l e rm s m args below meth c H locs 0 0 Q (F0 m pc ls [.int r])) →
      lv_has ls maxL (lv_args 0 av) → va_P g.1 classes (wM g S) H → va_D (AM g s.heap.size) (wM g S) → va_S (AM g s.heap.size) s.heap H locs → W p l e rm s m args below meth c H locs 0 0 Q (F0 m 0 ls [])) :
    Met l y (.code y cc maxL (some .boolean) :: w_M) rm (va_Pc av (PM g sz S)) (va_Qi post (BM g sz) (AM g sz)) 0 0 (AM g sz) := by
  refine Met.ofW (cc := cc) (maxL := maxL) (ret := (some .boolean)) hy rfl ?_
  intro p e s m args below meth c s₁ B hml hv
  obtain ⟨rfl, hsz, hP, hK, hD0⟩ := hv
  subst hsz
  have hts := atoms_spec (ws := .code y cc maxL (some .boolean) :: w_M) B.pre
  have hlk := B.notSynchronized
  have hD : va_D (AM g s.heap.size) (wM g S) := ⟨hD0.1, fun k q hk => AM_in hk⟩
  have hl := lv_entry av (n := maxL) hlen
  rw [lg_entry_eq]
  refine body p e s m _ below meth c _ s.heap [] _ B.exec B.bytes hml (fun w h => hts w (List.mem_cons_of_mem _ h)) (findClass_of_methodNamed B.named) hK (fun q h => Or.inr h) ?_ hl hP hD va_S.rf
  intro r S' H locs pc ls hn hp hP hD hS hd
  exact W.zret B.exec B.bytes B.returns hn (fun t ht hW => ⟨⟨r, S', rfl, hp, by rw [ht]; exact hP, va_K.moved hW.alike hK, hD⟩, hS.F ht⟩) hS.2.2 hd
set_option maxHeartbeats 4000000 in
theorem ofM_l {l : Launch} {g : Gm} {sz : Nat} {S : StM} {y : MethodName} {cc : ByteArray} {maxL : Nat} {rm : Room} {post : Int64 → StM → Prop} {av : List Value} (hy : plainName y.cls = true) (hlen : (lg_sl av).length ≤ maxL)
    (body : ∀ (p : Program) (e : Env) (s : State) (m : MethodId) (args : Array Value) (below : List Frame) (meth : Method) (c : Code) (Q : State → Prop) (H : Heap) (locs : List Loc) (ls : Array Slot), p.tables.exec = Jvm.exec → c.code = cc → c.maxLocals = maxL → (∀ w ∈ w_M, w.before args s = true) → s.vm.findClass y.cls = some m.cls → va_K g.1 classes (tysM g) s → (∀ q : Nat, s.heap.size ≤ q → AM g s.heap.size q) →
      (∀ (r : Int64) (S' : StM) (H : Heap) (locs : List Loc) (pc : Nat) (ls : Array Slot), post r S' → va_P g.1 classes (wM g S') H → va_D (AM g s.heap.size) (wM g S') → va_S (AM g s.heap.size) s.heap H locs → decode cc pc = .ok (.lreturn, 1) → W p l e rm s m args below meth c H locs 0 0 Q (F0 m pc ls [.long r])) →
      lv_has ls maxL (lv_args 0 av) → va_P g.1 classes (wM g S) H → va_D (AM g s.heap.size) (wM g S) → va_S (AM g s.heap.size) s.heap H locs → W p l e rm s m args below meth c H locs 0 0 Q (F0 m 0 ls [])) :
    Met l y (.code y cc maxL (some .long) :: w_M) rm (va_Pc av (PM g sz S)) (va_Ql post (BM g sz) (AM g sz)) 0 0 (AM g sz) := by
  refine Met.ofW (cc := cc) (maxL := maxL) (ret := (some .long)) hy rfl ?_
  intro p e s m args below meth c s₁ B hml hv
  obtain ⟨rfl, hsz, hP, hK, hD0⟩ := hv
  subst hsz
  have hts := atoms_spec (ws := .code y cc maxL (some .long) :: w_M) B.pre
  have hlk := B.notSynchronized
  have hD : va_D (AM g s.heap.size) (wM g S) := ⟨hD0.1, fun k q hk => AM_in hk⟩
  have hl := lv_entry av (n := maxL) hlen
  rw [lg_entry_eq]
  refine body p e s m _ below meth c _ s.heap [] _ B.exec B.bytes hml (fun w h => hts w (List.mem_cons_of_mem _ h)) (findClass_of_methodNamed B.named) hK (fun q h => Or.inr h) ?_ hl hP hD va_S.rf
  intro r S' H locs pc ls hp hP hD hS hd
  exact W.lret B.exec B.bytes B.returns (fun t ht hW => ⟨⟨r, S', rfl, hp, by rw [ht]; exact hP, va_K.moved hW.alike hK, hD⟩, hS.F ht⟩) hS.2.2 hd
section
variable {p : Program} {l : Launch} {e : Env} {R : Room} {s : State} {m : MethodId} {args : Array Value} {below : List Frame} {meth : Method} {c : Code} {H : Heap} {locs : List Loc} {cells slots : Nat} {Q : State → Prop} {cc : ByteArray} {pc idx : Nat} {ls : Array Slot} {rest : List Value} {A : Nat → Prop} {H0 : Heap} {g : Gm} {S S2 : StM}
theorem gt_M {v : Value} (hx : p.tables.exec = Jvm.exec) (hb : c.code = cc) (hown : s.vm.findClass R_M = some m.cls) (hts : ∀ w ∈ w_M, w.before args s = true) (hK : va_K g.1 classes (tysM g) s) (hP : va_P g.1 classes (wM g S) H) (k : Nat) (hk : k < 35) (hv : (fM g S)[k]? = some v) (hlink : Cond.fieldLink R_M idx (F_M k).1 (F_M k).2.1 (F_M k).2.2.1 ∈ w_M) (hdg : decode cc pc = .ok (.getfield idx, 3))
    (kk : W p l e R s m args below meth c H locs cells slots Q (F0 m (pc + 3) ls (v :: rest))) : W p l e R s m args below meth c H locs cells slots Q (F0 m pc ls (.ref (g.2.2 0) :: rest)) :=
  va_get (D := g.1) (ci := 0) (C := R_M) (T := F_M) (N := 35) hx hb hts hin_M hown hK hP 0 rfl rfl k hk (hts _ hlink) (fun _ h9 => h9) hv hdg kk
theorem pt_M {v : Value} (hx : p.tables.exec = Jvm.exec) (hb : c.code = cc) (hown : s.vm.findClass R_M = some m.cls) (hts : ∀ w ∈ w_M, w.before args s = true) (hK : va_K g.1 classes (tysM g) s) (hP : va_P g.1 classes (wM g S) H) (hD : va_D A (wM g S)) (hS : va_S A H0 H locs) (k : Nat) (hk : k < 35) (hfin : (F_M k).2.2.2 = false) (hn : narrow (t_M k) v = v) (hfit : fits (t_M k) v = true) (hset : (wM g S).set 0 (g.2.2 0, .inr (0, (fM g S).set k v)) = wM g S2) (hlink : Cond.fieldLink R_M idx (F_M k).1 (F_M k).2.1 (F_M k).2.2.1 ∈ w_M) (hdg : decode cc pc = .ok (.putfield idx, 3))
    (kk : ∀ (H1 : Heap) (locs1 : List Loc), va_P g.1 classes (wM g S2) H1 → va_D A (wM g S2) → va_S A H0 H1 locs1 → W p l e R s m args below meth c H1 locs1 cells slots Q (F0 m (pc + 3) ls rest)) : W p l e R s m args below meth c H locs cells slots Q (F0 m pc ls (v :: .ref (g.2.2 0) :: rest)) := by
  refine va_put (D := g.1) (ci := 0) (C := R_M) (T := F_M) (N := 35) hx hb hts hin_M t_M t_M_ok n_M hown hK hP hD hS 0 rfl rfl k hk (hts _ hlink) (fun _ h9 => h9) hfin (t_M_ok k hk) hn hfit hk hdg (fun H1 locs1 h1 h2 h3 => ?_)
  rw [hset] at h1 h2
  exact kk H1 locs1 h1 h2 h3
theorem ia_M {f : Nat → Int32} {n a : Nat} {i x : Int32} (hx : p.tables.exec = Jvm.exec) (hb : c.code = cc) (hK : va_K g.1 classes (tysM g) s) (hP : va_P g.1 classes (wM g S) H) (hD : va_D A (wM g S)) (hS : va_S A H0 H locs) (q0 : Nat) (ha : (wM g S)[q0]? = some (a, .inl (g.2.1 0, n, .inl f))) (hi : vp_in i n) (hdg : decode cc pc = .ok (.iastore, 1)) (hset : (wM g S).set q0 (a, .inl (g.2.1 0, n, .inl (upd f i.toNatClampNeg x))) = wM g S2)
    (kk : ∀ (H1 : Heap) (locs1 : List Loc), va_P g.1 classes (wM g S2) H1 → va_D A (wM g S2) → va_S A H0 H1 locs1 → W p l e R s m args below meth c H1 locs1 cells slots Q (F0 m (pc + 1) ls rest)) : W p l e R s m args below meth c H locs cells slots Q (F0 m pc ls (.int x :: .int i :: .ref a :: rest)) := by
  refine va_iast hx hb hK hP hD hS q0 0 ha rfl hi hdg (fun H1 locs1 h1 h2 h3 => ?_)
  rw [hset] at h1 h2
  exact kk H1 locs1 h1 h2 h3
theorem za_M {f : Nat → Int32} {n a : Nat} {i x : Int32} (hx : p.tables.exec = Jvm.exec) (hb : c.code = cc) (hK : va_K g.1 classes (tysM g) s) (hP : va_P g.1 classes (wM g S) H) (hD : va_D A (wM g S)) (hS : va_S A H0 H locs) (q0 : Nat) (ha : (wM g S)[q0]? = some (a, .inl (g.2.1 1, n, .inl f))) (hi : vp_in i n) (hdg : decode cc pc = .ok (.bastore, 1)) (hset : (wM g S).set q0 (a, .inl (g.2.1 1, n, .inl (upd f i.toNatClampNeg (vp_nar .boolean x)))) = wM g S2)
    (kk : ∀ (H1 : Heap) (locs1 : List Loc), va_P g.1 classes (wM g S2) H1 → va_D A (wM g S2) → va_S A H0 H1 locs1 → W p l e R s m args below meth c H1 locs1 cells slots Q (F0 m (pc + 1) ls rest)) : W p l e R s m args below meth c H locs cells slots Q (F0 m pc ls (.int x :: .int i :: .ref a :: rest)) := by
  refine va_zast hx hb hK hP hD hS q0 1 ha rfl hi hdg (fun H1 locs1 h1 h2 h3 => ?_)
  rw [hset] at h1 h2
  exact kk H1 locs1 h1 h2 h3
theorem la_M {f : Nat → Int64} {n a : Nat} {i : Int32} {x : Int64} (hx : p.tables.exec = Jvm.exec) (hb : c.code = cc) (hK : va_K g.1 classes (tysM g) s) (hP : va_P g.1 classes (wM g S) H) (hD : va_D A (wM g S)) (hS : va_S A H0 H locs) (q0 : Nat) (ha : (wM g S)[q0]? = some (a, .inl (g.2.1 2, n, .inr (.inl f)))) (hi : vp_in i n) (hdg : decode cc pc = .ok (.lastore, 1)) (hset : (wM g S).set q0 (a, .inl (g.2.1 2, n, .inr (.inl (vp_updL f i.toNatClampNeg x)))) = wM g S2)
    (kk : ∀ (H1 : Heap) (locs1 : List Loc), va_P g.1 classes (wM g S2) H1 → va_D A (wM g S2) → va_S A H0 H1 locs1 → W p l e R s m args below meth c H1 locs1 cells slots Q (F0 m (pc + 1) ls rest)) : W p l e R s m args below meth c H locs cells slots Q (F0 m pc ls (.long x :: .int i :: .ref a :: rest)) := by
  refine va_last hx hb hK hP hD hS q0 2 ha rfl hi hdg (fun H1 locs1 h1 h2 h3 => ?_)
  rw [hset] at h1 h2
  exact kk H1 locs1 h1 h2 h3
theorem free_M (hD : va_D A (wM g S)) (hS : va_S A H0 H locs) (hA : ∀ q : Nat, H0.size ≤ q → A q) : ∀ q, AM g H.size q → A q := by
  intro q hq
  rcases AM_of S hq with ⟨k, e9, hk⟩ | h
  · exact hD.2 k _ hk
  · exact hA q (Nat.le_trans hS.1 h)
theorem pre_M {av : List Value} (hK : va_K g.1 classes (tysM g) s) (hP : va_P g.1 classes (wM g S) H) (hD : va_D A (wM g S)) : ∀ U : State, U.heap = H → s.WarmedH U.vm → va_Pc av (PM g H.size S) av.toArray U :=
  fun U hU hW => ⟨rfl, by rw [hU], by rw [hU]; exact hP, va_K.moved hW.alike hK, hD.weaken (fun _ _ _ _ => trivial)⟩
theorem q_M {y : MethodName} {bytes : ByteArray} {maxL : Nat} {ret : Option FieldType} {rm : Room} (n : Nat) (hts : ∀ w ∈ w_M, w.before args s = true) (hc : Cond.code y bytes maxL ret ∈ w_M) (hl : Cond.methodLink R_M idx y ∈ w_M) (hi : Cond.instanceMethod y ∈ w_M) (hse : (Cond.selects R_M y y).before args s = true) (hini : Cond.initialized y.cls ∈ w_M) (hrc : rm.cells = 0) (hrs : rm.slots = 0)
    (hd : y.cls ≠ "java/lang/invoke/MethodHandle" ∧ y.cls ≠ "java/lang/invoke/VarHandle" ∧ (parseMethodDescriptor y.desc).map (fun d => d.parameters.length) = some n) (hR : rm.frames + 1 ≤ R.frames ∧ 8 + (maxL + 11) + rm.locals ≤ R.locals) : CallW R s args R_M R_M idx y bytes maxL ret (.code y bytes maxL ret :: w_M) rm 0 0 n :=
  ⟨callB_of n hts (good_M hc) rfl hrc hrs (hts _ hini) (hts _ hl) hd hR, hts _ hi, hse⟩
theorem q_MS {y : MethodName} {bytes : ByteArray} {maxL : Nat} {ret : Option FieldType} {rm : Room} (n : Nat) (hts : ∀ w ∈ w_M, w.before args s = true) (hc : Cond.code y bytes maxL ret ∈ w_M) (hl : Cond.methodLink R_M idx y ∈ w_M) (hi : Cond.static y ∈ w_M) (hini : Cond.initialized y.cls ∈ w_M) (hrc : rm.cells = 0) (hrs : rm.slots = 0)
    (hd : y.cls ≠ "java/lang/invoke/MethodHandle" ∧ y.cls ≠ "java/lang/invoke/VarHandle" ∧ (parseMethodDescriptor y.desc).map (fun d => d.parameters.length) = some n) (hR : rm.frames + 1 ≤ R.frames ∧ 8 + (maxL + 11) + rm.locals ≤ R.locals) : CallB R s args R_M idx y bytes maxL ret (.code y bytes maxL ret :: w_M) rm 0 0 n ∧ (Cond.static y).before args s = true :=
  ⟨callB_of n hts (good_M hc) rfl hrc hrs (hts _ hini) (hts _ hl) hd hR, hts _ hi⟩
theorem cM_v {y : MethodName} {bytes : ByteArray} {maxL nL n : Nat} {rm : Room} {post : StM → Prop} {As st0 : List Value} (hx : p.tables.exec = Jvm.exec) (hb : c.code = cc) (hml : c.maxLocals = nL) (hown : s.vm.findClass R_M = some m.cls) (hts : ∀ w ∈ w_M, w.before args s = true) (hK : va_K g.1 classes (tysM g) s) (hP : va_P g.1 classes (wM g S) H) (hD : va_D A (wM g S)) (hS : va_S A H0 H locs) (hA : ∀ q : Nat, H0.size ≤ q → A q) (hcl : cells ≤ R.cells) (hsl : slots ≤ R.slots) (hsz : ls.size = nL)
    (cw : CallW R s args R_M R_M idx y bytes maxL none (.code y bytes maxL none :: w_M) rm 0 0 n) (hM : Met l y (.code y bytes maxL none :: w_M) rm (va_Pc (.ref (g.2.2 0) :: As) (PM g H.size S)) (va_Qv post (BM g H.size) (AM g H.size)) 0 0 (AM g H.size)) (hst : st0 = As.reverse ++ .ref (g.2.2 0) :: rest) (hn : As.length = n) (hW : (rest.map fun v => v.category).sum ≤ 8) (hdg : decode cc pc = .ok (.invokevirtual idx, 3))
    (kk : ∀ (S' : StM) (H1 : Heap) (locs1 : List Loc), post S' → va_P g.1 classes (wM g S') H1 → va_D A (wM g S') → va_S A H0 H1 locs1 → W p l e R s m args below meth c H1 locs1 cells slots Q (F0 m (pc + 3) ls (rest))) : W p l e R s m args below meth c H locs cells slots Q (F0 m pc ls st0) := by
  subst hst
  have hF := free_M hD hS hA
  refine va_callv (va_runV (rest := rest) ⟨hx, hb, hml, hown, hts⟩ hM cw ⟨PM_blind, va_recv (q0 := 0) (ci := 0) hK hP rfl rfl, pre_M hK hP hD⟩ rfl hn hsz rfl (lv_room hW) hdg ⟨hcl, hsl⟩) hS (fun q _ h => hF q h) hF (fun u t H1 locs1 ht hvm hp hB hz1 hk1 hS1 => ?_)
  obtain ⟨hP1, hK1, hD1⟩ := hB
  rw [ht] at hP1
  exact kk u H1 locs1 hp hP1 (hD1.weaken (fun _ _ _ h => hF _ h)) hS1
theorem cM_vS {y : MethodName} {bytes : ByteArray} {maxL nL n : Nat} {rm : Room} {post : StM → Prop} {As st0 : List Value} (hx : p.tables.exec = Jvm.exec) (hb : c.code = cc) (hml : c.maxLocals = nL) (hown : s.vm.findClass R_M = some m.cls) (hts : ∀ w ∈ w_M, w.before args s = true) (hK : va_K g.1 classes (tysM g) s) (hP : va_P g.1 classes (wM g S) H) (hD : va_D A (wM g S)) (hS : va_S A H0 H locs) (hA : ∀ q : Nat, H0.size ≤ q → A q) (hcl : cells ≤ R.cells) (hsl : slots ≤ R.slots) (hsz : ls.size = nL)
    (cw : CallB R s args R_M idx y bytes maxL none (.code y bytes maxL none :: w_M) rm 0 0 n ∧ (Cond.static y).before args s = true) (hM : Met l y (.code y bytes maxL none :: w_M) rm (va_Pc As (PM g H.size S)) (va_Qv post (BM g H.size) (AM g H.size)) 0 0 (AM g H.size)) (hst : st0 = As.reverse ++ rest) (hn : As.length = n) (hW : (rest.map fun v => v.category).sum ≤ 8) (hdg : decode cc pc = .ok (.invokestatic idx, 3))
    (kk : ∀ (S' : StM) (H1 : Heap) (locs1 : List Loc), post S' → va_P g.1 classes (wM g S') H1 → va_D A (wM g S') → va_S A H0 H1 locs1 → W p l e R s m args below meth c H1 locs1 cells slots Q (F0 m (pc + 3) ls (rest))) : W p l e R s m args below meth c H locs cells slots Q (F0 m pc ls st0) := by
  subst hst
  have hF := free_M hD hS hA
  refine va_callv (va_runS (rest := rest) ⟨hx, hb, hml, hown, hts⟩ hM cw ⟨PM_blind, pre_M hK hP hD⟩ rfl hn hsz rfl (lv_room hW) hdg ⟨hcl, hsl⟩) hS (fun q _ h => hF q h) hF (fun u t H1 locs1 ht hvm hp hB hz1 hk1 hS1 => ?_)
  obtain ⟨hP1, hK1, hD1⟩ := hB
  rw [ht] at hP1
  exact kk u H1 locs1 hp hP1 (hD1.weaken (fun _ _ _ h => hF _ h)) hS1
theorem cM_i {y : MethodName} {bytes : ByteArray} {maxL nL n : Nat} {rm : Room} {ret : Option FieldType} {post : Int32 → StM → Prop} {As st0 : List Value} (hx : p.tables.exec = Jvm.exec) (hb : c.code = cc) (hml : c.maxLocals = nL) (hown : s.vm.findClass R_M = some m.cls) (hts : ∀ w ∈ w_M, w.before args s = true) (hK : va_K g.1 classes (tysM g) s) (hP : va_P g.1 classes (wM g S) H) (hD : va_D A (wM g S)) (hS : va_S A H0 H locs) (hA : ∀ q : Nat, H0.size ≤ q → A q) (hcl : cells ≤ R.cells) (hsl : slots ≤ R.slots) (hsz : ls.size = nL)
    (cw : CallW R s args R_M R_M idx y bytes maxL ret (.code y bytes maxL ret :: w_M) rm 0 0 n) (hM : Met l y (.code y bytes maxL ret :: w_M) rm (va_Pc (.ref (g.2.2 0) :: As) (PM g H.size S)) (va_Qi post (BM g H.size) (AM g H.size)) 0 0 (AM g H.size)) (hst : st0 = As.reverse ++ .ref (g.2.2 0) :: rest) (hn : As.length = n) (hW : (rest.map fun v => v.category).sum ≤ 8) (hdg : decode cc pc = .ok (.invokevirtual idx, 3))
    (kk : ∀ (r : Int32) (S' : StM) (H1 : Heap) (locs1 : List Loc), post r S' → va_P g.1 classes (wM g S') H1 → va_D A (wM g S') → va_S A H0 H1 locs1 → W p l e R s m args below meth c H1 locs1 cells slots Q (F0 m (pc + 3) ls (.int r :: rest))) : W p l e R s m args below meth c H locs cells slots Q (F0 m pc ls st0) := by
  subst hst
  have hF := free_M hD hS hA
  refine va_calli (va_runV (rest := rest) ⟨hx, hb, hml, hown, hts⟩ hM cw ⟨PM_blind, va_recv (q0 := 0) (ci := 0) hK hP rfl rfl, pre_M hK hP hD⟩ rfl hn hsz rfl (lv_room hW) hdg ⟨hcl, hsl⟩) hS (fun q _ h => hF q h) hF (fun r u t H1 locs1 ht hvm hp hB hz1 hk1 hS1 => ?_)
  obtain ⟨hP1, hK1, hD1⟩ := hB
  rw [ht] at hP1
  exact kk r u H1 locs1 hp hP1 (hD1.weaken (fun _ _ _ h => hF _ h)) hS1
theorem cM_iS {y : MethodName} {bytes : ByteArray} {maxL nL n : Nat} {rm : Room} {ret : Option FieldType} {post : Int32 → StM → Prop} {As st0 : List Value} (hx : p.tables.exec = Jvm.exec) (hb : c.code = cc) (hml : c.maxLocals = nL) (hown : s.vm.findClass R_M = some m.cls) (hts : ∀ w ∈ w_M, w.before args s = true) (hK : va_K g.1 classes (tysM g) s) (hP : va_P g.1 classes (wM g S) H) (hD : va_D A (wM g S)) (hS : va_S A H0 H locs) (hA : ∀ q : Nat, H0.size ≤ q → A q) (hcl : cells ≤ R.cells) (hsl : slots ≤ R.slots) (hsz : ls.size = nL)
    (cw : CallB R s args R_M idx y bytes maxL ret (.code y bytes maxL ret :: w_M) rm 0 0 n ∧ (Cond.static y).before args s = true) (hM : Met l y (.code y bytes maxL ret :: w_M) rm (va_Pc As (PM g H.size S)) (va_Qi post (BM g H.size) (AM g H.size)) 0 0 (AM g H.size)) (hst : st0 = As.reverse ++ rest) (hn : As.length = n) (hW : (rest.map fun v => v.category).sum ≤ 8) (hdg : decode cc pc = .ok (.invokestatic idx, 3))
    (kk : ∀ (r : Int32) (S' : StM) (H1 : Heap) (locs1 : List Loc), post r S' → va_P g.1 classes (wM g S') H1 → va_D A (wM g S') → va_S A H0 H1 locs1 → W p l e R s m args below meth c H1 locs1 cells slots Q (F0 m (pc + 3) ls (.int r :: rest))) : W p l e R s m args below meth c H locs cells slots Q (F0 m pc ls st0) := by
  subst hst
  have hF := free_M hD hS hA
  refine va_calli (va_runS (rest := rest) ⟨hx, hb, hml, hown, hts⟩ hM cw ⟨PM_blind, pre_M hK hP hD⟩ rfl hn hsz rfl (lv_room hW) hdg ⟨hcl, hsl⟩) hS (fun q _ h => hF q h) hF (fun r u t H1 locs1 ht hvm hp hB hz1 hk1 hS1 => ?_)
  obtain ⟨hP1, hK1, hD1⟩ := hB
  rw [ht] at hP1
  exact kk r u H1 locs1 hp hP1 (hD1.weaken (fun _ _ _ h => hF _ h)) hS1
theorem cM_l {y : MethodName} {bytes : ByteArray} {maxL nL n : Nat} {rm : Room} {post : Int64 → StM → Prop} {As st0 : List Value} (hx : p.tables.exec = Jvm.exec) (hb : c.code = cc) (hml : c.maxLocals = nL) (hown : s.vm.findClass R_M = some m.cls) (hts : ∀ w ∈ w_M, w.before args s = true) (hK : va_K g.1 classes (tysM g) s) (hP : va_P g.1 classes (wM g S) H) (hD : va_D A (wM g S)) (hS : va_S A H0 H locs) (hA : ∀ q : Nat, H0.size ≤ q → A q) (hcl : cells ≤ R.cells) (hsl : slots ≤ R.slots) (hsz : ls.size = nL)
    (cw : CallW R s args R_M R_M idx y bytes maxL (some .long) (.code y bytes maxL (some .long) :: w_M) rm 0 0 n) (hM : Met l y (.code y bytes maxL (some .long) :: w_M) rm (va_Pc (.ref (g.2.2 0) :: As) (PM g H.size S)) (va_Ql post (BM g H.size) (AM g H.size)) 0 0 (AM g H.size)) (hst : st0 = As.reverse ++ .ref (g.2.2 0) :: rest) (hn : As.length = n) (hW : (rest.map fun v => v.category).sum ≤ 8) (hdg : decode cc pc = .ok (.invokevirtual idx, 3))
    (kk : ∀ (r : Int64) (S' : StM) (H1 : Heap) (locs1 : List Loc), post r S' → va_P g.1 classes (wM g S') H1 → va_D A (wM g S') → va_S A H0 H1 locs1 → W p l e R s m args below meth c H1 locs1 cells slots Q (F0 m (pc + 3) ls (.long r :: rest))) : W p l e R s m args below meth c H locs cells slots Q (F0 m pc ls st0) := by
  subst hst
  have hF := free_M hD hS hA
  refine va_calll (va_runV (rest := rest) ⟨hx, hb, hml, hown, hts⟩ hM cw ⟨PM_blind, va_recv (q0 := 0) (ci := 0) hK hP rfl rfl, pre_M hK hP hD⟩ rfl hn hsz rfl (lv_room hW) hdg ⟨hcl, hsl⟩) hS (fun q _ h => hF q h) hF (fun r u t H1 locs1 ht hvm hp hB hz1 hk1 hS1 => ?_)
  obtain ⟨hP1, hK1, hD1⟩ := hB
  rw [ht] at hP1
  exact kk r u H1 locs1 hp hP1 (hD1.weaken (fun _ _ _ h => hF _ h)) hS1
theorem cM_lS {y : MethodName} {bytes : ByteArray} {maxL nL n : Nat} {rm : Room} {post : Int64 → StM → Prop} {As st0 : List Value} (hx : p.tables.exec = Jvm.exec) (hb : c.code = cc) (hml : c.maxLocals = nL) (hown : s.vm.findClass R_M = some m.cls) (hts : ∀ w ∈ w_M, w.before args s = true) (hK : va_K g.1 classes (tysM g) s) (hP : va_P g.1 classes (wM g S) H) (hD : va_D A (wM g S)) (hS : va_S A H0 H locs) (hA : ∀ q : Nat, H0.size ≤ q → A q) (hcl : cells ≤ R.cells) (hsl : slots ≤ R.slots) (hsz : ls.size = nL)
    (cw : CallB R s args R_M idx y bytes maxL (some .long) (.code y bytes maxL (some .long) :: w_M) rm 0 0 n ∧ (Cond.static y).before args s = true) (hM : Met l y (.code y bytes maxL (some .long) :: w_M) rm (va_Pc As (PM g H.size S)) (va_Ql post (BM g H.size) (AM g H.size)) 0 0 (AM g H.size)) (hst : st0 = As.reverse ++ rest) (hn : As.length = n) (hW : (rest.map fun v => v.category).sum ≤ 8) (hdg : decode cc pc = .ok (.invokestatic idx, 3))
    (kk : ∀ (r : Int64) (S' : StM) (H1 : Heap) (locs1 : List Loc), post r S' → va_P g.1 classes (wM g S') H1 → va_D A (wM g S') → va_S A H0 H1 locs1 → W p l e R s m args below meth c H1 locs1 cells slots Q (F0 m (pc + 3) ls (.long r :: rest))) : W p l e R s m args below meth c H locs cells slots Q (F0 m pc ls st0) := by
  subst hst
  have hF := free_M hD hS hA
  refine va_calll (va_runS (rest := rest) ⟨hx, hb, hml, hown, hts⟩ hM cw ⟨PM_blind, pre_M hK hP hD⟩ rfl hn hsz rfl (lv_room hW) hdg ⟨hcl, hsl⟩) hS (fun q _ h => hF q h) hF (fun r u t H1 locs1 ht hvm hp hB hz1 hk1 hS1 => ?_)
  obtain ⟨hP1, hK1, hD1⟩ := hB
  rw [ht] at hP1
  exact kk r u H1 locs1 hp hP1 (hD1.weaken (fun _ _ _ h => hF _ h)) hS1
end
theorem q_M_name {R : Room} {s : State} {args : Array Value} (hts : ∀ w ∈ w_M, w.before args s = true) (hR : (rmM 0 0).frames + 1 ≤ R.frames ∧ 8 + (9 + 11) + (rmM 0 0).locals ≤ R.locals) : CallW R s args R_M R_M 78 y_M_name b_M_name 9 none (.code y_M_name b_M_name 9 none :: w_M) (rmM 0 0) 0 0 2 := q_M 2 hts k_M_2 k_M_50 k_M_51 (hts _ k_M_244) k_M_46 rfl rfl ⟨by decide +kernel, by decide +kernel, by decide +kernel⟩ hR
theorem q_M_in {R : Room} {s : State} {args : Array Value} (hts : ∀ w ∈ w_M, w.before args s = true) (hR : (rmM 0 0).frames + 1 ≤ R.frames ∧ 8 + (3 + 11) + (rmM 0 0).locals ≤ R.locals) : CallB R s args R_M 212 y_M_in b_M_in 3 (some .boolean) (.code y_M_in b_M_in 3 (some .boolean) :: w_M) (rmM 0 0) 0 0 3 ∧ (Cond.static y_M_in).before args s = true := q_MS 3 hts k_M_1 k_M_143 k_M_144 k_M_46 rfl rfl ⟨by decide +kernel, by decide +kernel, by decide +kernel⟩ hR
theorem q_M_fail {R : Room} {s : State} {args : Array Value} (hts : ∀ w ∈ w_M, w.before args s = true) (hR : (rmM 0 0).frames + 1 ≤ R.frames ∧ 8 + (2 + 11) + (rmM 0 0).locals ≤ R.locals) : CallW R s args R_M R_M 196 y_M_fail b_M_fail 2 none (.code y_M_fail b_M_fail 2 none :: w_M) (rmM 0 0) 0 0 1 := q_M 1 hts k_M_3 k_M_153 k_M_154 (hts _ k_M_238) k_M_46 rfl rfl ⟨by decide +kernel, by decide +kernel, by decide +kernel⟩ hR
theorem q_M_needs {R : Room} {s : State} {args : Array Value} (hts : ∀ w ∈ w_M, w.before args s = true) (hR : (rmM 1 21).frames + 1 ≤ R.frames ∧ 8 + (2 + 11) + (rmM 1 21).locals ≤ R.locals) : CallW R s args R_M R_M 230 y_M_needs b_M_needs 2 (some .boolean) (.code y_M_needs b_M_needs 2 (some .boolean) :: w_M) (rmM 1 21) 0 0 1 := q_M 1 hts k_M_4 k_M_173 k_M_174 (hts _ k_M_245) k_M_46 rfl rfl ⟨by decide +kernel, by decide +kernel, by decide +kernel⟩ hR
theorem q_M_push {R : Room} {s : State} {args : Array Value} (hts : ∀ w ∈ w_M, w.before args s = true) (hR : (rmM 1 21).frames + 1 ≤ R.frames ∧ 8 + (2 + 11) + (rmM 1 21).locals ≤ R.locals) : CallW R s args R_M R_M 238 y_M_push b_M_push 2 none (.code y_M_push b_M_push 2 none :: w_M) (rmM 1 21) 0 0 1 := q_M 1 hts k_M_5 k_M_167 k_M_168 (hts _ k_M_253) k_M_46 rfl rfl ⟨by decide +kernel, by decide +kernel, by decide +kernel⟩ hR
theorem q_M_pop {R : Room} {s : State} {args : Array Value} (hts : ∀ w ∈ w_M, w.before args s = true) (hR : (rmM 0 0).frames + 1 ≤ R.frames ∧ 8 + (1 + 11) + (rmM 0 0).locals ≤ R.locals) : CallW R s args R_M R_M 241 y_M_pop b_M_pop 1 (some .int) (.code y_M_pop b_M_pop 1 (some .int) :: w_M) (rmM 0 0) 0 0 0 := q_M 0 hts k_M_6 k_M_177 k_M_178 (hts _ k_M_252) k_M_46 rfl rfl ⟨by decide +kernel, by decide +kernel, by decide +kernel⟩ hR
theorem q_M_top {R : Room} {s : State} {args : Array Value} (hts : ∀ w ∈ w_M, w.before args s = true) (hR : (rmM 0 0).frames + 1 ≤ R.frames ∧ 8 + (2 + 11) + (rmM 0 0).locals ≤ R.locals) : CallW R s args R_M R_M 234 y_M_top b_M_top 2 (some .int) (.code y_M_top b_M_top 2 (some .int) :: w_M) (rmM 0 0) 0 0 1 := q_M 1 hts k_M_7 k_M_175 k_M_176 (hts _ k_M_262) k_M_46 rfl rfl ⟨by decide +kernel, by decide +kernel, by decide +kernel⟩ hR
theorem q_M_nextToken {R : Room} {s : State} {args : Array Value} (hts : ∀ w ∈ w_M, w.before args s = true) (hR : (rmM 0 0).frames + 1 ≤ R.frames ∧ 8 + (1 + 11) + (rmM 0 0).locals ≤ R.locals) : CallW R s args R_M R_M 264 y_M_nextToken b_M_nextToken 1 (some .boolean) (.code y_M_nextToken b_M_nextToken 1 (some .boolean) :: w_M) (rmM 0 0) 0 0 0 := q_M 0 hts k_M_8 k_M_147 k_M_148 (hts _ k_M_246) k_M_46 rfl rfl ⟨by decide +kernel, by decide +kernel, by decide +kernel⟩ hR
theorem q_M_isNumber {R : Room} {s : State} {args : Array Value} (hts : ∀ w ∈ w_M, w.before args s = true) (hR : (rmM 1 22).frames + 1 ≤ R.frames ∧ 8 + (4 + 11) + (rmM 1 22).locals ≤ R.locals) : CallW R s args R_M R_M 216 y_M_isNumber b_M_isNumber 4 (some .boolean) (.code y_M_isNumber b_M_isNumber 4 (some .boolean) :: w_M) (rmM 1 22) 0 0 0 := q_M 0 hts k_M_9 k_M_159 k_M_160 (hts _ k_M_242) k_M_46 rfl rfl ⟨by decide +kernel, by decide +kernel, by decide +kernel⟩ hR
theorem q_M_number {R : Room} {s : State} {args : Array Value} (hts : ∀ w ∈ w_M, w.before args s = true) (hR : (rmM 0 0).frames + 1 ≤ R.frames ∧ 8 + (3 + 11) + (rmM 0 0).locals ≤ R.locals) : CallW R s args R_M R_M 337 y_M_number b_M_number 3 (some .int) (.code y_M_number b_M_number 3 (some .int) :: w_M) (rmM 0 0) 0 0 0 := q_M 0 hts k_M_10 k_M_163 k_M_164 (hts _ k_M_247) k_M_46 rfl rfl ⟨by decide +kernel, by decide +kernel, by decide +kernel⟩ hR
theorem q_M_isName {R : Room} {s : State} {args : Array Value} (hts : ∀ w ∈ w_M, w.before args s = true) (hR : (rmM 2 45).frames + 1 ≤ R.frames ∧ 8 + (1 + 11) + (rmM 2 45).locals ≤ R.locals) : CallW R s args R_M R_M 220 y_M_isName b_M_isName 1 (some .boolean) (.code y_M_isName b_M_isName 1 (some .boolean) :: w_M) (rmM 2 45) 0 0 0 := q_M 0 hts k_M_11 k_M_157 k_M_158 (hts _ k_M_241) k_M_46 rfl rfl ⟨by decide +kernel, by decide +kernel, by decide +kernel⟩ hR
theorem q_M_key {R : Room} {s : State} {args : Array Value} (hts : ∀ w ∈ w_M, w.before args s = true) (hR : (rmM 0 0).frames + 1 ≤ R.frames ∧ 8 + (4 + 11) + (rmM 0 0).locals ≤ R.locals) : CallW R s args R_M R_M 223 y_M_key b_M_key 4 (some .long) (.code y_M_key b_M_key 4 (some .long) :: w_M) (rmM 0 0) 0 0 0 := q_M 0 hts k_M_12 k_M_161 k_M_162 (hts _ k_M_243) k_M_46 rfl rfl ⟨by decide +kernel, by decide +kernel, by decide +kernel⟩ hR
theorem q_M_find {R : Room} {s : State} {args : Array Value} (hts : ∀ w ∈ w_M, w.before args s = true) (hR : (rmM 3 65).frames + 1 ≤ R.frames ∧ 8 + (5 + 11) + (rmM 3 65).locals ≤ R.locals) : CallW R s args R_M R_M 267 y_M_find b_M_find 5 (some .int) (.code y_M_find b_M_find 5 (some .int) :: w_M) (rmM 3 65) 0 0 0 := q_M 0 hts k_M_13 k_M_155 k_M_156 (hts _ k_M_239) k_M_46 rfl rfl ⟨by decide +kernel, by decide +kernel, by decide +kernel⟩ hR
theorem q_M_arithmetic {R : Room} {s : State} {args : Array Value} (hts : ∀ w ∈ w_M, w.before args s = true) (hR : (rmM 2 42).frames + 1 ≤ R.frames ∧ 8 + (5 + 11) + (rmM 2 42).locals ≤ R.locals) : CallW R s args R_M R_M 304 y_M_arithmetic b_M_arithmetic 5 none (.code y_M_arithmetic b_M_arithmetic 5 none :: w_M) (rmM 2 42) 0 0 1 := q_M 1 hts k_M_14 k_M_181 k_M_182 (hts _ k_M_230) k_M_46 rfl rfl ⟨by decide +kernel, by decide +kernel, by decide +kernel⟩ hR
theorem q_M_rotate {R : Room} {s : State} {args : Array Value} (hts : ∀ w ∈ w_M, w.before args s = true) (hR : (rmM 2 42).frames + 1 ≤ R.frames ∧ 8 + (4 + 11) + (rmM 2 42).locals ≤ R.locals) : CallW R s args R_M R_M 245 y_M_rotate b_M_rotate 4 none (.code y_M_rotate b_M_rotate 4 none :: w_M) (rmM 2 42) 0 0 0 := q_M 0 hts k_M_15 k_M_185 k_M_186 (hts _ k_M_256) k_M_46 rfl rfl ⟨by decide +kernel, by decide +kernel, by decide +kernel⟩ hR
theorem q_M_shuffle {R : Room} {s : State} {args : Array Value} (hts : ∀ w ∈ w_M, w.before args s = true) (hR : (rmM 3 65).frames + 1 ≤ R.frames ∧ 8 + (4 + 11) + (rmM 3 65).locals ≤ R.locals) : CallW R s args R_M R_M 307 y_M_shuffle b_M_shuffle 4 none (.code y_M_shuffle b_M_shuffle 4 none :: w_M) (rmM 3 65) 0 0 1 := q_M 1 hts k_M_16 k_M_183 k_M_184 (hts _ k_M_258) k_M_46 rfl rfl ⟨by decide +kernel, by decide +kernel, by decide +kernel⟩ hR
theorem q_M_store {R : Room} {s : State} {args : Array Value} (hts : ∀ w ∈ w_M, w.before args s = true) (hR : (rmM 2 42).frames + 1 ≤ R.frames ∧ 8 + (4 + 11) + (rmM 2 42).locals ≤ R.locals) : CallW R s args R_M R_M 310 y_M_store b_M_store 4 none (.code y_M_store b_M_store 4 none :: w_M) (rmM 2 42) 0 0 1 := q_M 1 hts k_M_17 k_M_187 k_M_188 (hts _ k_M_260) k_M_46 rfl rfl ⟨by decide +kernel, by decide +kernel, by decide +kernel⟩ hR
theorem q_M_returns {R : Room} {s : State} {args : Array Value} (hts : ∀ w ∈ w_M, w.before args s = true) (hR : (rmM 2 42).frames + 1 ≤ R.frames ∧ 8 + (3 + 11) + (rmM 2 42).locals ≤ R.locals) : CallW R s args R_M R_M 313 y_M_returns b_M_returns 3 none (.code y_M_returns b_M_returns 3 none :: w_M) (rmM 2 42) 0 0 1 := q_M 1 hts k_M_18 k_M_189 k_M_190 (hts _ k_M_255) k_M_46 rfl rfl ⟨by decide +kernel, by decide +kernel, by decide +kernel⟩ hR
theorem q_M_open {R : Room} {s : State} {args : Array Value} (hts : ∀ w ∈ w_M, w.before args s = true) (hR : (rmM 1 23).frames + 1 ≤ R.frames ∧ 8 + (1 + 11) + (rmM 1 23).locals ≤ R.locals) : CallW R s args R_M R_M 270 y_M_open b_M_open 1 none (.code y_M_open b_M_open 1 none :: w_M) (rmM 1 23) 0 0 0 := q_M 0 hts k_M_19 k_M_193 k_M_194 (hts _ k_M_248) k_M_46 rfl rfl ⟨by decide +kernel, by decide +kernel, by decide +kernel⟩ hR
theorem q_M_compile {R : Room} {s : State} {args : Array Value} (hts : ∀ w ∈ w_M, w.before args s = true) (hR : (rmM 1 21).frames + 1 ≤ R.frames ∧ 8 + (3 + 11) + (rmM 1 21).locals ≤ R.locals) : CallW R s args R_M R_M 279 y_M_compile b_M_compile 3 none (.code y_M_compile b_M_compile 3 none :: w_M) (rmM 1 21) 0 0 2 := q_M 2 hts k_M_22 k_M_165 k_M_166 (hts _ k_M_235) k_M_46 rfl rfl ⟨by decide +kernel, by decide +kernel, by decide +kernel⟩ hR
theorem q_M_begin {R : Room} {s : State} {args : Array Value} (hts : ∀ w ∈ w_M, w.before args s = true) (hR : (rmM 2 43).frames + 1 ≤ R.frames ∧ 8 + (2 + 11) + (rmM 2 43).locals ≤ R.locals) : CallW R s args R_M R_M 273 y_M_begin b_M_begin 2 none (.code y_M_begin b_M_begin 2 none :: w_M) (rmM 2 43) 0 0 1 := q_M 1 hts k_M_21 k_M_195 k_M_196 (hts _ k_M_231) k_M_46 rfl rfl ⟨by decide +kernel, by decide +kernel, by decide +kernel⟩ hR
theorem q_M_parsing {R : Room} {s : State} {args : Array Value} (hts : ∀ w ∈ w_M, w.before args s = true) (hR : (rmM 4 89).frames + 1 ≤ R.frames ∧ 8 + (4 + 11) + (rmM 4 89).locals ≤ R.locals) : CallW R s args R_M R_M 316 y_M_parsing b_M_parsing 4 none (.code y_M_parsing b_M_parsing 4 none :: w_M) (rmM 4 89) 0 0 1 := q_M 1 hts k_M_20 k_M_191 k_M_192 (hts _ k_M_250) k_M_46 rfl rfl ⟨by decide +kernel, by decide +kernel, by decide +kernel⟩ hR
theorem q_M_settle {R : Room} {s : State} {args : Array Value} (hts : ∀ w ∈ w_M, w.before args s = true) (hR : (rmM 0 0).frames + 1 ≤ R.frames ∧ 8 + (1 + 11) + (rmM 0 0).locals ≤ R.locals) : CallW R s args R_M R_M 289 y_M_settle b_M_settle 1 none (.code y_M_settle b_M_settle 1 none :: w_M) (rmM 0 0) 0 0 0 := q_M 0 hts k_M_23 k_M_207 k_M_208 (hts _ k_M_257) k_M_46 rfl rfl ⟨by decide +kernel, by decide +kernel, by decide +kernel⟩ hR
theorem q_M_openOne {R : Room} {s : State} {args : Array Value} (hts : ∀ w ∈ w_M, w.before args s = true) (hR : (rmM 0 0).frames + 1 ≤ R.frames ∧ 8 + (3 + 11) + (rmM 0 0).locals ≤ R.locals) : CallW R s args R_M R_M 292 y_M_openOne b_M_openOne 3 none (.code y_M_openOne b_M_openOne 3 none :: w_M) (rmM 0 0) 0 0 2 := q_M 2 hts k_M_24 k_M_209 k_M_210 (hts _ k_M_249) k_M_46 rfl rfl ⟨by decide +kernel, by decide +kernel, by decide +kernel⟩ hR
theorem q_M_fits {R : Room} {s : State} {args : Array Value} (hts : ∀ w ∈ w_M, w.before args s = true) (hR : (rmM 1 22).frames + 1 ≤ R.frames ∧ 8 + (3 + 11) + (rmM 1 22).locals ≤ R.locals) : CallW R s args R_M R_M 283 y_M_fits b_M_fits 3 (some .boolean) (.code y_M_fits b_M_fits 3 (some .boolean) :: w_M) (rmM 1 22) 0 0 1 := q_M 1 hts k_M_25 k_M_203 k_M_204 (hts _ k_M_240) k_M_46 rfl rfl ⟨by decide +kernel, by decide +kernel, by decide +kernel⟩ hR
theorem q_M_after {R : Room} {s : State} {args : Array Value} (hts : ∀ w ∈ w_M, w.before args s = true) (hR : (rmM 1 22).frames + 1 ≤ R.frames ∧ 8 + (3 + 11) + (rmM 1 22).locals ≤ R.locals) : CallW R s args R_M R_M 286 y_M_after b_M_after 3 none (.code y_M_after b_M_after 3 none :: w_M) (rmM 1 22) 0 0 2 := q_M 2 hts k_M_27 k_M_205 k_M_206 (hts _ k_M_229) k_M_46 rfl rfl ⟨by decide +kernel, by decide +kernel, by decide +kernel⟩ hR
theorem q_M_control {R : Room} {s : State} {args : Array Value} (hts : ∀ w ∈ w_M, w.before args s = true) (hR : (rmM 2 44).frames + 1 ≤ R.frames ∧ 8 + (5 + 11) + (rmM 2 44).locals ≤ R.locals) : CallW R s args R_M R_M 322 y_M_control b_M_control 5 none (.code y_M_control b_M_control 5 none :: w_M) (rmM 2 44) 0 0 1 := q_M 1 hts k_M_26 k_M_201 k_M_202 (hts _ k_M_236) k_M_46 rfl rfl ⟨by decide +kernel, by decide +kernel, by decide +kernel⟩ hR
theorem q_M_write {R : Room} {s : State} {args : Array Value} (hts : ∀ w ∈ w_M, w.before args s = true) (hR : (rmM 0 0).frames + 1 ≤ R.frames ∧ 8 + (3 + 11) + (rmM 0 0).locals ≤ R.locals) : CallW R s args R_M R_M 295 y_M_write b_M_write 3 none (.code y_M_write b_M_write 3 none :: w_M) (rmM 0 0) 0 0 1 := q_M 1 hts k_M_28 k_M_199 k_M_200 (hts _ k_M_263) k_M_46 rfl rfl ⟨by decide +kernel, by decide +kernel, by decide +kernel⟩ hR
theorem q_M_block {R : Room} {s : State} {args : Array Value} (hts : ∀ w ∈ w_M, w.before args s = true) (hR : (rmM 2 42).frames + 1 ≤ R.frames ∧ 8 + (4 + 11) + (rmM 2 42).locals ≤ R.locals) : CallW R s args R_M R_M 319 y_M_block b_M_block 4 none (.code y_M_block b_M_block 4 none :: w_M) (rmM 2 42) 0 0 0 := q_M 0 hts k_M_29 k_M_197 k_M_198 (hts _ k_M_233) k_M_46 rfl rfl ⟨by decide +kernel, by decide +kernel, by decide +kernel⟩ hR
theorem q_M_target {R : Room} {s : State} {args : Array Value} (hts : ∀ w ∈ w_M, w.before args s = true) (hR : (rmM 2 42).frames + 1 ≤ R.frames ∧ 8 + (2 + 11) + (rmM 2 42).locals ≤ R.locals) : CallW R s args R_M R_M 298 y_M_target b_M_target 2 (some .int) (.code y_M_target b_M_target 2 (some .int) :: w_M) (rmM 2 42) 0 0 0 := q_M 0 hts k_M_30 k_M_171 k_M_172 (hts _ k_M_261) k_M_46 rfl rfl ⟨by decide +kernel, by decide +kernel, by decide +kernel⟩ hR
theorem q_M_enter {R : Room} {s : State} {args : Array Value} (hts : ∀ w ∈ w_M, w.before args s = true) (hR : (rmM 1 21).frames + 1 ≤ R.frames ∧ 8 + (2 + 11) + (rmM 1 21).locals ≤ R.locals) : CallW R s args R_M R_M 301 y_M_enter b_M_enter 2 none (.code y_M_enter b_M_enter 2 none :: w_M) (rmM 1 21) 0 0 1 := q_M 1 hts k_M_32 k_M_179 k_M_180 (hts _ k_M_237) k_M_46 rfl rfl ⟨by decide +kernel, by decide +kernel, by decide +kernel⟩ hR
theorem q_M_perform {R : Room} {s : State} {args : Array Value} (hts : ∀ w ∈ w_M, w.before args s = true) (hR : (rmM 5 112).frames + 1 ≤ R.frames ∧ 8 + (3 + 11) + (rmM 5 112).locals ≤ R.locals) : CallW R s args R_M R_M 331 y_M_perform b_M_perform 3 none (.code y_M_perform b_M_perform 3 none :: w_M) (rmM 5 112) 0 0 1 := q_M 1 hts k_M_31 k_M_169 k_M_170 (hts _ k_M_251) k_M_46 rfl rfl ⟨by decide +kernel, by decide +kernel, by decide +kernel⟩ hR
theorem q_M_burn {R : Room} {s : State} {args : Array Value} (hts : ∀ w ∈ w_M, w.before args s = true) (hR : (rmM 1 21).frames + 1 ≤ R.frames ∧ 8 + (1 + 11) + (rmM 1 21).locals ≤ R.locals) : CallW R s args R_M R_M 328 y_M_burn b_M_burn 1 none (.code y_M_burn b_M_burn 1 none :: w_M) (rmM 1 21) 0 0 0 := q_M 0 hts k_M_33 k_M_151 k_M_152 (hts _ k_M_234) k_M_46 rfl rfl ⟨by decide +kernel, by decide +kernel, by decide +kernel⟩ hR
theorem q_M_beginLoop {R : Room} {s : State} {args : Array Value} (hts : ∀ w ∈ w_M, w.before args s = true) (hR : (rmM 2 42).frames + 1 ≤ R.frames ∧ 8 + (3 + 11) + (rmM 2 42).locals ≤ R.locals) : CallW R s args R_M R_M 334 y_M_beginLoop b_M_beginLoop 3 none (.code y_M_beginLoop b_M_beginLoop 3 none :: w_M) (rmM 2 42) 0 0 1 := q_M 1 hts k_M_34 k_M_213 k_M_214 (hts _ k_M_232) k_M_46 rfl rfl ⟨by decide +kernel, by decide +kernel, by decide +kernel⟩ hR
theorem q_M_step {R : Room} {s : State} {args : Array Value} (hts : ∀ w ∈ w_M, w.before args s = true) (hR : (rmM 6 134).frames + 1 ≤ R.frames ∧ 8 + (7 + 11) + (rmM 6 134).locals ≤ R.locals) : CallW R s args R_M R_M 340 y_M_step b_M_step 7 none (.code y_M_step b_M_step 7 none :: w_M) (rmM 6 134) 0 0 0 := q_M 0 hts k_M_35 k_M_211 k_M_212 (hts _ k_M_259) k_M_46 rfl rfl ⟨by decide +kernel, by decide +kernel, by decide +kernel⟩ hR
theorem q_M_read {R : Room} {s : State} {args : Array Value} (hts : ∀ w ∈ w_M, w.before args s = true) (hR : (rmM 7 160).frames + 1 ≤ R.frames ∧ 8 + (2 + 11) + (rmM 7 160).locals ≤ R.locals) : CallW R s args R_M R_M 343 y_M_read b_M_read 2 none (.code y_M_read b_M_read 2 none :: w_M) (rmM 7 160) 0 0 0 := q_M 0 hts k_M_36 k_M_149 k_M_150 (hts _ k_M_254) k_M_46 rfl rfl ⟨by decide +kernel, by decide +kernel, by decide +kernel⟩ hR
