abbrev StP : Type := List Nat × (Nat → va_E)
def wP (S : StP) : va_W := ([] : va_W) ++ va_pl S.1 S.2
/-- f, but v at every address of l -/
def vr_up {α : Type} (f : Nat → α) (l : List Nat) (v : α) : Nat → α := fun a => if a ∈ l then v else f a
theorem vr_up_in {α : Type} {f : Nat → α} {l : List Nat} {v : α} {a : Nat} (h : a ∈ l) : vr_up f l v a = v := if_pos h
theorem vr_up_ne {α : Type} {f : Nat → α} {l : List Nat} {v : α} {a : Nat} (h : a ∉ l) : vr_up f l v a = f a := if_neg h
theorem vr_rows {L l : List Nat} {f : Nat → va_E} {e : va_E} (h : ∀ a, a ∈ l → a ∉ L) : va_pl L f ++ l.map (fun a => (a, e)) = va_pl (L ++ l) (vr_up f l e) := by
  unfold va_pl
  rw [List.map_append]
  congr 1
  · apply List.map_congr_left
    intro a ha
    rw [vr_up_ne (fun q => h a q ha)]
  · apply List.map_congr_left
    intro a ha
    rw [vr_up_in ha]
theorem vr_lay {X rows : va_W} {x : Nat × va_E} {pl : va_W} {D : va_G} {cl : List vw_C} {H : Heap} (hP : va_P D cl (((X ++ pl) ++ [x]) ++ rows) H) : va_P D cl ((X ++ [x]) ++ (pl ++ rows)) H := by
  rw [List.append_assoc (X ++ pl)] at hP
  have h := va_P.swap hP
  rw [← List.append_assoc X] at h
  have h2 := va_P.swap h
  rw [List.append_assoc (X ++ [x])] at h2
  exact h2
theorem vr_layD {X rows : va_W} {x : Nat × va_E} {pl : va_W} {A : Nat → Prop} (hD : va_D A (((X ++ pl) ++ [x]) ++ rows)) : va_D A ((X ++ [x]) ++ (pl ++ rows)) := by
  rw [List.append_assoc (X ++ pl)] at hD
  have h := va_D.swap hD
  rw [← List.append_assoc X] at h
  have h2 := va_D.swap h
  rw [List.append_assoc (X ++ [x])] at h2
  exact h2
theorem vr_outer (c : ClassId) (N h0 : Nat) : ∀ i : Nat, Jvm.Free.Multi.outerC c N h0 i = arrV c N (fun j => va_rf (if j < i then some (h0 + 1 + j) else none))
  | 0 => by
    show ({ cls := c, slots := Array.replicate N .null, vm := .none } : Cell) = _
    rw [arrV_new]
    refine congrArg (arrV c N) (funext fun j => ?_)
    simp [va_rf]
  | i + 1 => by
    show (Jvm.Free.Multi.outerC c N h0 i).setSlot i (.ref (h0 + 1 + i)) = _
    rw [vr_outer c N h0 i, arrV_store]
    refine congrArg (arrV c N) (funext fun j => ?_)
    by_cases e : j = i
    · subst e
      simp [updV, va_rf]
    · by_cases h : j < i
      · simp [updV, e, h, Nat.lt_succ_of_lt h]
      · simp [updV, e, h, show ¬ j < i + 1 by omega]
section VGM
variable {p : Program} {l : Launch} {e : Env} {R : Room} {s : State} {m : MethodId} {args : Array Value} {below : List Frame} {meth : Method} {c : Code} {H : Heap} {locs : List Loc} {cells slots : Nat} {Q : State → Prop}
variable {cc : ByteArray} {pc : Nat} {ls : Array Slot} {rest : List Value} {D : va_G} {cl : List vw_C} {A : Nat → Prop} {a : Nat} {tys : List (ClassId × FieldType)} {ws : va_W} {H0 : Heap}
theorem va_mna {X : va_W} {L : List Nat} {f : Nat → va_E} {cc : ByteArray} (hexec : p.tables.exec = Jvm.exec) (hb : c.code = cc) {own : String} {index : Nat} {ty : FieldType} {cy : ClassId} (hown : s.vm.findClass own = some m.cls) (hclink : (Cond.classLink own index ("[" ++ (FieldType.array ty).toString)).before args s = true) (hover : (Cond.arrayOver (.array ty)).before args s = true) (harr : (Cond.arrayClass ty).before args s = true) (hcy : s.vm.findClass (FieldType.array ty).toString = some cy)
    (hK : va_K D cl tys s) (hP : va_P D cl (X ++ va_pl L f) H) (hD : va_D A (X ++ va_pl L f)) (hS : va_S A H0 H locs) (hA : ∀ q, H0.size ≤ q → A q) {n k : Int32} {N' K' : Nat} {z : vp_A} (hn : ¬ n < 0) (hk : ¬ k < 0) (hN : n.toNatClampNeg = N') (hM : k.toNatClampNeg = K')
    (hb1 : N' * 4 ≤ 536870912) (hb2 : K' * componentBytes ty ≤ 536870912) (hb3 : K' ≤ 536870912) (hdf : fits ty (defaultValue ty) = true) (hdd : (defaultValue ty).isDefault = true) (hcells : cells + (1 + N') ≤ R.cells) (hslots : slots + (N' + N' * K') ≤ R.slots) (hz : ∀ c : ClassId, Jvm.Free.Multi.innerC c K' (defaultValue ty) = vp_cell c z) (hdg : decode cc pc = .ok (.multianewarray index 2, 4))
    (kk : ∀ (q : Nat) (r : Nat → Nat) (cA : ClassId) (H1 : Heap), (∀ i j : Nat, i < N' → j < N' → r i = r j → i = j) → (∀ i : Nat, i < N' → r i ∉ L) → va_K D cl (tys ++ [(cA, .array ty)]) s →
      va_P D cl ((X ++ [(q, .inl (cA, N', .inr (.inr (.inr (.inr (fun i => if i < N' then some (r i) else none))))))]) ++ va_pl (L ++ (List.range N').map r) (vr_up f ((List.range N').map r) (.inl (cy, z)))) H1 → va_D A ((X ++ [(q, .inl (cA, N', .inr (.inr (.inr (.inr (fun i => if i < N' then some (r i) else none))))))]) ++ va_pl (L ++ (List.range N').map r) (vr_up f ((List.range N').map r) (.inl (cy, z)))) → va_S A H0 H1 locs →
      W p l e R s m args below meth c H1 locs (cells + 1 + N') (slots + N' + N' * K') Q (F0 m (pc + 4) ls (.ref q :: rest))) : W p l e R s m args below meth c H locs cells slots Q (F0 m pc ls (.int k :: .int n :: rest)) := by
  subst hN
  subst hM
  intro T hT Xs
  obtain ⟨vm₁, cA, comp, -, fA, fC, hO, -, X', step⟩ := Xs.multianewarray2F hexec hown hclink hover harr (g := F0 m pc ls (.int k :: .int n :: rest)) rfl (by rw [hb]; exact hdg) rfl hn hk hb1 hb2 hb3 hdf hdd hcells hslots
  have ec : some cy = some comp := hcy.symm.trans fC
  cases ec
  generalize hF : Jvm.Free.Multi.fill (T.setVm vm₁) cA cy n.toNatClampNeg k.toNatClampNeg (defaultValue ty) n.toNatClampNeg = F at X' step
  have hTh : (T.setVm vm₁).heap = H := hT
  obtain ⟨f1, f2, -, -⟩ := Jvm.Free.Multi.fill_facts (T.setVm vm₁) cA cy n.toNatClampNeg k.toNatClampNeg (defaultValue ty) n.toNatClampNeg
  rw [hF, hTh] at f1 f2
  have hold : ∀ x : Nat, x < H.size → F.heap[x]? = H[x]? := fun x hx => by
    have := Jvm.Free.Multi.fill_old (T.setVm vm₁) cA cy n.toNatClampNeg k.toNatClampNeg (defaultValue ty) (a := x) (by rw [hTh]; exact hx) n.toNatClampNeg
    rw [hF, hTh] at this
    exact this
  have hrow : ∀ j : Nat, j < n.toNatClampNeg → F.heap[H.size + 1 + j]? = some (vp_cell cy z) := fun j hj => by
    have := Jvm.Free.Multi.fill_inner (T.setVm vm₁) cA cy n.toNatClampNeg k.toNatClampNeg (defaultValue ty) n.toNatClampNeg j hj
    rw [hF, hTh, hz] at this
    exact this
  have hout : Jvm.Free.Multi.outerC cA n.toNatClampNeg H.size n.toNatClampNeg = vp_cell cA (n.toNatClampNeg, .inr (.inr (.inr (.inr (fun i => if i < n.toNatClampNeg then some (H.size + 1 + i) else none))))) := by
    rw [vp_cell_q]
    exact vr_outer cA n.toNatClampNeg H.size n.toNatClampNeg
  rw [hout] at f2
  have hlt : ∀ a, a ∈ L → a < H.size := fun a ha => by
    obtain ⟨k9, hk9⟩ := va_pl_get (X := X) (f := f) ha
    exact (hP k9 _ hk9).lt
  have hnl : ∀ i : Nat, i < n.toNatClampNeg → H.size + 1 + i ∉ L := fun i _ h => by
    have := hlt _ h
    omega
  have hnm : ∀ a, a ∈ (List.range n.toNatClampNeg).map (fun i => H.size + 1 + i) → a ∉ L := fun a ha h => by
    obtain ⟨i, -, rfl⟩ := List.mem_map.mp ha
    have := hlt _ h
    omega
  have hP0 : va_P D cl (X ++ va_pl L f) F.heap := hP.kept (fun k9 x hx => hold x.1 ((hP k9 x hx).lt))
  have hP1 : va_P D cl ((X ++ va_pl L f) ++ [(H.size, .inl (cA, n.toNatClampNeg, .inr (.inr (.inr (.inr (fun i => if i < n.toNatClampNeg then some (H.size + 1 + i) else none))))))]) F.heap := hP0.app (fun k9 x hx => by
    have h0 : k9 < 1 := (List.getElem?_eq_some_iff.mp hx).1
    rw [show k9 = 0 by omega] at hx
    cases hx
    exact f2)
  have hP2 : va_P D cl (((X ++ va_pl L f) ++ [(H.size, .inl (cA, n.toNatClampNeg, .inr (.inr (.inr (.inr (fun i => if i < n.toNatClampNeg then some (H.size + 1 + i) else none))))))]) ++ ((List.range n.toNatClampNeg).map (fun i => H.size + 1 + i)).map (fun a => (a, .inl (cy, z)))) F.heap := hP1.app (fun k9 x hx => by
    obtain ⟨a, ha, rfl⟩ := List.mem_map.mp (List.mem_of_getElem? hx)
    obtain ⟨i, hi, rfl⟩ := List.mem_map.mp ha
    exact hrow i (List.mem_range.mp hi))
  have hD2 : va_D A (((X ++ va_pl L f) ++ [(H.size, .inl (cA, n.toNatClampNeg, .inr (.inr (.inr (.inr (fun i => if i < n.toNatClampNeg then some (H.size + 1 + i) else none))))))]) ++ ((List.range n.toNatClampNeg).map (fun i => H.size + 1 + i)).map (fun a => (a, .inl (cy, z)))) := by
    have hD1 := hD.push (e := .inl (cA, n.toNatClampNeg, .inr (.inr (.inr (.inr (fun i => if i < n.toNatClampNeg then some (H.size + 1 + i) else none)))))) hP rfl (hA _ hS.1)
    generalize hW1 : (X ++ va_pl L f) ++ [(H.size, .inl (cA, n.toNatClampNeg, .inr (.inr (.inr (.inr (fun i => if i < n.toNatClampNeg then some (H.size + 1 + i) else none))))))] = W1 at hD1 hP1 ⊢
    have hle : ∀ (k9 : Nat) (x : Nat × va_E), W1[k9]? = some x → x.1 ≤ H.size := fun k9 x hx => by
      rw [← hW1] at hx
      by_cases hl : k9 < (X ++ va_pl L f).length
      · rw [List.getElem?_append_left hl] at hx
        exact Nat.le_of_lt ((hP k9 x hx).lt)
      · rw [List.getElem?_append_right (by omega)] at hx
        have h0 : k9 - (X ++ va_pl L f).length < 1 := (List.getElem?_eq_some_iff.mp hx).1
        rw [show k9 - (X ++ va_pl L f).length = 0 by omega] at hx
        cases hx
        exact Nat.le_refl _
    have hr : ∀ (k9 : Nat) (x : Nat × va_E), (((List.range n.toNatClampNeg).map (fun i => H.size + 1 + i)).map (fun a => ((a, .inl (cy, z)) : Nat × va_E)))[k9]? = some x → x.1 = H.size + 1 + k9 := fun k9 x hx => by
      rw [List.getElem?_map, List.getElem?_map] at hx
      by_cases h9 : k9 < n.toNatClampNeg
      · rw [List.getElem?_range h9] at hx
        cases hx
        rfl
      · have hn0 : (List.range n.toNatClampNeg)[k9]? = none := List.getElem?_eq_none (by rw [List.length_range]; omega)
        rw [hn0] at hx
        cases hx
    refine ⟨fun i j x y hi hj hxy => ?_, fun k9 x hx => ?_⟩
    · by_cases h1 : i < W1.length <;> by_cases h2 : j < W1.length
      · rw [List.getElem?_append_left h1] at hi
        rw [List.getElem?_append_left h2] at hj
        exact hD1.1 i j x y hi hj hxy
      · rw [List.getElem?_append_left h1] at hi
        rw [List.getElem?_append_right (by omega)] at hj
        have := hle _ _ hi
        have := hr _ _ hj
        omega
      · rw [List.getElem?_append_right (by omega)] at hi
        rw [List.getElem?_append_left h2] at hj
        have := hle _ _ hj
        have := hr _ _ hi
        omega
      · rw [List.getElem?_append_right (by omega)] at hi hj
        have := hr _ _ hi
        have := hr _ _ hj
        omega
    · by_cases h1 : k9 < W1.length
      · rw [List.getElem?_append_left h1] at hx
        exact hD1.2 k9 x hx
      · rw [List.getElem?_append_right (by omega)] at hx
        have := hr _ _ hx
        exact hA _ (by have := hS.1; omega)
  have hAr : ArrOfT s cA (.array ty) := fun N9 z9 => by
    obtain ⟨-, k9, hk9, cm9, hkk9⟩ := (hO 0 0 0).1
    exact ⟨(fun q hq => by cases hq), k9, hk9, cm9, hkk9⟩
  have hK2 : va_K D cl (tys ++ [(cA, .array ty)]) s := ⟨hK.1, fun k9 x hx => by
    by_cases hl : k9 < tys.length
    · rw [List.getElem?_append_left hl] at hx
      exact hK.2 k9 x hx
    · rw [List.getElem?_append_right (by omega)] at hx
      have h0 : k9 - tys.length < 1 := (List.getElem?_eq_some_iff.mp hx).1
      rw [show k9 - tys.length = 0 by omega] at hx
      cases hx
      exact ⟨hAr, fA⟩⟩
  obtain ⟨t, a1, b1⟩ := kk H.size (fun i => H.size + 1 + i) cA F.heap (fun i j _ _ h => by have h9 : H.size + 1 + i = H.size + 1 + j := h; omega) hnl hK2 (by rw [← vr_rows hnm]; exact vr_lay hP2) (by rw [← vr_rows hnm]; exact vr_layD hD2) ⟨by rw [f1]; have := hS.1; omega, fun x h1 h2 => (hold x (Nat.lt_of_lt_of_le h1 hS.1)).trans (hS.2.1 x h1 h2), hS.2.2⟩ F rfl X'
  refine ⟨t, step t ?_, b1⟩
  have e : T.heap.size = H.size := by rw [hT]
  rw [e]
  exact a1
end VGM
def aoI (U : State) : Prop := (Cond.arrayOver (.array .int)).before #[] U = true
theorem aoI.use {A : Array Value} {U : State} (h : aoI U) : (Cond.arrayOver (.array .int)).before A U = true := h
theorem aoI_spec {U : State} (h : aoI U) : ∃ comp c k, U.vm.findClass (FieldType.array .int).toString = some comp ∧ (U.vm.classes.findIdx? fun x => match x.kind with | .array component _ => component == comp | _ => false) = some c ∧ U.vm.classes[c]? = some k ∧ k.kind = .array comp (.array .int) ∧ U.vm.findClass ("[" ++ (FieldType.array .int).toString) = some c := by
  unfold aoI Cond.before at h
  simp only [Cond.holds, Cond.value, beq_iff_eq] at h
  cases hc : U.vm.findClass (FieldType.array .int).toString with
  | none => simp [hc] at h
  | some comp =>
    simp only [hc, Option.bind_some, Option.bind_eq_some_iff, Option.map_eq_some_iff] at h
    obtain ⟨c, hi, k, hk, hm⟩ := h
    have hki : ∃ ty, k.kind = .array comp ty := by
      obtain ⟨hlt, hp, -⟩ := Array.findIdx?_eq_some_iff_getElem.mp hi
      have hk2 : U.vm.classes[c]'hlt = k := by
        rw [Array.getElem?_eq_getElem hlt] at hk
        exact Option.some.inj hk
      rw [hk2] at hp
      cases hkk : k.kind with
      | array co ty =>
        rw [hkk] at hp
        have hco : co = comp := by simpa using hp
        exact ⟨ty, by rw [hco]⟩
      | _ => rw [hkk] at hp; simp at hp
    obtain ⟨ty, hty⟩ := hki
    rw [hty] at hm
    simp only [Bool.and_eq_true, decide_eq_true_eq] at hm
    exact ⟨comp, c, k, rfl, hi, hk, by rw [hty, hm.1], hm.2⟩
theorem aoI.moved {u U : State} (hvm : u.vm.Alike U.vm) (h : aoI u) : aoI U := by
  obtain ⟨comp, c, k, h1, h2, h3, h4, h5⟩ := aoI_spec h
  obtain ⟨k', hk', he⟩ := hvm.2.2 _ _ h3
  have hbr : U.vm.bare = u.vm.bare := by first | exact hvm.bare_eq | exact hvm.bare_eq.symm
  have hi : (U.vm.classes.findIdx? fun (x : Class) => match x.kind with | .array component _ => component == comp | _ => false) = some c := (va_idx_bare U.vm comp).symm.trans ((congrArg (fun v : Vm => v.classes.findIdx? fun (x : Class) => match x.kind with | .array component _ => component == comp | _ => false) hbr).trans ((va_idx_bare u.vm comp).trans h2))
  have hkind : k'.kind = .array comp (.array .int) := by rw [he]; exact h4
  have f1 : U.vm.findClass (FieldType.array .int).toString = some comp := by rw [hvm.findClass]; exact h1
  have f2 : U.vm.findClass ("[" ++ (FieldType.array .int).toString) = some c := by rw [hvm.findClass]; exact h5
  unfold aoI Cond.before Cond.holds
  simp only [Cond.value]
  rw [f1, Option.bind_some]
  refine (congrArg (fun o : Option Nat => (o.bind (fun c => (U.vm.classes[c]?).map fun (k : Class) => match k.kind with | .array _ ty => decide (ty = FieldType.array .int) && decide (U.vm.findClass ("[" ++ (FieldType.array .int).toString) = some c) | _ => false) == some true)) hi).trans ?_
  simp [hk', hkind, f2]
def CF (g : Gm) (A : Nat → Prop) (U : State) (H : Heap) : Prop := NW g U ∧ va_Z "java/lang/String" "COMPACT_STRINGS" "Z" (.int 1) A U H ∧ va_AO "WordSmith$MadeWord" U ∧ va_AO "WordSmith$Call" U ∧ va_AO "WordSmith$BuiltIn" U ∧ aoI U
def AP (sz : Nat) (S : StP) : Nat → Prop := va_A (wP S) sz
def PP (g : Gm) (sz : Nat) (S : StP) : State → Prop := fun U => U.heap.size = sz ∧ va_P g.1 classes (wP S) U.heap ∧ va_K g.1 classes (tysC g) U ∧ va_D (fun _ => True) (wP S) ∧ CF g (AP sz S) U U.heap
def BP (g : Gm) (A : Nat → Prop) : StP → State → Prop := fun S t => va_P g.1 classes (wP S) t.heap ∧ va_K g.1 classes (tysC g) t ∧ va_D A (wP S)
theorem PP_blind {av : List Value} {g : Gm} {sz : Nat} {S : StP} : FrameBlind (va_Pc av (PP g sz S)) := fun a U g0 mk q => by
  obtain ⟨q0, q1, qP, qK, qD, qN, qZ, a1, a2, a3, a4⟩ := q
  have r : U.vm.Alike (U.calling g0 mk a).vm := Vm.Alike.refl U.vm
  exact ⟨q0, q1, qP, va_K.moved (u := U) (U := U.calling g0 mk a) r qK, qD, NW.same (u := U) (U := U.calling g0 mk a) rfl qN, qZ.moved r, a1.moved r, a2.moved r, a3.moved r, a4.moved r⟩
set_option maxHeartbeats 4000000 in
theorem ofP_v {l : Launch} {g : Gm} {sz : Nat} {S : StP} {y : MethodName} {cc : ByteArray} {maxL f n mc ms : Nat} {post : StP → Prop} {av : List Value} (hy : plainName y.cls = true) (hlen : (lg_sl av).length ≤ maxL)
    (body : ∀ (p : Program) (e : Env) (s : State) (m : MethodId) (args : Array Value) (below : List Frame) (meth : Method) (c : Code) (Q : State → Prop) (A : Nat → Prop) (H : Heap) (locs : List Loc) (ls : Array Slot), p.tables.exec = Jvm.exec → c.code = cc → c.maxLocals = maxL → (∀ w ∈ w_C, w.before args s = true) → s.vm.findClass y.cls = some m.cls → va_K g.1 classes (tysC g) s → (∀ q : Nat, s.heap.size ≤ q → A q) → CF g A s s.heap → NW g s → meth.name = y.name →
      (∀ (S' : StP) (H : Heap) (locs : List Loc) (pc : Nat) (ls : Array Slot) (c0 z0 : Nat), c0 ≤ mc → z0 ≤ ms → post S' → va_P g.1 classes (wP S') H → va_D A (wP S') → va_S A s.heap H locs → decode cc pc = .ok (.return_, 1) → W p l e (rmA f n mc ms) s m args below meth c H locs c0 z0 Q (F0 m pc ls [])) →
      lv_has ls maxL (lv_args 0 av) → va_P g.1 classes (wP S) H → va_D A (wP S) → va_S A s.heap H locs → W p l e (rmA f n mc ms) s m args below meth c H locs 0 0 Q (F0 m 0 ls [])) :
    Met l y (.code y cc maxL none :: w_C) (rmA f n mc ms) (va_Pc av (PP g sz S)) (va_Qv post (BP g (AP sz S)) (AP sz S)) mc ms (AP sz S) := by
  refine Met.ofW (cc := cc) (maxL := maxL) (ret := none) hy rfl ?_
  intro p e s m args below meth c s₁ B hml hv
  obtain ⟨rfl, hsz, hP, hK, hD0, hCF⟩ := hv
  subst hsz
  have hts := atoms_spec (ws := .code y cc maxL none :: w_C) B.pre
  have hlk := B.notSynchronized
  have hD : va_D (AP s.heap.size S) (wP S) := hD0.self
  have hl := lv_entry av (n := maxL) hlen
  rw [lg_entry_eq]
  refine body p e s m _ below meth c _ (AP s.heap.size S) s.heap [] _ B.exec B.bytes hml (fun w h => hts w (List.mem_cons_of_mem _ h)) (findClass_of_methodNamed B.named) hK (fun q h => Or.inr h) hCF hCF.1 (name_of_methodNamed B.named B.method).1 ?_ hl hP hD va_S.rf
  intro S' H locs pc ls c0 z0 hc0 hz0 hp hP hD hS hd
  refine W.widen hc0 hz0 ?_
  exact W.vret B.exec B.bytes B.returns (fun t ht hW => ⟨⟨S', rfl, hp, by rw [ht]; exact hP, va_K.moved hW.alike hK, hD⟩, hS.F ht⟩) hS.2.2 hd
theorem same_obj {D : va_G} {cl : List vw_C} {tys : List (ClassId × FieldType)} {U : State} {C : String} (hK : va_K D cl tys U) (i j : Nat) {a b : ClassId} (hi : tys[i]? = some (a, .object C)) (hj : tys[j]? = some (b, .object C)) : a = b := by
  obtain ⟨kA, co, h1, h2, h3, h4⟩ := (hK.2 i _ hi).2
  obtain ⟨kB, cq, e1, e2, e3, e4⟩ := (hK.2 j _ hj).2
  exact Option.some.inj (h4.symm.trans e4)
theorem same_arr {D : va_G} {cl : List vw_C} {tys : List (ClassId × FieldType)} {U : State} {t : FieldType} (hK : va_K D cl tys U) (i j : Nat) {a b : ClassId} (hi : tys[i]? = some (a, .array t)) (hj : tys[j]? = some (b, .array t)) : a = b := Option.some.inj (((hK.2 i _ hi).2 : U.vm.findClass _ = some a).symm.trans ((hK.2 j _ hj).2 : U.vm.findClass _ = some b))
theorem push_P {S : StP} {q : Nat} {e : va_E} (h : q ∉ S.1) : wP S ++ [(q, e)] = wP (S.1 ++ [q], va_up S.2 q e) := by
  show (([] : va_W) ++ va_pl S.1 S.2) ++ [(q, e)] = ([] : va_W) ++ va_pl (S.1 ++ [q]) (va_up S.2 q e)
  rw [List.append_assoc, va_pl_push h]
section
variable {p : Program} {l : Launch} {e : Env} {R : Room} {s : State} {m : MethodId} {args : Array Value} {below : List Frame} {meth : Method} {c : Code} {H : Heap} {locs : List Loc} {cells slots : Nat} {Q : State → Prop} {cc : ByteArray} {pc idx : Nat} {ls : Array Slot} {rest : List Value} {A : Nat → Prop} {H0 : Heap} {g : Gm} {S S2 : StP}
theorem pg_P {C own : String} {F : u_T} {N ci a : Nat} {vs : List Value} {v : Value} (hx : p.tables.exec = Jvm.exec) (hb : c.code = cc) (hts : ∀ w ∈ w_C, w.before args s = true) (hin : ∀ w ∈ u_ws C F N, w ∈ w_C) (hown : s.vm.findClass own = some m.cls) (hK : va_K g.1 classes (tysC g) s) (hP : va_P g.1 classes (wP S) H) (ha : a ∈ S.1) (hf : S.2 a = .inr (ci, vs)) (hc : classes[ci]? = some (C, F, N)) (k : Nat) (hk : k < N) (hv : vs[k]? = some v) (hlink : Cond.fieldLink own idx (F k).1 (F k).2.1 (F k).2.2.1 ∈ w_C) (hdg : decode cc pc = .ok (.getfield idx, 3))
    (kk : W p l e R s m args below meth c H locs cells slots Q (F0 m (pc + 3) ls (v :: rest))) : W p l e R s m args below meth c H locs cells slots Q (F0 m pc ls (.ref a :: rest)) := by
  obtain ⟨q0, hq⟩ := va_pl_get (X := ([] : va_W)) (f := S.2) ha
  rw [hf] at hq
  exact va_get (D := g.1) (ci := ci) (C := C) (T := F) (N := N) hx hb hts hin hown hK hP q0 hq hc k hk (hts _ hlink) (fun _ h9 => h9) hv hdg kk
theorem pp_P {C own : String} {F : u_T} {N ci a : Nat} {vs : List Value} {v : Value} (hx : p.tables.exec = Jvm.exec) (hb : c.code = cc) (hts : ∀ w ∈ w_C, w.before args s = true) (hin : ∀ w ∈ u_ws C F N, w ∈ w_C) (ty : Nat → FieldType) (hty : ∀ k, k < N → parseFieldDescriptor (F k).2.2.1 = some (ty k)) (hnm : ∀ a, a < N → ∀ b, b < N → a ≠ b → (F a).2.1 ≠ (F b).2.1) (hown : s.vm.findClass own = some m.cls) (hK : va_K g.1 classes (tysC g) s) (hP : va_P g.1 classes (wP S) H) (hD : va_D A (wP S)) (hS : va_S A H0 H locs) (ha : a ∈ S.1) (hf : S.2 a = .inr (ci, vs)) (hc : classes[ci]? = some (C, F, N)) (k : Nat) (hk : k < N) (hfin : (F k).2.2.2 = false) (hn : narrow (ty k) v = v) (hfit : fits (ty k) v = true) (hl : k < vs.length) (hlink : Cond.fieldLink own idx (F k).1 (F k).2.1 (F k).2.2.1 ∈ w_C) (hdg : decode cc pc = .ok (.putfield idx, 3))
    (kk : ∀ (H1 : Heap) (locs1 : List Loc), va_P g.1 classes (wP (S.1, va_up S.2 a (.inr (ci, vs.set k v)))) H1 → va_D A (wP (S.1, va_up S.2 a (.inr (ci, vs.set k v)))) → va_S A H0 H1 locs1 → W p l e R s m args below meth c H1 locs1 cells slots Q (F0 m (pc + 3) ls rest)) : W p l e R s m args below meth c H locs cells slots Q (F0 m pc ls (v :: .ref a :: rest)) := by
  obtain ⟨q0, hq⟩ := va_pl_get (X := ([] : va_W)) (f := S.2) ha
  have hset := fun e9 => va_pl_set (e := e9) hD ha hq
  rw [hf] at hq
  refine va_put (D := g.1) (ci := ci) (C := C) (T := F) (N := N) hx hb hts hin ty hty hnm hown hK hP hD hS q0 hq hc k hk (hts _ hlink) (fun _ h9 => h9) hfin (hty k hk) hn hfit hl hdg (fun H1 locs1 h1 h2 h3 => ?_)
  have e1 : (wP S).set q0 (a, .inr (ci, vs.set k v)) = wP (S.1, va_up S.2 a (.inr (ci, vs.set k v))) := hset _
  rw [e1] at h1 h2
  exact kk H1 locs1 h1 h2 h3
theorem pis_P {a n : Nat} {f : Nat → Int32} {i x : Int32} (hx : p.tables.exec = Jvm.exec) (hb : c.code = cc) (hK : va_K g.1 classes (tysC g) s) (hP : va_P g.1 classes (wP S) H) (hD : va_D A (wP S)) (hS : va_S A H0 H locs) (ha : a ∈ S.1) (hf : S.2 a = .inl (g.2.1 0, n, .inl f)) (hi : vp_in i n) (hdg : decode cc pc = .ok (.iastore, 1))
    (kk : ∀ (H1 : Heap) (locs1 : List Loc), va_P g.1 classes (wP (S.1, va_up S.2 a (.inl (g.2.1 0, n, .inl (upd f i.toNatClampNeg x))))) H1 → va_D A (wP (S.1, va_up S.2 a (.inl (g.2.1 0, n, .inl (upd f i.toNatClampNeg x))))) → va_S A H0 H1 locs1 → W p l e R s m args below meth c H1 locs1 cells slots Q (F0 m (pc + 1) ls rest)) : W p l e R s m args below meth c H locs cells slots Q (F0 m pc ls (.int x :: .int i :: .ref a :: rest)) := by
  obtain ⟨q0, hq⟩ := va_pl_get (X := ([] : va_W)) (f := S.2) ha
  have hset := fun e9 => va_pl_set (e := e9) hD ha hq
  rw [hf] at hq
  refine va_iast hx hb hK hP hD hS q0 0 hq rfl hi hdg (fun H1 locs1 h1 h2 h3 => ?_)
  have e1 : (wP S).set q0 (a, .inl (g.2.1 0, n, .inl (upd f i.toNatClampNeg x))) = wP (S.1, va_up S.2 a (.inl (g.2.1 0, n, .inl (upd f i.toNatClampNeg x)))) := hset _
  rw [e1] at h1 h2
  exact kk H1 locs1 h1 h2 h3
theorem pn_P {C own : String} {F : u_T} {N ci : Nat} {fs : List Value} (hx : p.tables.exec = Jvm.exec) (hb : c.code = cc) (hts : ∀ w ∈ w_C, w.before args s = true) (hin : ∀ w ∈ u_ws C F N, w ∈ w_C) (ty : Nat → FieldType) (hty : ∀ k, k < N → parseFieldDescriptor (F k).2.2.1 = some (ty k)) (hown : s.vm.findClass own = some m.cls) (hcl : Cond.classLink own idx C ∈ w_C) (hinst : Cond.instantiable C N ∈ w_C) (hini : Cond.initialized C ∈ w_C) (hK : va_K g.1 classes (tysC g) s) (hP : va_P g.1 classes (wP S) H) (hD : va_D A (wP S)) (hS : va_S A H0 H locs) (hA : ∀ q : Nat, H0.size ≤ q → A q) (hc : classes[ci]? = some (C, F, N)) (hfs : ∀ j, j < N → defaultValue (ty j) = vp_V fs j) (hcells : cells + 1 ≤ R.cells) (hslots : slots + N ≤ R.slots) (hdg : decode cc pc = .ok (.new idx, 3))
    (kk : ∀ (q : Nat) (H1 : Heap), q ∉ S.1 → va_P g.1 classes (wP (S.1 ++ [q], va_up S.2 q (.inr (ci, fs)))) H1 → va_D A (wP (S.1 ++ [q], va_up S.2 q (.inr (ci, fs)))) → va_S A H0 H1 locs → W p l e R s m args below meth c H1 locs (cells + 1) (slots + N) Q (F0 m (pc + 3) ls (.ref q :: rest))) : W p l e R s m args below meth c H locs cells slots Q (F0 m pc ls rest) := by
  refine va_new (D := g.1) (ci := ci) (fs := fs) (C := C) (T := F) (N := N) hx hb hts hin ty hty hown (hts _ hcl) (hts _ hinst) (hts _ hini) hK hP hD hS hA hc hfs hcells hslots hdg (fun q H1 h1 h2 h3 => ?_)
  have hq : q ∉ S.1 := va_pl_fresh2 (X := ([] : va_W)) (f := S.2) h2
  rw [push_P hq] at h1 h2
  exact kk q H1 hq h1 h2 h3
theorem pnb_P {n : Int32} (hx : p.tables.exec = Jvm.exec) (hb : c.code = cc) (hts : ∀ w ∈ w_C, w.before args s = true) (harr : Cond.arrayClass .byte ∈ w_C) (hK : va_K g.1 classes (tysC g) s) (hP : va_P g.1 classes (wP S) H) (hD : va_D A (wP S)) (hS : va_S A H0 H locs) (hA : ∀ q : Nat, H0.size ≤ q → A q) (hn : ¬ n < 0) (hbytes : n.toNatClampNeg * 1 ≤ 536870912) (hcells : cells + 1 ≤ R.cells) (hslots : slots + n.toNatClampNeg ≤ R.slots) (hdg : decode cc pc = .ok (.newarray .byte, 2))
    (kk : ∀ (q : Nat) (H1 : Heap), q ∉ S.1 → va_P g.1 classes (wP (S.1 ++ [q], va_up S.2 q (.inl (g.2.1 3, n.toNatClampNeg, .inl (fun _ => 0))))) H1 → va_D A (wP (S.1 ++ [q], va_up S.2 q (.inl (g.2.1 3, n.toNatClampNeg, .inl (fun _ => 0))))) → va_S A H0 H1 locs → W p l e R s m args below meth c H1 locs (cells + 1) (slots + n.toNatClampNeg) Q (F0 m (pc + 2) ls (.ref q :: rest))) : W p l e R s m args below meth c H locs cells slots Q (F0 m pc ls (.int n :: rest)) := by
  refine va_newa (atype := .byte) (ty := .byte) (N' := n.toNatClampNeg) (a0 := (n.toNatClampNeg, .inl (fun _ => 0))) hx hb (hts _ harr) rfl hK hP hD hS hA (fun _ => rfl) hn rfl hbytes hcells hslots hdg (fun q cA H1 hK1 h1 h2 h3 => ?_)
  obtain rfl : g.2.1 3 = cA := same_byte hK1 2 7 rfl rfl
  have hq : q ∉ S.1 := va_pl_fresh2 (X := ([] : va_W)) (f := S.2) h2
  rw [push_P hq] at h1 h2
  exact kk q H1 hq h1 h2 h3
theorem pni_P {n : Int32} (hx : p.tables.exec = Jvm.exec) (hb : c.code = cc) (hts : ∀ w ∈ w_C, w.before args s = true) (harr : Cond.arrayClass .int ∈ w_C) (hK : va_K g.1 classes (tysC g) s) (hP : va_P g.1 classes (wP S) H) (hD : va_D A (wP S)) (hS : va_S A H0 H locs) (hA : ∀ q : Nat, H0.size ≤ q → A q) (hn : ¬ n < 0) (hbytes : n.toNatClampNeg * 4 ≤ 536870912) (hcells : cells + 1 ≤ R.cells) (hslots : slots + n.toNatClampNeg ≤ R.slots) (hdg : decode cc pc = .ok (.newarray .int, 2))
    (kk : ∀ (q : Nat) (H1 : Heap), q ∉ S.1 → va_P g.1 classes (wP (S.1 ++ [q], va_up S.2 q (.inl (g.2.1 0, n.toNatClampNeg, .inl (fun _ => 0))))) H1 → va_D A (wP (S.1 ++ [q], va_up S.2 q (.inl (g.2.1 0, n.toNatClampNeg, .inl (fun _ => 0))))) → va_S A H0 H1 locs → W p l e R s m args below meth c H1 locs (cells + 1) (slots + n.toNatClampNeg) Q (F0 m (pc + 2) ls (.ref q :: rest))) : W p l e R s m args below meth c H locs cells slots Q (F0 m pc ls (.int n :: rest)) := by
  refine va_newa (atype := .int) (ty := .int) (N' := n.toNatClampNeg) (a0 := (n.toNatClampNeg, .inl (fun _ => 0))) hx hb (hts _ harr) rfl hK hP hD hS hA (fun _ => rfl) hn rfl hbytes hcells hslots hdg (fun q cA H1 hK1 h1 h2 h3 => ?_)
  obtain rfl : g.2.1 0 = cA := same_int hK1 0 7 rfl rfl
  have hq : q ∉ S.1 := va_pl_fresh2 (X := ([] : va_W)) (f := S.2) h2
  rw [push_P hq] at h1 h2
  exact kk q H1 hq h1 h2 h3
theorem ppF_P {C own : String} {F : u_T} {N ci a : Nat} {vs : List Value} {v : Value} (hx : p.tables.exec = Jvm.exec) (hb : c.code = cc) (hts : ∀ w ∈ w_C, w.before args s = true) (hin : ∀ w ∈ u_ws C F N, w ∈ w_C) (ty : Nat → FieldType) (hty : ∀ k, k < N → parseFieldDescriptor (F k).2.2.1 = some (ty k)) (hnm : ∀ a, a < N → ∀ b, b < N → a ≠ b → (F a).2.1 ≠ (F b).2.1) (hown : s.vm.findClass own = some m.cls) (hK : va_K g.1 classes (tysC g) s) (hP : va_P g.1 classes (wP S) H) (hD : va_D A (wP S)) (hS : va_S A H0 H locs) (ha : a ∈ S.1) (hf : S.2 a = .inr (ci, vs)) (hc : classes[ci]? = some (C, F, N)) (k : Nat) (hk : k < N) (hfin : (F k).2.2.2 = true) (hmn : meth.name = "<init>") (hdecl : (F k).1 = own) (hn : narrow (ty k) v = v) (hfit : fits (ty k) v = true) (hl : k < vs.length) (hlink : Cond.fieldLink own idx (F k).1 (F k).2.1 (F k).2.2.1 ∈ w_C) (hdg : decode cc pc = .ok (.putfield idx, 3))
    (kk : ∀ (H1 : Heap) (locs1 : List Loc), va_P g.1 classes (wP (S.1, va_up S.2 a (.inr (ci, vs.set k v)))) H1 → va_D A (wP (S.1, va_up S.2 a (.inr (ci, vs.set k v)))) → va_S A H0 H1 locs1 → W p l e R s m args below meth c H1 locs1 cells slots Q (F0 m (pc + 3) ls rest)) : W p l e R s m args below meth c H locs cells slots Q (F0 m pc ls (v :: .ref a :: rest)) := by
  obtain ⟨q0, hq⟩ := va_pl_get (X := ([] : va_W)) (f := S.2) ha
  have hset := fun e9 => va_pl_set (e := e9) hD ha hq
  rw [hf] at hq
  refine va_putF (D := g.1) (ci := ci) (C := C) (T := F) (N := N) hx hb hts hin ty hty hnm hown hK hP hD hS q0 hq hc k hk (hts _ hlink) (fun _ h9 => h9) hfin hmn hdecl (hty k hk) hn hfit hl hdg (fun H1 locs1 h1 h2 h3 => ?_)
  have e1 : (wP S).set q0 (a, .inr (ci, vs.set k v)) = wP (S.1, va_up S.2 a (.inr (ci, vs.set k v))) := hset _
  rw [e1] at h1 h2
  exact kk H1 locs1 h1 h2 h3
theorem pnz_P {n : Int32} (hx : p.tables.exec = Jvm.exec) (hb : c.code = cc) (hts : ∀ w ∈ w_C, w.before args s = true) (harr : Cond.arrayClass .boolean ∈ w_C) (hK : va_K g.1 classes (tysC g) s) (hP : va_P g.1 classes (wP S) H) (hD : va_D A (wP S)) (hS : va_S A H0 H locs) (hA : ∀ q : Nat, H0.size ≤ q → A q) (hn : ¬ n < 0) (hbytes : n.toNatClampNeg * 1 ≤ 536870912) (hcells : cells + 1 ≤ R.cells) (hslots : slots + n.toNatClampNeg ≤ R.slots) (hdg : decode cc pc = .ok (.newarray .boolean, 2))
    (kk : ∀ (q : Nat) (H1 : Heap), q ∉ S.1 → va_P g.1 classes (wP (S.1 ++ [q], va_up S.2 q (.inl (g.2.1 1, n.toNatClampNeg, .inl (fun _ => 0))))) H1 → va_D A (wP (S.1 ++ [q], va_up S.2 q (.inl (g.2.1 1, n.toNatClampNeg, .inl (fun _ => 0))))) → va_S A H0 H1 locs → W p l e R s m args below meth c H1 locs (cells + 1) (slots + n.toNatClampNeg) Q (F0 m (pc + 2) ls (.ref q :: rest))) : W p l e R s m args below meth c H locs cells slots Q (F0 m pc ls (.int n :: rest)) := by
  refine va_newa (atype := .boolean) (ty := .boolean) (N' := n.toNatClampNeg) (a0 := (n.toNatClampNeg, .inl (fun _ => 0))) hx hb (hts _ harr) rfl hK hP hD hS hA (fun _ => rfl) hn rfl hbytes hcells hslots hdg (fun q cA H1 hK1 h1 h2 h3 => ?_)
  obtain rfl : g.2.1 1 = cA := same_boolean hK1 1 7 rfl rfl
  have hq : q ∉ S.1 := va_pl_fresh2 (X := ([] : va_W)) (f := S.2) h2
  rw [push_P hq] at h1 h2
  exact kk q H1 hq h1 h2 h3
theorem pnq_P {C own : String} {n : Int32} {j t0 : Nat} (hx : p.tables.exec = Jvm.exec) (hb : c.code = cc) (hts : ∀ w ∈ w_C, w.before args s = true) (hown : s.vm.findClass own = some m.cls) (hcl : Cond.classLink own idx C ∈ w_C) (hover : va_AO C s) (ht : (tysC g)[t0]? = some (g.2.1 j, .object C)) (hK : va_K g.1 classes (tysC g) s) (hP : va_P g.1 classes (wP S) H) (hD : va_D A (wP S)) (hS : va_S A H0 H locs) (hA : ∀ q : Nat, H0.size ≤ q → A q) (hn : ¬ n < 0) (hbytes : n.toNatClampNeg * 4 ≤ 536870912) (hcells : cells + 1 ≤ R.cells) (hslots : slots + n.toNatClampNeg ≤ R.slots) (hdg : decode cc pc = .ok (.anewarray idx, 3))
    (kk : ∀ (q : Nat) (H1 : Heap), q ∉ S.1 → va_P g.1 classes (wP (S.1 ++ [q], va_up S.2 q (.inl (g.2.1 j, n.toNatClampNeg, .inr (.inr (.inr (.inr (fun _ => none)))))))) H1 → va_D A (wP (S.1 ++ [q], va_up S.2 q (.inl (g.2.1 j, n.toNatClampNeg, .inr (.inr (.inr (.inr (fun _ => none)))))))) → va_S A H0 H1 locs → W p l e R s m args below meth c H1 locs (cells + 1) (slots + n.toNatClampNeg) Q (F0 m (pc + 3) ls (.ref q :: rest))) : W p l e R s m args below meth c H locs cells slots Q (F0 m pc ls (.int n :: rest)) := by
  refine va_newq (N' := n.toNatClampNeg) hx hb hown (hts _ hcl) hover hK hP hD hS hA hn rfl hbytes hcells hslots hdg (fun q cA H1 hK1 h1 h2 h3 => ?_)
  have ht1 : (tysC g ++ [(cA, .object C)])[t0]? = some (g.2.1 j, .object C) := by
    rw [List.getElem?_append_left (List.getElem?_eq_some_iff.mp ht).1]
    exact ht
  obtain rfl : g.2.1 j = cA := same_obj hK1 t0 7 ht1 rfl
  have hq : q ∉ S.1 := va_pl_fresh2 (X := ([] : va_W)) (f := S.2) h2
  rw [push_P hq] at h1 h2
  exact kk q H1 hq h1 h2 h3
theorem mna_P {own : String} (hx : p.tables.exec = Jvm.exec) (hb : c.code = cc) (hts : ∀ w ∈ w_C, w.before args s = true) (hown : s.vm.findClass own = some m.cls) (hcl : Cond.classLink own idx "[[I" ∈ w_C) (hover : aoI s) (harr : Cond.arrayClass .int ∈ w_C) (hK : va_K g.1 classes (tysC g) s) (hP : va_P g.1 classes (wP S) H) (hD : va_D A (wP S)) (hS : va_S A H0 H locs) (hA : ∀ q : Nat, H0.size ≤ q → A q) (hcells : cells + 5 ≤ R.cells) (hslots : slots + 68 ≤ R.slots) (hdg : decode cc pc = .ok (.multianewarray idx 2, 4))
    (kk : ∀ (q : Nat) (r : Nat → Nat) (H1 : Heap), (∀ i j : Nat, i < 4 → j < 4 → r i = r j → i = j) → (∀ i : Nat, i < 4 → r i ∉ S.1) → q ∉ S.1 ++ (List.range 4).map r → va_P g.1 classes (wP ((S.1 ++ (List.range 4).map r) ++ [q], va_up (vr_up S.2 ((List.range 4).map r) (.inl (g.2.1 0, 16, .inl (fun _ => 0)))) q (.inl (g.2.1 7, 4, .inr (.inr (.inr (.inr (fun i => if i < 4 then some (r i) else none)))))))) H1 → va_D A (wP ((S.1 ++ (List.range 4).map r) ++ [q], va_up (vr_up S.2 ((List.range 4).map r) (.inl (g.2.1 0, 16, .inl (fun _ => 0)))) q (.inl (g.2.1 7, 4, .inr (.inr (.inr (.inr (fun i => if i < 4 then some (r i) else none)))))))) → va_S A H0 H1 locs → W p l e R s m args below meth c H1 locs (cells + 5) (slots + 68) Q (F0 m (pc + 4) ls (.ref q :: rest))) : W p l e R s m args below meth c H locs cells slots Q (F0 m pc ls (.int 16 :: .int 4 :: rest)) := by
  refine va_mna (ty := .int) (cy := g.2.1 0) (X := ([] : va_W)) (L := S.1) (f := S.2) (N' := 4) (K' := 16) (z := (16, .inl (fun _ => 0))) hx hb hown (hts _ hcl) hover.use (hts _ harr) ((hK.2 0 _ rfl).2) hK hP hD hS hA (by decide) (by decide) (by decide) (by decide) (by decide) (by decide) (by decide) rfl rfl hcells hslots (fun _ => arrV_new _ _ _) hdg (fun q r cA H1 hr hn hK1 h1 h2 h3 => ?_)
  obtain rfl : g.2.1 7 = cA := same_arr hK1 6 7 rfl rfl
  have h1 := va_P.swap (a := ([] : va_W)) h1
  have h2 := va_D.swap (a := ([] : va_W)) h2
  have hq : q ∉ S.1 ++ (List.range 4).map r := va_pl_fresh2 (X := ([] : va_W)) h2
  have e1 := push_P (S := (S.1 ++ (List.range 4).map r, vr_up S.2 ((List.range 4).map r) (.inl (g.2.1 0, 16, .inl (fun _ => 0))))) (q := q) (e := (.inl (g.2.1 7, 4, .inr (.inr (.inr (.inr (fun i => if i < 4 then some (r i) else none))))))) hq
  have h1 := e1 ▸ h1
  have h2 := e1 ▸ h2
  exact kk q r H1 hr hn hq h1 h2 h3
theorem paq_P {a n v : Nat} {f : Nat → Option Nat} {vs : List Value} {i : Int32} (hx : p.tables.exec = Jvm.exec) (hb : c.code = cc) (hK : va_K g.1 classes (tysC g) s) (hP : va_P g.1 classes (wP S) H) (hD : va_D A (wP S)) (hS : va_S A H0 H locs) (ha : a ∈ S.1) (hf : S.2 a = .inl (g.2.1 5, n, .inr (.inr (.inr (.inr f))))) (ha2 : v ∈ S.1) (hf2 : S.2 v = .inr (9, vs)) (hi : vp_in i n) (hdg : decode cc pc = .ok (.aastore, 1))
    (kk : ∀ (H1 : Heap) (locs1 : List Loc), va_P g.1 classes (wP (S.1, va_up S.2 a (.inl (g.2.1 5, n, .inr (.inr (.inr (.inr (va_up f i.toNatClampNeg (some v))))))))) H1 → va_D A (wP (S.1, va_up S.2 a (.inl (g.2.1 5, n, .inr (.inr (.inr (.inr (va_up f i.toNatClampNeg (some v))))))))) → va_S A H0 H1 locs1 → W p l e R s m args below meth c H1 locs1 cells slots Q (F0 m (pc + 1) ls rest)) : W p l e R s m args below meth c H locs cells slots Q (F0 m pc ls (.ref v :: .int i :: .ref a :: rest)) := by
  obtain ⟨q0, hq⟩ := va_pl_get (X := ([] : va_W)) (f := S.2) ha
  obtain ⟨q1, hq1⟩ := va_pl_get (X := ([] : va_W)) (f := S.2) ha2
  have hset := fun e9 => va_pl_set (e := e9) hD ha hq
  rw [hf] at hq
  rw [hf2] at hq1
  refine va_astq (r := (R_Ca, F_Ca, 5)) hx hb hK hP hD hS q0 4 q1 9 hq rfl hq1 rfl hi hdg (fun H1 locs1 h1 h2 h3 => ?_)
  have e1 : (wP S).set q0 (a, .inl (g.2.1 5, n, .inr (.inr (.inr (.inr (va_up f i.toNatClampNeg (some v))))))) = wP (S.1, va_up S.2 a (.inl (g.2.1 5, n, .inr (.inr (.inr (.inr (va_up f i.toNatClampNeg (some v)))))))) := hset _
  rw [e1] at h1 h2
  exact kk H1 locs1 h1 h2 h3
theorem free_P (hD : va_D A (wP S)) (hS : va_S A H0 H locs) (hA : ∀ q : Nat, H0.size ≤ q → A q) : ∀ q, AP H.size S q → A q := by
  intro q hq
  rcases hq with ⟨k, e9, hk⟩ | h
  · exact hD.2 k _ hk
  · exact hA q (Nat.le_trans hS.1 h)
theorem pre_P {av : List Value} (hK : va_K g.1 classes (tysC g) s) (hC : CF g A s s.heap) (hP : va_P g.1 classes (wP S) H) (hD : va_D A (wP S)) (hS : va_S A s.heap H locs) (hA : ∀ q : Nat, s.heap.size ≤ q → A q) : ∀ U : State, U.heap = H → s.WarmedH U.vm → va_Pc av (PP g H.size S) av.toArray U :=
  fun U hU hW => ⟨rfl, by rw [hU], by rw [hU]; exact hP, va_K.moved hW.alike hK, hD.weaken (fun _ _ _ _ => trivial), hC.1.warm hW, by rw [hU]; exact ((hC.2.1.kept hS.2.1).narrow (free_P hD hS hA)).moved hW.alike, hC.2.2.1.moved hW.alike, hC.2.2.2.1.moved hW.alike, hC.2.2.2.2.1.moved hW.alike, hC.2.2.2.2.2.moved hW.alike⟩
theorem cP_vI {own : String} {y : MethodName} {bytes : ByteArray} {a maxL nL n mc1 ms1 : Nat} {rm : Room} {post : StP → Prop} {As st0 : List Value} (hx : p.tables.exec = Jvm.exec) (hb : c.code = cc) (hml : c.maxLocals = nL) (hown : s.vm.findClass own = some m.cls) (hts : ∀ w ∈ w_C, w.before args s = true) (hK : va_K g.1 classes (tysC g) s) (hC : CF g A s s.heap) (hP : va_P g.1 classes (wP S) H) (hD : va_D A (wP S)) (hS : va_S A s.heap H locs) (hA : ∀ q : Nat, s.heap.size ≤ q → A q) (hcl : cells + mc1 ≤ R.cells) (hsl : slots + ms1 ≤ R.slots) (hsz : ls.size = nL)
    (cw : CallB R s args own idx y bytes maxL none (.code y bytes maxL none :: w_C) rm mc1 ms1 n ∧ y.name = "<init>" ∧ (Cond.instanceMethod y).before args s = true) (hM : Met l y (.code y bytes maxL none :: w_C) rm (va_Pc (.ref a :: As) (PP g H.size S)) (va_Qv post (BP g (AP H.size S)) (AP H.size S)) mc1 ms1 (AP H.size S)) (hst : st0 = As.reverse ++ .ref a :: rest) (hn : As.length = n) (hW : (rest.map fun v => v.category).sum ≤ 8) (hdg : decode cc pc = .ok (.invokespecial idx, 3))
    (kk : ∀ (S' : StP) (H1 : Heap) (locs1 : List Loc), post S' → va_P g.1 classes (wP S') H1 → va_D A (wP S') → va_S A s.heap H1 locs1 → W p l e R s m args below meth c H1 locs1 (cells + mc1) (slots + ms1) Q (F0 m (pc + 3) ls rest)) : W p l e R s m args below meth c H locs cells slots Q (F0 m pc ls st0) := by
  subst hst
  have hF := free_P hD hS hA
  refine va_callv (va_runI (rest := rest) ⟨hx, hb, hml, hown, hts⟩ hM cw ⟨PP_blind, pre_P hK hC hP hD hS hA⟩ rfl hn hsz rfl (lv_room hW) hdg ⟨hcl, hsl⟩) hS (fun q _ h => hF q h) hF (fun u t H1 locs1 ht hvm hp hB hz1 hk1 hS1 => ?_)
  obtain ⟨hP1, hK1, hD1⟩ := hB
  rw [ht] at hP1
  exact kk u H1 locs1 hp hP1 (hD1.weaken (fun _ _ _ h => hF _ h)) hS1
theorem cP_vIN {own host : String} {y : MethodName} {bytes : ByteArray} {a maxL nL n mc1 ms1 : Nat} {rm : Room} {post : StP → Prop} {As st0 : List Value} (hx : p.tables.exec = Jvm.exec) (hb : c.code = cc) (hml : c.maxLocals = nL) (hown : s.vm.findClass own = some m.cls) (hts : ∀ w ∈ w_C, w.before args s = true) (hK : va_K g.1 classes (tysC g) s) (hC : CF g A s s.heap) (hP : va_P g.1 classes (wP S) H) (hD : va_D A (wP S)) (hS : va_S A s.heap H locs) (hA : ∀ q : Nat, s.heap.size ≤ q → A q) (hcl : cells + mc1 ≤ R.cells) (hsl : slots + ms1 ≤ R.slots) (hsz : ls.size = nL)
    (cw : va_CN R s args own idx y host bytes maxL none (.code y bytes maxL none :: w_C) rm mc1 ms1 n ∧ y.name = "<init>" ∧ (Cond.instanceMethod y).before args s = true) (hM : Met l y (.code y bytes maxL none :: w_C) rm (va_Pc (.ref a :: As) (PP g H.size S)) (va_Qv post (BP g (AP H.size S)) (AP H.size S)) mc1 ms1 (AP H.size S)) (hst : st0 = As.reverse ++ .ref a :: rest) (hn : As.length = n) (hW : (rest.map fun v => v.category).sum ≤ 8) (hdg : decode cc pc = .ok (.invokespecial idx, 3))
    (kk : ∀ (S' : StP) (H1 : Heap) (locs1 : List Loc), post S' → va_P g.1 classes (wP S') H1 → va_D A (wP S') → va_S A s.heap H1 locs1 → W p l e R s m args below meth c H1 locs1 (cells + mc1) (slots + ms1) Q (F0 m (pc + 3) ls rest)) : W p l e R s m args below meth c H locs cells slots Q (F0 m pc ls st0) := by
  subst hst
  have hF := free_P hD hS hA
  refine va_callv (va_runIN (rest := rest) ⟨hx, hb, hml, hown, hts⟩ hM cw ⟨PP_blind, pre_P hK hC hP hD hS hA⟩ rfl hn hsz rfl (lv_room hW) hdg ⟨hcl, hsl⟩) hS (fun q _ h => hF q h) hF (fun u t H1 locs1 ht hvm hp hB hz1 hk1 hS1 => ?_)
  obtain ⟨hP1, hK1, hD1⟩ := hB
  rw [ht] at hP1
  exact kk u H1 locs1 hp hP1 (hD1.weaken (fun _ _ _ h => hF _ h)) hS1
end
