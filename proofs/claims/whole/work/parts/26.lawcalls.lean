section
variable {A : Nat → Prop} {D : va_G} {cl : List vw_C} {ws ws' vs : va_W} {H H1 : Heap}
theorem D_left (h : va_D A (ws ++ vs)) : va_D A ws := ⟨fun i j x y hi hj e => h.1 i j x y (by rw [List.getElem?_append_left (List.getElem?_eq_some_iff.mp hi).1]; exact hi) (by rw [List.getElem?_append_left (List.getElem?_eq_some_iff.mp hj).1]; exact hj) e, fun k q hk => h.2 k q (by rw [List.getElem?_append_left (List.getElem?_eq_some_iff.mp hk).1]; exact hk)⟩
theorem at_right {k : Nat} {q : Nat × va_E} (hk : vs[k]? = some q) : (ws ++ vs)[ws.length + k]? = some q := by
  rw [List.getElem?_append_right (Nat.le_add_right _ _), Nat.add_sub_cancel_left]
  exact hk
theorem D_right (h : va_D A (ws ++ vs)) : va_D A vs := ⟨fun i j x y hi hj e => by
  have := h.1 _ _ x y (at_right hi) (at_right hj) e
  omega, fun k q hk => h.2 _ q (at_right hk)⟩
theorem D_cross (h : va_D A (ws ++ vs)) {i j : Nat} {x y : Nat × va_E} (hi : ws[i]? = some x) (hj : vs[j]? = some y) : x.1 ≠ y.1 := fun e => by
  have h1 := (List.getElem?_eq_some_iff.mp hi).1
  have := h.1 i _ x y (by rw [List.getElem?_append_left h1]; exact hi) (at_right hj) e
  omega
theorem D_mk (h1 : va_D A ws) (h2 : va_D A vs) (hx : ∀ (i j : Nat) (x y : Nat × va_E), ws[i]? = some x → vs[j]? = some y → x.1 ≠ y.1) : va_D A (ws ++ vs) := by
  refine ⟨fun i j x y hi hj e => ?_, fun k q hk => ?_⟩
  · by_cases a : i < ws.length <;> by_cases b : j < ws.length
    · rw [List.getElem?_append_left a] at hi
      rw [List.getElem?_append_left b] at hj
      exact h1.1 i j x y hi hj e
    · rw [List.getElem?_append_left a] at hi
      rw [List.getElem?_append_right (by omega)] at hj
      exact absurd e (hx _ _ _ _ hi hj)
    · rw [List.getElem?_append_right (by omega)] at hi
      rw [List.getElem?_append_left b] at hj
      exact absurd e.symm (hx _ _ _ _ hj hi)
    · rw [List.getElem?_append_right (by omega)] at hi hj
      have := h2.1 _ _ x y hi hj e
      omega
  · by_cases a : k < ws.length
    · rw [List.getElem?_append_left a] at hk
      exact h1.2 k q hk
    · rw [List.getElem?_append_right (by omega)] at hk
      exact h2.2 _ q hk
theorem D_comm (h : va_D A (ws ++ vs)) : va_D A (vs ++ ws) := D_mk (D_right h) (D_left h) (fun _ _ _ _ hi hj => (D_cross h hj hi).symm)
theorem not_A (hD : va_D A (ws ++ vs)) (hP : va_P D cl vs H) {k : Nat} {q : Nat × va_E} (hk : vs[k]? = some q) : ¬ va_A ws H.size q.1 := by
  rintro (⟨k2, e2, h2⟩ | h)
  · exact D_cross hD h2 hk rfl
  · have := (hP k q hk).lt
    omega
theorem D_glue (hD : va_D A (ws ++ vs)) (hP : va_P D cl vs H) (hA : ∀ q, H.size ≤ q → A q) (hD' : va_D (va_A ws H.size) ws') : va_D A (ws' ++ vs) :=
  D_mk (hD'.weaken (fun _ _ _ h => h.elim (fun ⟨k2, e2, h2⟩ => (D_left hD).2 k2 (_, e2) h2) (hA _))) (D_right hD) (fun i j x y hi hj e => not_A hD hP hj (e ▸ hD'.2 i x hi))
theorem P_glue (hD : va_D A (ws ++ vs)) (hP : va_P D cl vs H) (hk : ∀ q : Nat, q < H.size → ¬ va_A ws H.size q → H1[q]? = H[q]?) : va_P D cl vs H1 := hP.kept (fun k q h => hk q.1 ((hP k q h).lt) (not_A hD hP h))
end
section
variable {p : Program} {l : Launch} {e : Env} {R : Room} {s : State} {m : MethodId} {args : Array Value} {below : List Frame} {meth : Method} {c : Code} {H : Heap} {locs : List Loc} {cells slots : Nat} {Q : State → Prop} {cc : ByteArray} {pc idx : Nat} {ls : Array Slot} {rest : List Value} {A : Nat → Prop} {D : va_G} {ids idm : Nat → ClassId} {ad adm : Nat → Nat} {S : StC} {T : StM}
theorem lwC {own C : String} {y : MethodName} {bytes : ByteArray} {a maxL nL n mc1 ms1 : Nat} {rm : Room} {ret : Option FieldType} {post : Int32 → StC → Prop} {As st0 : List Value} (hx : p.tables.exec = Jvm.exec) (hb : c.code = cc) (hml : c.maxLocals = nL) (hown : s.vm.findClass own = some m.cls) (hts : ∀ w ∈ w_C, w.before args s = true) (hK : va_K D classes (tysC (D, ids, ad)) s) (hC : SC (D, ids, ad) A s s.heap) (hN : NW (D, ids, ad) s) (hP : va_P D classes (wC (D, ids, ad) S) H) (hPm : va_P D classes (wM (D, idm, adm) T) H) (hD : va_D A (wC (D, ids, ad) S ++ wM (D, idm, adm) T)) (hS : va_S A s.heap H locs) (hA : ∀ q : Nat, s.heap.size ≤ q → A q) (hcl : cells + mc1 ≤ R.cells) (hsl : slots + ms1 ≤ R.slots) (hsz : ls.size = nL) (hrc : ∃ cell : Cell, H[a]? = some cell ∧ cell.vm.isStatics = false ∧ s.vm.findClass C = some cell.cls)
    (cw : CallW R s args own C idx y bytes maxL ret (.code y bytes maxL ret :: w_C) rm mc1 ms1 n) (hM : Met l y (.code y bytes maxL ret :: w_C) rm (va_Pc (.ref a :: As) (PC (D, ids, ad) H.size S)) (va_Qi post (BC (D, ids, ad) (AC (D, ids, ad) H.size S)) (AC (D, ids, ad) H.size S)) mc1 ms1 (AC (D, ids, ad) H.size S)) (hst : st0 = As.reverse ++ .ref a :: rest) (hn : As.length = n) (hW : (rest.map fun v => v.category).sum ≤ 8) (hdg : decode cc pc = .ok (.invokevirtual idx, 3))
    (kk : ∀ (r : Int32) (S' : StC) (H1 : Heap) (locs1 : List Loc), post r S' → va_P D classes (wC (D, ids, ad) S') H1 → va_P D classes (wM (D, idm, adm) T) H1 → va_D A (wC (D, ids, ad) S' ++ wM (D, idm, adm) T) → va_S A s.heap H1 locs1 → W p l e R s m args below meth c H1 locs1 (cells + mc1) (slots + ms1) Q (F0 m (pc + 3) ls (.int r :: rest))) : W p l e R s m args below meth c H locs cells slots Q (F0 m pc ls st0) := by
  subst hst
  have hF := free_C (g := (D, ids, ad)) (S := S) (S0 := S) (D_left hD) hS hA
  refine va_calli (va_runV (rest := rest) ⟨hx, hb, hml, hown, hts⟩ hM cw ⟨PC_blind, hrc, pre_C hK hC hN hP (D_left hD) hS hA⟩ rfl hn hsz rfl (lv_room hW) hdg ⟨hcl, hsl⟩) hS (fun q _ h => hF q h) hF (fun r u t H1 locs1 ht hvm hp hB hz1 hk1 hS1 => ?_)
  obtain ⟨hP1, hK1, hD1⟩ := hB
  rw [ht] at hP1
  exact kk r u H1 locs1 hp hP1 (P_glue hD hPm hk1) (D_glue hD hPm (fun q h => hA q (Nat.le_trans hS.1 h)) hD1) hS1
theorem lwM {own : String} {y : MethodName} {bytes : ByteArray} {maxL nL n : Nat} {rm : Room} {ret : Option FieldType} {post : Int32 → StM → Prop} {As st0 : List Value} (hx : p.tables.exec = Jvm.exec) (hb : c.code = cc) (hml : c.maxLocals = nL) (hown : s.vm.findClass own = some m.cls) (hts : ∀ w ∈ w_M, w.before args s = true) (hK : va_K D classes (tysM (D, idm, adm)) s) (hP : va_P D classes (wC (D, ids, ad) S) H) (hPm : va_P D classes (wM (D, idm, adm) T) H) (hD : va_D A (wC (D, ids, ad) S ++ wM (D, idm, adm) T)) (hS : va_S A s.heap H locs) (hA : ∀ q : Nat, s.heap.size ≤ q → A q) (hcl : cells ≤ R.cells) (hsl : slots ≤ R.slots) (hsz : ls.size = nL)
    (cw : CallW R s args own R_M idx y bytes maxL ret (.code y bytes maxL ret :: w_M) rm 0 0 n) (hM : Met l y (.code y bytes maxL ret :: w_M) rm (va_Pc (.ref (adm 0) :: As) (PM (D, idm, adm) H.size T)) (va_Qi post (BM (D, idm, adm) H.size) (AM (D, idm, adm) H.size)) 0 0 (AM (D, idm, adm) H.size)) (hst : st0 = As.reverse ++ .ref (adm 0) :: rest) (hn : As.length = n) (hW : (rest.map fun v => v.category).sum ≤ 8) (hdg : decode cc pc = .ok (.invokevirtual idx, 3))
    (kk : ∀ (r : Int32) (T' : StM) (H1 : Heap) (locs1 : List Loc), post r T' → va_P D classes (wC (D, ids, ad) S) H1 → va_P D classes (wM (D, idm, adm) T') H1 → va_D A (wC (D, ids, ad) S ++ wM (D, idm, adm) T') → va_S A s.heap H1 locs1 → W p l e R s m args below meth c H1 locs1 cells slots Q (F0 m (pc + 3) ls (.int r :: rest))) : W p l e R s m args below meth c H locs cells slots Q (F0 m pc ls st0) := by
  subst hst
  have hF := free_M (g := (D, idm, adm)) (S := T) (D_right hD) hS hA
  refine va_calli (va_runV (rest := rest) ⟨hx, hb, hml, hown, hts⟩ hM cw ⟨PM_blind, va_recv (q0 := 0) (ci := 0) (q := (R_M, F_M, 35)) hK hPm rfl rfl, pre_M hK hPm (D_right hD)⟩ rfl hn hsz rfl (lv_room hW) hdg ⟨hcl, hsl⟩) hS (fun q _ h => hF q h) hF (fun r u t H1 locs1 ht hvm hp hB hz1 hk1 hS1 => ?_)
  obtain ⟨hP1, hK1, hD1⟩ := hB
  rw [ht] at hP1
  exact kk r u H1 locs1 hp (P_glue (D_comm hD) hP (fun q h1 h2 => hk1 q h1 (fun h3 => h2 (AM_of T h3)))) hP1 (D_comm (D_glue (D_comm hD) hP (fun q h => hA q (Nat.le_trans hS.1 h)) (hD1.weaken (fun _ _ _ h => AM_of T h)))) hS1
end
