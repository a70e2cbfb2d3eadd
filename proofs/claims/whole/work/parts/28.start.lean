theorem fM_new : ∀ j, j < 35 → defaultValue (t_M j) = vp_V ([.null, .int 0, .int 0, .int 0, .int 0, .null, .int 0, .null, .int 0, .null, .int 0, .int 0, .null, .int 0, .int 0, .null, .null, .null, .null, .null, .int 0, .int 0, .int 0, .null, .null, .int 0, .null, .null, .null, .null, .null, .null, .null, .null, .int 0] : List Value) j := by
  intro j hj
  rcases (show j = 0 ∨ j = 1 ∨ j = 2 ∨ j = 3 ∨ j = 4 ∨ j = 5 ∨ j = 6 ∨ j = 7 ∨ j = 8 ∨ j = 9 ∨ j = 10 ∨ j = 11 ∨ j = 12 ∨ j = 13 ∨ j = 14 ∨ j = 15 ∨ j = 16 ∨ j = 17 ∨ j = 18 ∨ j = 19 ∨ j = 20 ∨ j = 21 ∨ j = 22 ∨ j = 23 ∨ j = 24 ∨ j = 25 ∨ j = 26 ∨ j = 27 ∨ j = 28 ∨ j = 29 ∨ j = 30 ∨ j = 31 ∨ j = 32 ∨ j = 33 ∨ j = 34 by omega) with rfl | rfl | rfl | rfl | rfl | rfl | rfl | rfl | rfl | rfl | rfl | rfl | rfl | rfl | rfl | rfl | rfl | rfl | rfl | rfl | rfl | rfl | rfl | rfl | rfl | rfl | rfl | rfl | rfl | rfl | rfl | rfl | rfl | rfl | rfl <;> rfl
theorem fm_some {α β : Type} {f : α → Option β} {l : List α} {r : List β} (h : l.map f = r.map some) : l.filterMap f = r := by
  have e : l.filterMap f = (l.map f).filterMap id := by rw [List.filterMap_map]; rfl
  rw [e, h, List.filterMap_map]
  simp
theorem lq_W_init {s : State} {args : Array Value} {mc ms : Nat} (htb : ∀ w ∈ lw_tbl, w.before args s = true) (hts : ∀ w ∈ w_C, w.before args s = true) : CallB room_1 s args R_law 9 y_W_init b_W_init 1 none (.code y_W_init b_W_init 1 none :: w_C) (rmA 4 81 mc ms) mc ms 0 ∧ y_W_init.name = "<init>" ∧ (Cond.instanceMethod y_W_init).before args s = true := ⟨callB_of 0 hts (good_C k_C_24) rfl rfl rfl (hts _ k_C_0) (tb_at htb 89 (by decide +kernel)) ⟨by decide +kernel, by decide +kernel, by decide +kernel⟩ ⟨Nat.le_of_ble_eq_true rfl, Nat.le_of_ble_eq_true rfl⟩, rfl, tb_at htb 90 (by decide +kernel)⟩
theorem lq_M_init {s : State} {args : Array Value} (htb : ∀ w ∈ lw_tbl, w.before args s = true) (hts : ∀ w ∈ w_M, w.before args s = true) : CallB room_1 s args R_law 12 y_M_init b_M_init 1 none (.code y_M_init b_M_init 1 none :: w_M) { frames := 1, cells := 20, slots := 3691, locals := 28 } 20 3691 0 ∧ y_M_init.name = "<init>" ∧ (Cond.instanceMethod y_M_init).before args s = true := ⟨callB_of 0 hts (good_M k_M_0) rfl rfl rfl (hts _ k_M_46) (tb_at htb 1039 (by decide +kernel)) ⟨by decide +kernel, by decide +kernel, by decide +kernel⟩ ⟨Nat.le_of_ble_eq_true rfl, Nat.le_of_ble_eq_true rfl⟩, rfl, tb_at htb 1040 (by decide +kernel)⟩
set_option maxRecDepth 100000 in
set_option maxHeartbeats 8000000 in
theorem whole_of {Sim : Nat → Gm → StC → StM → Prop} {mc ms mc0 ms0 : Nat} (hI : InitOK Sim mc0 ms0) (hs : StepOK Sim mc ms) (hc : 0 + 1 + mc0 + 1 + 20 + 512 * mc ≤ 715962) (hz : 0 + 2 + ms0 + 35 + 3691 + 512 * ms ≤ 6954363) {p : Program} {e : Env} {s : State} {m : MethodId} {below : List Frame} {meth : Method} {c : Code} (l : Launch) {b L : Nat} {xs : Nat → Int32} (hL : L ≤ 1536) (C0 : lw_At p s m meth c b L xs) : W p l e room_1 s m #[Value.ref b] below meth c s.heap [] 0 0 (lw_Z below #[Value.ref b] s) (entryFrame m ([Value.ref b] : List Value).toArray 4) := by
  have C1 := C0
  obtain ⟨hx, hb, hr, hml, hown, htb, hX, hbl, hlk, hgv⟩ := C0
  have hb : c.code = cL_law := hb
  have htsC := sub_C htb (sub_Cs htb)
  have htsM := sub_M htb
  have hA : ∀ q : Nat, s.heap.size ≤ q → (fun q => s.heap.size ≤ q) q := fun q h => h
  obtain ⟨D, ids, z90, z91, z92, z95, aE, aK, aV, hKm, aM, aC, aB, aI, hent⟩ := entry (A := fun q => s.heap.size ≤ q) htb hgv (fun a h1 h2 => absurd h1 (Nat.not_lt.mpr h2))
  obtain ⟨hK0, hC0, hN0⟩ := hent (lo0 z90 z91 z92 z95) rfl rfl rfl rfl
  have hinj : ∀ i j, i < 52 → j < 52 → aE i = aE j → i = j := fun i j hi hj h => hC0.1.1.2 i j hi hj (by
    show gad (lo0 z90 z91 z92 z95) aE aK aV (100 + i) = gad (lo0 z90 z91 z92 z95) aE aK aV (100 + j)
    rw [gad_E (by omega), gad_E (by omega)]
    exact h)
  have hCF : CF (D, ids, gad (lo0 z90 z91 z92 z95) aE aK aV) (fun q => s.heap.size ≤ q) s s.heap := ⟨hN0, hC0.2.2.2.1, aM, aC, aB, aI⟩
  have hl := lv_entry ([.ref b]) (n := 4) (Nat.le_of_ble_eq_true rfl)
  rw [lg_entry_eq]
  generalize (lg_sl ([.ref b]) ++ List.replicate (4 - (lg_sl ([.ref b])).length) Slot.unset).toArray = ls at hl ⊢
  have hl : lv_has ls 4 [(0, .ref b)] := hl
  have hS : va_S (fun q => s.heap.size ≤ q) s.heap s.heap [] := va_S.rf
  refine va_new (D := D) (ws := []) (A := fun q => s.heap.size ≤ q) (ci := 1) (fs := [.null, .null]) (C := R_W) (T := F_W) (N := 2) hx hb htsC hin_W t_W t_W_ok hown (tb_at htb 87 (by decide +kernel)) (tb_at htb _ p_n_W) (tb_at htb _ p_i_W) hK0 (fun k q h => by simp at h) ⟨fun i j x y h => by simp at h, fun k q h => by simp at h⟩ hS hA rfl (fun j hj => by rcases (show j = 0 ∨ j = 1 by omega) with rfl | rfl <;> rfl) (Nat.le_of_ble_eq_true rfl) (Nat.le_of_ble_eq_true rfl) dL_law_0 (fun h0 H hP hD hS => ?_)
  have hP : va_P D classes (wP ([h0], fun _ => .inr (1, [.null, .null]))) H := hP
  have hD : va_D (fun q => s.heap.size ≤ q) (wP ([h0], fun _ => .inr (1, [.null, .null]))) := hD
  refine lv_dup hx hb dL_law_3 rfl ?_
  have hmc : 0 + 1 + mc0 ≤ 715962 := by omega
  have hms : 0 + 2 + ms0 ≤ 6954363 := by omega
  refine cP_vI (g := (D, ids, gad (lo0 z90 z91 z92 z95) aE aK aV)) (S := ([h0], fun _ => .inr (1, [.null, .null]))) (As := []) (rest := [.ref h0]) hx hb hml hown htsC hK0 hCF hP hD hS hA hmc hms hl.1 (lq_W_init htb htsC) (c_W_init l (D, ids, gad (lo0 z90 z91 z92 z95) aE aK aV) H.size _ h0 _ mc0 ms0 (hI D ids aE aK aV z90 z91 z92 z95 h0 hinj)) rfl rfl (Nat.le_of_ble_eq_true rfl) dL_law_4 (fun SP H locs hw hP hD hS => ?_)
  obtain ⟨lo, S, js, e90, e91, e92, e95, e0, hnd, hjs, hw⟩ := hw
  obtain ⟨hK1, hC1, hN1⟩ := hent lo e90 e91 e92 e95
  have hP : va_P D classes (wC (D, ids, gad lo aE aK aV) S) H := hP.sub js (fm_some hjs)
  have hD : va_D (fun q => s.heap.size ≤ q) (wC (D, ids, gad lo aE aK aV) S) := hD.sub js hnd hjs
  refine lv_astore_n (lv' := [(1, .ref h0), (0, .ref b)]) hx hb dL_law_7 rfl hl (by decide) rfl (fun ls hl => ?_)
  have hc1 : 0 + 1 + mc0 + 1 ≤ 715962 := by omega
  have hz1 : 0 + 2 + ms0 + 35 ≤ 6954363 := by omega
  refine va_new (D := D) (ws := wC (D, ids, gad lo aE aK aV) S) (A := fun q => s.heap.size ≤ q) (ci := 0) (fs := [.null, .int 0, .int 0, .int 0, .int 0, .null, .int 0, .null, .int 0, .null, .int 0, .int 0, .null, .int 0, .int 0, .null, .null, .null, .null, .null, .int 0, .int 0, .int 0, .null, .null, .int 0, .null, .null, .null, .null, .null, .null, .null, .null, .int 0]) (C := R_M) (T := F_M) (N := 35) hx hb htsM hin_M t_M t_M_ok hown (tb_at htb 1037 (by decide +kernel)) (tb_at htb _ p_n_M) (htsM _ k_M_46) hK1 hP hD hS hA rfl fM_new hc1 hz1 dL_law_8 (fun h2 H hP hD hS => ?_)
  refine lv_dup hx hb dL_law_11 rfl ?_
  have hPC : va_P D classes (wC (D, ids, gad lo aE aK aV) S) H := fun k q hk => hP k q (by rw [List.getElem?_append_left (List.getElem?_eq_some_iff.mp hk).1]; exact hk)
  have hP2 : va_P D classes [(h2, .inr (0, [.null, .int 0, .int 0, .int 0, .int 0, .null, .int 0, .null, .int 0, .null, .int 0, .int 0, .null, .int 0, .int 0, .null, .null, .null, .null, .null, .int 0, .int 0, .int 0, .null, .null, .int 0, .null, .null, .null, .null, .null, .null, .null, .null, .int 0]))] H := fun k q hk => hP _ q (at_right hk)
  have hD2 := D_right hD
  have hF : ∀ q, va_A [(h2, .inr (0, [.null, .int 0, .int 0, .int 0, .int 0, .null, .int 0, .null, .int 0, .null, .int 0, .int 0, .null, .int 0, .int 0, .null, .null, .null, .null, .null, .int 0, .int 0, .int 0, .null, .null, .int 0, .null, .null, .null, .null, .null, .null, .null, .null, .int 0]))] H.size q → s.heap.size ≤ q := fun q h => h.elim (fun ⟨k, e9, hk⟩ => hD2.2 k _ hk) (fun h => Nat.le_trans hS.1 h)
  have hc2 : 0 + 1 + mc0 + 1 + 20 ≤ 715962 := by omega
  have hz2 : 0 + 2 + ms0 + 35 + 3691 ≤ 6954363 := by omega
  refine va_callv (va_runI (rest := [.ref h2]) ⟨hx, hb, hml, hown, htsM⟩ (c_M_init l D h2 H.size _ hw) (lq_M_init htb htsM) ⟨(fun a U g0 mk q => by
    obtain ⟨q0, q1, qP, qK, qD⟩ := q
    exact ⟨q0, q1, qP, va_K.moved (u := U) (U := U.calling g0 mk a) (Vm.Alike.refl U.vm) qK, qD⟩), (fun U hU hW => ⟨rfl, by rw [hU], by rw [hU]; exact hP2, va_K.moved hW.alike ⟨hKm.1, fun k q h => by simp at h⟩, hD2.weaken (fun _ _ _ _ => trivial)⟩)⟩ rfl rfl hl.1 rfl (lv_room (Nat.le_of_ble_eq_true rfl)) dL_law_12 ⟨hc2, hz2⟩) hS (fun q _ h => hF q h) hF (fun u t H1 locs1 ht hvm hp hB hz1 hk1 hS1 => ?_)
  obtain ⟨⟨D', idm, adm⟩, T⟩ := u
  obtain ⟨eD, eh, hsim⟩ := hp
  have eD : D' = D := eD
  subst eD
  have eh : adm 0 = h2 := eh
  obtain ⟨hP3, hK3, hD3⟩ := hB
  rw [ht] at hP3
  have i0 : idm 0 = ids 0 := Option.some.inj (((hK3.2 0 _ rfl).2 : t.vm.findClass _ = some (idm 0)).symm.trans ((hvm.findClass _ _).trans ((hKm.2 0 _ rfl).2 : s.vm.findClass _ = some (ids 0))))
  have i1 : idm 1 = ids 1 := Option.some.inj (((hK3.2 1 _ rfl).2 : t.vm.findClass _ = some (idm 1)).symm.trans ((hvm.findClass _ _).trans ((hKm.2 1 _ rfl).2 : s.vm.findClass _ = some (ids 1))))
  have i2 : idm 2 = ids 2 := Option.some.inj (((hK3.2 2 _ rfl).2 : t.vm.findClass _ = some (idm 2)).symm.trans ((hvm.findClass _ _).trans ((hKm.2 2 _ rfl).2 : s.vm.findClass _ = some (ids 2))))
  have hKM : va_K D' classes (tysM (D', idm, adm)) s := by
    show va_K D' classes [(idm 0, .int), (idm 1, .boolean), (idm 2, .long)] s
    rw [i0, i1, i2]
    exact hKm
  have hPc : va_P D' classes (wC (D', ids, gad lo aE aK aV) S) H1 := P_glue (D_comm hD) hPC hk1
  have hDD : va_D (fun q => s.heap.size ≤ q) (wC (D', ids, gad lo aE aK aV) S ++ wM (D', idm, adm) T) := D_comm (D_glue (D_comm hD) hPC (fun q h => Nat.le_trans hS.1 h) hD3)
  refine lv_astore_n (lv' := [(2, .ref h2), (1, .ref h0), (0, .ref b)]) hx hb dL_law_15 rfl hl (by decide) rfl (fun ls hl => ?_)
  refine lv_iconst (v := 0) hx hb dL_law_16 (by decide) ?_
  refine lv_istore_n (lv' := [(3, .int 0), (2, .ref h2), (1, .ref h0), (0, .ref b)]) hx hb dL_law_17 rfl hl (by decide) rfl (fun ls hl => ?_)
  have hl : lv_has ls 4 [(3, .int (Int32.ofNat (3 * 0))), (2, .ref (adm 0)), (1, .ref (gad lo aE aK aV 0)), (0, .ref b)] := by
    rw [eh, show gad lo aE aK aV 0 = h0 from e0]
    exact hl
  refine W.widen (k := 0 + 1 + mc0 + 1 + 20 + 0 * mc) (n := 0 + 2 + ms0 + 35 + 3691 + 0 * ms) (by omega) (by omega) ?_
  exact law_loop (c0 := 0 + 1 + mc0 + 1 + 20) (s0 := 0 + 2 + ms0 + 35 + 3691) hs hL C1 hA (fun q h => h) htsC htsM hK1 hKM hC1 hN1 hc hz L 0 (by omega) (by omega) S T H1 locs1 ls hsim hPc hP3 hDD hS1 hl
