/-- a pool state told as a table: its addresses in the order of making, each with what lies there -/
def Tab (S : StP) (tab : va_W) : Prop := S.1 = tab.map (fun x => x.1) ∧ (∀ x ∈ tab, S.2 x.1 = x.2) ∧ (tab.map (fun x => x.1)).Nodup
section
variable {S : StP} {tab ws : va_W} {q k : Nat} {e e0 : va_E} {x : Nat × va_E}
theorem Tab.at (h : Tab S tab) (hk : tab[k]? = some (q, e)) : q ∈ S.1 ∧ S.2 q = e := by
  have hm := List.mem_of_getElem? hk
  exact ⟨by rw [h.1]; exact List.mem_map_of_mem hm, h.2.1 _ hm⟩
theorem Tab.push (h : Tab S tab) (hq : q ∉ S.1) (e : va_E) : Tab (S.1 ++ [q], va_up S.2 q e) (tab ++ [(q, e)]) := by
  have hq' : q ∉ tab.map (fun x => x.1) := by rw [← h.1]; exact hq
  refine ⟨by rw [List.map_append]; exact congrArg (· ++ [q]) h.1, fun x hx => ?_, ?_⟩
  · rcases List.mem_append.mp hx with hx | hx
    · have hne : x.1 ≠ q := fun e1 => hq' (e1 ▸ List.mem_map_of_mem hx)
      show (if x.1 = q then e else S.2 x.1) = x.2
      rw [if_neg hne]
      exact h.2.1 x hx
    · rw [List.mem_singleton.mp hx]
      show (if q = q then e else S.2 q) = e
      rw [if_pos rfl]
  · rw [List.map_append]
    exact List.nodup_append.mpr ⟨h.2.2, List.nodup_cons.mpr ⟨List.not_mem_nil, List.nodup_nil⟩, fun a ha b hb e1 => by
      have e2 : b = q := List.mem_singleton.mp hb
      rw [e1, e2] at ha
      exact hq' ha⟩
theorem Tab.set (h : Tab S tab) (hk : tab[k]? = some (q, e0)) (e : va_E) : Tab (S.1, va_up S.2 q e) (tab.set k (q, e)) := by
  have hl := (List.getElem?_eq_some_iff.mp hk).1
  have hmap : (tab.set k (q, e)).map (fun x => x.1) = tab.map (fun x => x.1) := by
    rw [List.map_set]
    apply List.ext_getElem?
    intro i
    rw [List.getElem?_set]
    by_cases hi : k = i
    · subst hi
      rw [if_pos rfl, if_pos (by rw [List.length_map]; exact hl), List.getElem?_map, hk]
      rfl
    · rw [if_neg hi]
  refine ⟨by rw [hmap]; exact h.1, fun x hx => ?_, by rw [hmap]; exact h.2.2⟩
  obtain ⟨i, hi⟩ := List.mem_iff_getElem?.mp hx
  rw [List.getElem?_set] at hi
  by_cases hki : k = i
  · subst hki
    rw [if_pos rfl, if_pos hl] at hi
    cases hi
    show (if q = q then e else S.2 q) = e
    rw [if_pos rfl]
  · rw [if_neg hki] at hi
    have hne : x.1 ≠ q := fun e1 => by
      have h1 : (tab.map (fun x => x.1))[k]? = (tab.map (fun x => x.1))[i]? := by
        rw [List.getElem?_map, List.getElem?_map, hk, hi]
        exact congrArg some e1.symm
      exact hki ((List.getElem?_inj (by rw [List.length_map]; exact hl) h.2.2).mp h1)
    show (if x.1 = q then e else S.2 x.1) = x.2
    rw [if_neg hne]
    exact h.2.1 x (List.mem_of_getElem? hi)
theorem Tab.left (hk : tab[k]? = some x) : (tab ++ ws)[k]? = some x := by
  rw [List.getElem?_append_left (List.getElem?_eq_some_iff.mp hk).1]
  exact hk
theorem Tab.rows (h : Tab S tab) {r : Nat → Nat} (hi : ∀ i j : Nat, i < 4 → j < 4 → r i = r j → i = j) (hn : ∀ i : Nat, i < 4 → r i ∉ S.1) (e : va_E) : Tab (S.1 ++ (List.range 4).map r, vr_up S.2 ((List.range 4).map r) e) (tab ++ [(r 0, e), (r 1, e), (r 2, e), (r 3, e)]) := by
  have hl : (List.range 4).map r = [r 0, r 1, r 2, r 3] := rfl
  have hn' : ∀ i : Nat, i < 4 → r i ∉ tab.map (fun x => x.1) := fun i h4 => by rw [← h.1]; exact hn i h4
  rw [hl]
  refine ⟨by rw [List.map_append]; exact congrArg (· ++ [r 0, r 1, r 2, r 3]) h.1, fun x hx => ?_, ?_⟩
  · rcases List.mem_append.mp hx with hx | hx
    · have hne : x.1 ∉ [r 0, r 1, r 2, r 3] := fun hm => by
        have hx1 : x.1 ∈ tab.map (fun x => x.1) := List.mem_map_of_mem hx
        simp only [List.mem_cons, List.not_mem_nil, or_false] at hm
        rcases hm with e1 | e1 | e1 | e1
        · exact hn' 0 (by decide) (e1 ▸ hx1)
        · exact hn' 1 (by decide) (e1 ▸ hx1)
        · exact hn' 2 (by decide) (e1 ▸ hx1)
        · exact hn' 3 (by decide) (e1 ▸ hx1)
      show vr_up S.2 _ e x.1 = x.2
      rw [vr_up_ne hne]
      exact h.2.1 x hx
    · show vr_up S.2 _ e x.1 = x.2
      simp only [List.mem_cons, List.not_mem_nil, or_false] at hx
      rcases hx with rfl | rfl | rfl | rfl <;> exact vr_up_in (by simp)
  · rw [List.map_append]
    have d : ∀ i j : Nat, i < 4 → j < 4 → i ≠ j → r i ≠ r j := fun i j h1 h2 hij e1 => hij (hi i j h1 h2 e1)
    refine List.nodup_append.mpr ⟨h.2.2, ?_, fun a ha b hb e1 => ?_⟩
    · simp [d 0 1, d 0 2, d 0 3, d 1 2, d 1 3, d 2 3]
    · subst e1
      simp only [List.map_cons, List.map_nil, List.mem_cons, List.not_mem_nil, or_false] at hb
      rcases hb with e1 | e1 | e1 | e1
      · exact hn' 0 (by decide) (e1 ▸ ha)
      · exact hn' 1 (by decide) (e1 ▸ ha)
      · exact hn' 2 (by decide) (e1 ▸ ha)
      · exact hn' 3 (by decide) (e1 ▸ ha)
theorem Tab.pl (h : Tab S tab) (hs : ∀ x ∈ ws, x ∈ tab) : va_pl (ws.map (fun x => x.1)) S.2 = ws := by
  unfold va_pl
  rw [List.map_map]
  refine (List.map_congr_left (fun x hx => ?_)).trans (List.map_id ws)
  show (x.1, S.2 x.1) = x
  rw [h.2.1 x (hs x hx)]
theorem Tab.wP (h : Tab S tab) : wP S = tab := by
  show ([] : va_W) ++ va_pl S.1 S.2 = tab
  rw [h.1, h.pl (fun x hx => hx)]
  rfl
end
theorem cl_24 : Int32.toNatClampNeg 24 = 24 := by decide
theorem cl_96 : Int32.toNatClampNeg 96 = 96 := by decide
theorem cl_2 : Int32.toNatClampNeg 2 = 2 := by decide
theorem cl_4 : Int32.toNatClampNeg 4 = 4 := by decide
theorem cl_8 : Int32.toNatClampNeg 8 = 8 := by decide
theorem cl_16 : Int32.toNatClampNeg 16 = 16 := by decide
theorem cl_40 : Int32.toNatClampNeg 40 = 40 := by decide
theorem cl_0 : Int32.toNatClampNeg 0 = 0 := by decide
theorem cl_1 : Int32.toNatClampNeg 1 = 1 := by decide
section
variable {g : Gm} {post : StP → Prop} {mc ms : Nat} {S : StP} {h0 k : Nat} {tab : va_W}
theorem wi_N (hT : Tab S tab) (hk : tab[k]? = some (h0, .inr (6, [.null, .int 0]))) (h1 : 1 ≤ mc) (h2 : 24 ≤ ms) (kk : ∀ (q : Nat) (S' : StP), Tab S' ((tab ++ ([(q, .inl (g.2.1 0, 24, .inl (fun _ => 0)))] : va_W)).set k (h0, .inr (6, [.ref q, .int 0]))) → post S') : wp_N_init g post mc ms S h0 := by
  unfold wp_N_init
  simp only [cl_24]
  refine ⟨by decide, by decide, by omega, by omega, fun q hq => ?_⟩
  have T1 := hT.push hq (.inl (g.2.1 0, 24, .inl (fun _ => 0)))
  have k1 := T1.at (Tab.left hk)
  exact ⟨[.null, .int 0], k1.1, k1.2, by decide, kk q _ (T1.set (Tab.left hk) _)⟩
theorem wi_Di (hT : Tab S tab) (hk : tab[k]? = some (h0, .inr (8, [.null, .int 0]))) (h1 : 1 ≤ mc) (h2 : 24 ≤ ms) (kk : ∀ (q : Nat) (S' : StP), Tab S' ((tab ++ ([(q, .inl (g.2.1 4, 24, .inr (.inr (.inr (.inr (fun _ => none))))))] : va_W)).set k (h0, .inr (8, [.ref q, .int 0]))) → post S') : wp_Di_init g post mc ms S h0 := by
  unfold wp_Di_init
  simp only [cl_24]
  refine ⟨by decide, by decide, by omega, by omega, fun q hq => ?_⟩
  have T1 := hT.push hq (.inl (g.2.1 4, 24, .inr (.inr (.inr (.inr (fun _ => none))))))
  have k1 := T1.at (Tab.left hk)
  exact ⟨[.null, .int 0], k1.1, k1.2, by decide, kk q _ (T1.set (Tab.left hk) _)⟩
theorem set_left {k : Nat} {x y : Nat × va_E} (hk : tab[k]? = some x) : (tab.set k y)[k]? = some y := by
  rw [List.getElem?_set, if_pos rfl, if_pos (List.getElem?_eq_some_iff.mp hk).1]
theorem wi_Ca (hT : Tab S tab) (hk : tab[k]? = some (h0, .inr (9, [.null, .int 0, .null, .null, .int 0]))) (h1 : 2 ≤ mc) (h2 : 8 ≤ ms) (kk : ∀ (q1 q2 : Nat) (S' : StP), Tab S' (((tab ++ ([(q1, .inl (g.2.1 0, 4, .inl (fun _ => 0)))] : va_W)).set k (h0, .inr (9, [.null, .int 0, .ref q1, .null, .int 0])) ++ ([(q2, .inl (g.2.1 0, 4, .inl (fun _ => 0)))] : va_W)).set k (h0, .inr (9, [.null, .int 0, .ref q1, .ref q2, .int 0]))) → post S') : wp_Ca_init g post mc ms S h0 := by
  unfold wp_Ca_init
  simp only [cl_4]
  refine ⟨by decide, by decide, by omega, by omega, fun q hq => ?_⟩
  have T1 := hT.push hq (.inl (g.2.1 0, 4, .inl (fun _ => 0)))
  have k1 := T1.at (Tab.left hk)
  have T2 := T1.set (Tab.left hk) (.inr (9, [.null, .int 0, .ref q, .null, .int 0]))
  refine ⟨[.null, .int 0, .null, .null, .int 0], k1.1, k1.2, by decide, by decide, by decide, by omega, by omega, fun q2 hq2 => ?_⟩
  have T3 := T2.push hq2 (.inl (g.2.1 0, 4, .inl (fun _ => 0)))
  have kk3 := Tab.left (ws := [(q2, .inl (g.2.1 0, 4, .inl (fun _ => 0)))]) (set_left (y := (h0, .inr (9, [.null, .int 0, .ref q, .null, .int 0]))) (Tab.left (ws := [(q, .inl (g.2.1 0, 4, .inl (fun _ => 0)))]) hk))
  have k3 := T3.at kk3
  exact ⟨[.null, .int 0, .ref q, .null, .int 0], k3.1, k3.2, Nat.le_of_ble_eq_true rfl, kk q q2 _ (T3.set kk3 _)⟩
theorem wi_Co (hT : Tab S tab) (hk : tab[k]? = some (h0, .inr (10, [.null, .null, .null, .int 0]))) (h1 : 2 ≤ mc) (h2 : 16 ≤ ms) (kk : ∀ (q1 q2 : Nat) (S' : StP), Tab S' (((tab ++ ([(q1, .inl (g.2.1 6, 8, .inr (.inr (.inr (.inr (fun _ => none))))))] : va_W)).set k (h0, .inr (10, [.null, .ref q1, .null, .int 0])) ++ ([(q2, .inl (g.2.1 0, 8, .inl (fun _ => 0)))] : va_W)).set k (h0, .inr (10, [.null, .ref q1, .ref q2, .int 0]))) → post S') : wp_Co_init g post mc ms S h0 := by
  unfold wp_Co_init
  simp only [cl_8]
  refine ⟨by decide, by decide, by omega, by omega, fun q hq => ?_⟩
  have T1 := hT.push hq (.inl (g.2.1 6, 8, .inr (.inr (.inr (.inr (fun _ => none))))))
  have k1 := T1.at (Tab.left hk)
  have T2 := T1.set (Tab.left hk) (.inr (10, [.null, .ref q, .null, .int 0]))
  refine ⟨[.null, .null, .null, .int 0], k1.1, k1.2, by decide, by decide, by decide, by omega, by omega, fun q2 hq2 => ?_⟩
  have T3 := T2.push hq2 (.inl (g.2.1 0, 8, .inl (fun _ => 0)))
  have kk3 := Tab.left (ws := [(q2, .inl (g.2.1 0, 8, .inl (fun _ => 0)))]) (set_left (y := (h0, .inr (10, [.null, .ref q, .null, .int 0]))) (Tab.left (ws := [(q, .inl (g.2.1 6, 8, .inr (.inr (.inr (.inr (fun _ => none))))))]) hk))
  have k3 := T3.at kk3
  exact ⟨[.null, .ref q, .null, .int 0], k3.1, k3.2, Nat.le_of_ble_eq_true rfl, kk q q2 _ (T3.set kk3 _)⟩
end
