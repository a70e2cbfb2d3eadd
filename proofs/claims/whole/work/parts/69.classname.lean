/-! numbers and names -/
theorem c_isNum_loop {g : Gm} {ρ : Nat → Nat × Nat} {S : StC} {post : Int32 → StC → Prop} {mc ms a : Nat} {l : List Int32} (h : StrX g S.2.2.2.2.2.1 S.2.2.2.2.2.2 ρ a l) (hl : l.length ≤ 120) : ∀ (d j c0 z0 : Nat), j + d = l.length → c0 ≤ mc → z0 ≤ ms → post (bE ((l.drop j).all isDig)) S → wq_Rd_isNumber_45 g post mc ms (d + 1) S a (Int32.ofNat j) c0 z0 := by
  intro d
  induction d with
  | zero =>
    intro j c0 z0 hj hc hz k
    have e : l.drop j = [] := List.drop_eq_nil_of_le (by omega)
    rw [e] at k
    exact ⟨h.str, 0, 0, hc, hz, s_len h ⟨fun _ => k, fun z => absurd (by rw [n_le (by omega) (by omega)]; omega) z⟩⟩
  | succ d ih =>
    intro j c0 z0 hj hc hz k
    have hlt : j < l.length := by omega
    have ed : l.drop j = l[j] :: l.drop (j + 1) := List.drop_eq_getElem_cons hlt
    have hch := List.getElem?_eq_getElem hlt
    rw [ed, List.all_cons] at k
    refine ⟨h.str, 0, 0, hc, hz, s_len h ⟨fun z => ?_, fun _ => ⟨h.str, 0, 0, hc, hz, s_char h hch ⟨fun z => ?_, fun z => ⟨h.str, 0, 0, hc, hz, s_char h hch ⟨fun y => ?_, fun y => ?_⟩⟩⟩⟩⟩⟩
    · rw [n_le (by omega) (by omega)] at z
      omega
    · have e : isDig l[j] = false := by
        rw [isDig, decide_eq_false_iff_not]
        exact fun q => q.1 z
      rw [e] at k
      exact k
    · have e : isDig l[j] = true := by
        rw [isDig, decide_eq_true_eq]
        exact ⟨z, Int32.not_lt.mpr y⟩
      rw [e] at k
      rw [of_succ]
      exact ih (j + 1) _ _ (by omega) hc hz k
    · have e : isDig l[j] = false := by
        rw [isDig, decide_eq_false_iff_not]
        exact fun q => q.2 (Int32.not_le.mp y)
      rw [e] at k
      exact k
theorem c_isNum {g : Gm} {ρ : Nat → Nat × Nat} {S : StC} {post : Int32 → StC → Prop} {a : Nat} {l : List Int32} (h : StrX g S.2.2.2.2.2.1 S.2.2.2.2.2.2 ρ a l) (hl : l.length ≤ 120) (k : post (bE (isNumL l)) S) : wp_Rd_isNumber g post 0 0 S a := by
  have go : ∀ (t c0 z0 : Nat), t = sgn l → t ≤ l.length → c0 ≤ 0 → z0 ≤ 0 → wq_Rd_isNumber_22 g post 0 0 S a (Int32.ofNat t) c0 z0 := by
    intro t c0 z0 ht hs hc hz
    have e : Int32.ofNat l.length - Int32.ofNat t = Int32.ofNat (l.length - t) := n_sub hs
    refine ⟨h.str, 0, 0, hc, hz, s_len h ?_⟩
    rw [e]
    unfold isNumL at k
    rw [← ht] at k
    refine ⟨fun z => ?_, fun z => ⟨fun y => ?_, fun y => ?_⟩⟩
    · rw [l_lt (by omega) (by decide)] at z
      rw [decide_eq_false (by omega)] at k
      exact k
    · rw [l_lt (by omega) (by decide)] at z
      rw [l_le (by omega) (by decide)] at y
      rw [decide_eq_true (by omega)] at k
      exact ⟨l.length - t + 1, c_isNum_loop h hl _ _ _ _ (by omega) hc hz k⟩
    · rw [l_lt (by omega) (by decide)] at z
      rw [l_le (by omega) (by decide)] at y
      rw [decide_eq_false (by omega)] at k
      exact k
  refine ⟨h.str, 0, 0, Nat.le_refl _, Nat.le_refl _, s_empty h ⟨fun z => ⟨h.str, 0, 0, Nat.le_refl _, Nat.le_refl _, ?_⟩, fun z => ?_⟩⟩
  · have hpos : 0 < l.length := by
      rcases Nat.eq_zero_or_pos l.length with q | q
      · rw [decide_eq_true q] at z
        exact absurd z (by decide)
      · exact q
    refine s_char (i := 0) h (List.getElem?_eq_getElem hpos) ⟨fun y => go 1 _ _ ?_ (by omega) (Nat.le_refl _) (Nat.le_refl _), fun y => go 0 _ _ ?_ (by omega) (Nat.le_refl _) (Nat.le_refl _)⟩
    · rw [sgn, List.head?_eq_getElem?, List.getElem?_eq_getElem hpos, y, if_pos rfl]
    · rw [sgn, List.head?_eq_getElem?, List.getElem?_eq_getElem hpos, if_neg (fun q => y (Option.some.inj q))]
  · have e : l = [] := by
      rcases Nat.eq_zero_or_pos l.length with q | q
      · exact List.eq_nil_of_length_eq_zero q
      · rw [decide_eq_false (by omega)] at z
        exact absurd rfl z
    exact go 0 _ _ (by rw [e]; rfl) (by omega) (Nat.le_refl _) (Nat.le_refl _)
theorem c_isName {g : Gm} {ρ : Nat → Nat × Nat} {S : StC} {post : Int32 → StC → Prop} {a : Nat} {l : List Int32} (h : StrX g S.2.2.2.2.2.1 S.2.2.2.2.2.2 ρ a l) (hl : l.length ≤ 120) (k : post (bE (isNameL l)) S) : wp_Rd_isName g post 0 0 S a := by
  refine ⟨h.str, 0, 0, Nat.le_refl _, Nat.le_refl _, s_empty h ⟨fun z => ⟨h.str, 0, 0, Nat.le_refl _, Nat.le_refl _, s_len h ⟨fun y => ⟨rfl, ?_⟩, fun y => ⟨0, 0, Nat.le_refl _, Nat.le_refl _, c_isNum h hl ?_⟩⟩⟩, fun z => ⟨rfl, ?_⟩⟩⟩
  · rw [r_lt (by decide) (by omega)] at y
    rw [isNameL, decide_eq_false (by omega)] at k
    exact k
  · rw [r_lt (by decide) (by omega)] at y
    have hpos : 0 < l.length := by
      rcases Nat.eq_zero_or_pos l.length with q | q
      · rw [decide_eq_true q] at z
        exact absurd z (by decide)
      · exact q
    rw [isNameL, decide_eq_true (by omega)] at k
    cases e : isNumL l with
    | false =>
      rw [e] at k
      exact ⟨fun _ => ⟨rfl, k⟩, fun z => absurd rfl z⟩
    | true =>
      rw [e] at k
      exact ⟨fun z => absurd z (by decide), fun _ => ⟨rfl, k⟩⟩
  · have e : l.length = 0 := by
      rcases Nat.eq_zero_or_pos l.length with q | q
      · exact q
      · rw [decide_eq_false (by omega)] at z
        exact absurd rfl z
    rw [isNameL, decide_eq_false (by omega)] at k
    exact k
theorem c_num_loop {g : Gm} {ρ : Nat → Nat × Nat} {S : StC} {post : Int32 → StC → Prop} {mc ms a : Nat} {l : List Int32} {x1 : Int32} (h : StrX g S.2.2.2.2.2.1 S.2.2.2.2.2.2 ρ a l) (hl : l.length ≤ 120) : ∀ (d j c0 z0 : Nat) (v : Int32), j + d = l.length → c0 ≤ mc → z0 ≤ ms → post (if x1 = 0 then (l.drop j).foldl (fun v c => 10 * v + c - 48) v else -((l.drop j).foldl (fun v c => 10 * v + c - 48) v)) S → wq_Rd_numberOf_28 g post mc ms (d + 1) S a x1 v (Int32.ofNat j) c0 z0 := by
  intro d
  induction d with
  | zero =>
    intro j c0 z0 v hj hc hz k
    have e : l.drop j = [] := List.drop_eq_nil_of_le (by omega)
    rw [e] at k
    refine ⟨h.str, 0, 0, hc, hz, s_len h ⟨fun _ => ⟨fun q => ?_, fun q => ?_⟩, fun z => absurd (by rw [n_le (by omega) (by omega)]; omega) z⟩⟩
    · rw [if_pos q] at k
      exact k
    · rw [if_neg q] at k
      exact k
  | succ d ih =>
    intro j c0 z0 v hj hc hz k
    have hlt : j < l.length := by omega
    have ed : l.drop j = l[j] :: l.drop (j + 1) := List.drop_eq_getElem_cons hlt
    have hch := List.getElem?_eq_getElem hlt
    rw [ed, List.foldl_cons] at k
    refine ⟨h.str, 0, 0, hc, hz, s_len h ⟨fun z => ?_, fun _ => ⟨h.str, 0, 0, hc, hz, s_char h hch ?_⟩⟩⟩
    · rw [n_le (by omega) (by omega)] at z
      omega
    · rw [of_succ]
      exact ih (j + 1) _ _ _ (by omega) hc hz k
theorem dig_fold : ∀ (l : List Int32) (v : Int32), l.all isDig = true → l.foldl (fun v c => if c = 45 then v else 10 * v + c - 48) v = l.foldl (fun v c => 10 * v + c - 48) v
  | [], _, _ => rfl
  | c :: l, v, h => by
    rw [List.all_cons, Bool.and_eq_true] at h
    have hc : ¬ c = 45 := by
      intro e
      rw [e] at h
      exact absurd h.1 (by decide)
    rw [List.foldl_cons, List.foldl_cons, if_neg hc]
    exact dig_fold l _ h.2
theorem c_numOf {g : Gm} {ρ : Nat → Nat × Nat} {S : StC} {post : Int32 → StC → Prop} {a : Nat} {l : List Int32} (h : StrX g S.2.2.2.2.2.1 S.2.2.2.2.2.2 ρ a l) (hl : l.length ≤ 120) (hn : isNumL l = true) (k : post (numL l) S) : wp_Rd_numberOf g post 0 0 S a := by
  rw [isNumL, Bool.and_eq_true, decide_eq_true_eq] at hn
  obtain ⟨⟨h1, h2⟩, h3⟩ := hn
  have hpos : 0 < l.length := by omega
  have eh : l.head? = some l[0] := by rw [List.head?_eq_getElem?, List.getElem?_eq_getElem hpos]
  have ec : l = l[0] :: l.drop 1 := by
    have := List.drop_eq_getElem_cons (l := l) (i := 0) hpos
    simpa using this
  refine ⟨h.str, 0, 0, Nat.le_refl _, Nat.le_refl _, s_char (i := 0) h (List.getElem?_eq_getElem hpos) ⟨fun y => ⟨fun q => absurd q (by decide), fun _ => ⟨l.length - 1 + 1, ?_⟩⟩, fun y => ⟨fun _ => ⟨l.length + 1, ?_⟩, fun q => absurd rfl q⟩⟩⟩
  · have es : sgn l = 1 := by rw [sgn, eh, y, if_pos rfl]
    rw [es] at h3
    refine c_num_loop (x1 := 1) h hl (l.length - 1) 1 _ _ 0 (by omega) (Nat.le_refl _) (Nat.le_refl _) ?_
    rw [if_neg (by decide)]
    rw [numL, eh, y, if_pos rfl] at k
    have e : numV l = (l.drop 1).foldl (fun v c => 10 * v + c - 48) 0 := by
      rw [← dig_fold _ _ h3, numV]
      conv => lhs; rw [ec]
      rw [List.foldl_cons, if_pos y]
    rw [e] at k
    exact k
  · have es : sgn l = 0 := by rw [sgn, eh, if_neg (fun q => y (Option.some.inj q))]
    rw [es] at h3
    refine c_num_loop (x1 := 0) h hl l.length 0 _ _ 0 (by omega) (Nat.le_refl _) (Nat.le_refl _) ?_
    rw [if_pos rfl]
    rw [numL, eh, if_neg (fun q => y (Option.some.inj q))] at k
    have e : numV l = (l.drop 0).foldl (fun v c => 10 * v + c - 48) 0 := by
      rw [← dig_fold _ _ h3, numV]
      rfl
    rw [e] at k
    exact k
/-! equal strings -/
theorem list_ext_of {l m : List Int32} {f f' : Nat → Int32} (hl : ∀ i c, l[i]? = some c → f i = c ∧ okB c) (hm : ∀ i c, m[i]? = some c → f' i = c ∧ okB c) (hn : l.length = m.length) (he : ∀ i, i < l.length → f i = f' i) : l = m := by
  apply List.ext_getElem? 
  intro i
  by_cases hi : i < l.length
  · have h1 := (hl i _ (List.getElem?_eq_getElem hi)).1
    have h2 := (hm i _ (List.getElem?_eq_getElem (by omega))).1
    rw [List.getElem?_eq_getElem hi, List.getElem?_eq_getElem (by omega), ← h1, ← h2, he i hi]
  · rw [List.getElem?_eq_none (by omega), List.getElem?_eq_none (by omega)]
theorem c_eq_loop {g : Gm} {S : StC} {post : Int32 → StC → Prop} {mc ms b b' n : Nat} {f f' : Nat → Int32} (h1 : b ∈ S.2.2.2.2.2.1) (h2 : S.2.2.2.2.2.2 b = .inl (g.2.1 3, n, .inl f)) (h3 : b' ∈ S.2.2.2.2.2.1) (h4 : S.2.2.2.2.2.2 b' = .inl (g.2.1 3, n, .inl f')) (hn : n ≤ 120) (k1 : (∀ i, i < n → f i = f' i) → post 1 S) (k0 : ¬ (∀ i, i < n → f i = f' i) → post 0 S) : ∀ (d j : Nat), j + d = n → (∀ i, i < j → f i = f' i) → wq_La_equals_9 g post mc ms (d + 1) S b b' (Int32.ofNat j) 0 0 := by
  intro d
  induction d with
  | zero =>
    intro j hj hi
    refine ⟨n, f, h1, h2, fun _ => k1 (fun i hl => hi i (by omega)), fun z => absurd (by rw [n_le (by omega) (by omega)]; omega) z⟩
  | succ d ih =>
    intro j hj hi
    refine ⟨n, f, h1, h2, fun z => ?_, fun _ => ⟨n, f, h1, h2, n_in (by omega) (by omega), n, f', h3, h4, n_in (by omega) (by omega), ?_⟩⟩
    · rw [n_le (by omega) (by omega)] at z
      omega
    · rw [n_cl (by omega), of_succ]
      refine ⟨fun z => ih (j + 1) (by omega) (fun i hl => ?_), fun z => k0 (fun q => z (q j (by omega)))⟩
      by_cases e : i = j
      · rw [e]
        exact z
      · exact hi i (by omega)
theorem c_eq {g : Gm} {ρ : Nat → Nat × Nat} {S : StC} {post : Int32 → StC → Prop} {a a' : Nat} {l m : List Int32} (h : StrAt g S.2.2.2.2.2.1 S.2.2.2.2.2.2 ρ a l) (h' : StrAt g S.2.2.2.2.2.1 S.2.2.2.2.2.2 ρ a' m) (k1 : l = m → post 1 S) (k0 : ¬ l = m → post 0 S) : wp_St_equals g post 0 0 S a a' := by
  obtain ⟨b, x, y, f, p1, p2, q1, q2, q3⟩ := h
  obtain ⟨b', x', y', f', p1', p2', q1', q2', q3'⟩ := h'
  refine ⟨fun z => k1 ?_, fun _ => ⟨_, p1'.1, p1'.2.2, by decide, _, p1'.1, p1'.2.2, by decide, _, _, p1.1, p1.2.2, rfl, _, _, p1'.1, p1'.2.2, rfl, rfl, _, _, p1.1, p1.2.2, rfl, _, _, p1'.1, p1'.2.2, rfl, 0, 0, Nat.le_refl _, Nat.le_refl _, _, _, p2.1, p2.2.2, _, _, p2'.1, p2'.2.2, fun z => ?_, fun z => ⟨fun _ => ⟨rfl, ?_⟩, fun q => absurd rfl q⟩⟩⟩
  · have e : a = a' := Option.some.inj z
    subst e
    have e1 := p1.2.2
    rw [p1'.2.2] at e1
    simp only [Sum.inr.injEq, Prod.mk.injEq, List.cons.injEq, Value.ref.injEq] at e1
    have eb : b' = b := e1.2.1
    subst eb
    have e2 := p2.2.2
    rw [p2'.2.2] at e2
    simp only [Sum.inl.injEq, Prod.mk.injEq] at e2
    exact list_ext_of q3 q3' e2.2.1.symm (fun i _ => by rw [e2.2.2])
  · rw [n_eq (by omega) (by omega)] at z
    have p2z := p2'.2.2
    rw [← z] at p2z
    refine ⟨l.length + 1, c_eq_loop p2.1 p2.2.2 p2'.1 p2z q2 (fun q => ?_) (fun q => ?_) l.length 0 (by omega) (fun i hi => absurd hi (by omega))⟩
    · exact ⟨fun w => absurd w (by decide), fun _ => ⟨rfl, k1 (list_ext_of q3 q3' z q)⟩⟩
    · refine ⟨fun _ => ⟨rfl, k0 (fun e => q (fun i hi => ?_))⟩, fun w => absurd rfl w⟩
      have g1 := List.getElem?_eq_getElem hi
      have g2 : m[i]? = some l[i] := e ▸ g1
      rw [(q3 i _ g1).1]
      exact (q3' i _ g2).1.symm
  · rw [n_eq (by omega) (by omega)] at z
    exact k0 (fun e => z (by rw [e]))
