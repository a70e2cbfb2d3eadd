theorem lenJ_at : ∀ i, i < 52 → lenJ.getD i 0 = (bytJ.getD i []).length := by decide +kernel
theorem bytJ_inj : ∀ i, i < 52 → ∀ j, j < 52 → bytJ.getD i [] = bytJ.getD j [] → i = j := by decide +kernel
theorem c_eqC_loop {g : Gm} {S : StC} {post : Int32 → StC → Prop} {mc ms b n i : Nat} {f : Nat → Int32} (hi : i < 52) (h1 : b ∈ S.2.2.2.2.2.1) (h2 : S.2.2.2.2.2.2 b = .inl (g.2.1 3, n, .inl f)) (hn : n ≤ 120) (hl : (bytJ.getD i []).length = n) (k1 : (∀ j, j < n → (bytJ.getD i []).getD j 0 = f j) → post 1 S) (k0 : ¬ (∀ j, j < n → (bytJ.getD i []).getD j 0 = f j) → post 0 S) : ∀ (d j : Nat), j + d = n → (∀ x, x < j → (bytJ.getD i []).getD x 0 = f x) → wq_La_equalsC_9 g post mc ms (d + 1) S i b (Int32.ofNat j) 0 0 := by
  have eL := lenJ_at i hi
  rw [hl] at eL
  intro d
  induction d with
  | zero =>
    intro j hj hx
    refine ⟨by omega, ?_⟩
    rw [eL]
    exact ⟨fun _ => k1 (fun x hl => hx x (by omega)), fun z => absurd (by rw [n_le (by omega) (by omega)]; omega) z⟩
  | succ d ih =>
    intro j hj hx
    refine ⟨by omega, ?_⟩
    rw [eL]
    refine ⟨fun z => ?_, fun _ => ⟨by omega, n_in (by omega) (by omega), n, f, h1, h2, n_in (by omega) (by omega), ?_⟩⟩
    · rw [n_le (by omega) (by omega)] at z
      omega
    · rw [n_cl (by omega), of_succ]
      refine ⟨fun z => ih (j + 1) (by omega) (fun x hl => ?_), fun z => k0 (fun q => z (q j (by omega)))⟩
      by_cases e : x = j
      · rw [e]
        exact z
      · exact hx x (by omega)
theorem c_eqC {g : Gm} {ρ : Nat → Nat × Nat} {S : StC} {post : Int32 → StC → Prop} {i a : Nat} {l : List Int32} (hi : i < 52) (h : StrAt g S.2.2.2.2.2.1 S.2.2.2.2.2.2 ρ a l) (k1 : bytJ.getD i [] = l → post 1 S) (k0 : ¬ bytJ.getD i [] = l → post 0 S) : wp_St_equalsC g post 0 0 S i a := by
  obtain ⟨b, x, y, f, p1, p2, q1, q2, q3⟩ := h
  have hb := bytJ_ok i hi
  have eL := lenJ_at i hi
  refine ⟨⟨by omega, p1.1⟩, fun _ => ⟨_, p1.1, p1.2.2, by decide, _, p1.1, p1.2.2, by decide, by omega, _, _, p1.1, p1.2.2, rfl, rfl, by omega, _, _, p1.1, p1.2.2, rfl, 0, 0, Nat.le_refl _, Nat.le_refl _, by omega, _, _, p2.1, p2.2.2, fun z => ?_, fun z => ⟨fun _ => ⟨rfl, ?_⟩, fun q => absurd rfl q⟩⟩⟩
  · rw [eL, n_eq (by have := hb.2.1; omega) (by omega)] at z
    refine ⟨l.length + 1, c_eqC_loop hi p2.1 p2.2.2 q2 z (fun q => ?_) (fun q => ?_) l.length 0 (by omega) (fun x hx => absurd hx (by omega))⟩
    · refine ⟨fun w => absurd w (by decide), fun _ => ⟨rfl, k1 ?_⟩⟩
      refine list_ext_of (f := fun j => (bytJ.getD i []).getD j 0) (fun j c hc => ⟨?_, hb.2.2 c (List.mem_of_getElem? hc)⟩) q3 z (fun j hj => q j (by omega))
      rw [List.getD_eq_getElem?_getD, hc]
      rfl
    · refine ⟨fun _ => ⟨rfl, k0 (fun e => q (fun j hj => ?_))⟩, fun w => absurd rfl w⟩
      rw [e, List.getD_eq_getElem?_getD, List.getElem?_eq_getElem hj]
      exact (q3 j _ (List.getElem?_eq_getElem hj)).1.symm
  · rw [eL, n_eq (by have := hb.2.1; omega) (by omega)] at z
    exact k0 (fun e => z (by rw [e]))
theorem fd_none {f : Nat → List Int32} {l : List Int32} : ∀ {n : Nat}, (∀ i, i < n → ¬ f i = l) → fd f l n = none
  | 0, _ => rfl
  | n + 1, h => by
    rw [fd, if_neg (h n (by omega))]
    exact fd_none (fun i hi => h i (by omega))
theorem fd_uniq {f : Nat → List Int32} {l : List Int32} {j : Nat} (hj : f j = l) : ∀ {n : Nat}, j < n → (∀ i, i < n → f i = l → i = j) → fd f l n = some j
  | 0, h, _ => absurd h (by omega)
  | n + 1, h, hu => by
    rw [fd]
    by_cases e : f n = l
    · rw [if_pos e, hu n (by omega) e]
    · rw [if_neg e]
      have hn : j ≠ n := fun z => e (z ▸ hj)
      exact fd_uniq hj (by omega) (fun i hi => hu i (by omega))
theorem nmA_lt {ws : List Wd} {k : Nat} (h : k < 52) : nmA ws k = bytJ.getD k [] := by rw [nmA, if_pos h]
theorem nmA_ge {ws : List Wd} {k : Nat} {w : Wd} (h : ws[k]? = some w) : nmA ws (52 + k) = w.nm := by
  rw [nmA, if_neg (by omega), show 52 + k - 52 = k by omega, h]
theorem c_bfind {g : Gm} {ρ : Nat → Nat × Nat} {S : StC} {post : Int32 → StC → Prop} {mc ms a : Nat} {l : List Int32} {ws : List Wd} (hG : ∀ i j, i < 52 → j < 52 → g.2.2 (100 + i) = g.2.2 (100 + j) → i = j) (h : StrAt g S.2.2.2.2.2.1 S.2.2.2.2.2.2 ρ a l) (k : post (fE ((fd (nmA ws) l 52).map numT)) S) : ∀ (d j c0 z0 : Nat), j + d = 52 → c0 ≤ mc → z0 ≤ ms → (∀ i, i < j → ¬ bytJ.getD i [] = l) → wq_Bi_find_2 g post mc ms (d + 1) S a (Int32.ofNat j) c0 z0 := by
  intro d
  induction d with
  | zero =>
    intro j c0 z0 hj hc hz hx
    have e : fd (nmA ws) l 52 = none := fd_none (fun i hi => by rw [nmA_lt hi]; exact hx i (by omega))
    rw [e] at k
    exact ⟨fun _ => k, fun z => absurd (by rw [r_le (by decide) (by omega)]; omega) z⟩
  | succ d ih =>
    intro j c0 z0 hj hc hz hx
    have eN : (Int32.ofNat j).toNatClampNeg = j := n_cl (by omega)
    refine ⟨fun z => ?_, fun _ => ⟨n_in (by omega) (by omega), ?_⟩⟩
    · rw [r_le (by decide) (by omega)] at z
      omega
    rw [eN]
    refine ⟨j, by omega, rfl, by omega, 0, 0, hc, hz, c_eqC (by omega) h (fun e => ?_) (fun e => ?_)⟩
    · refine ⟨fun q => absurd q (by decide), fun _ => ⟨n_in (by omega) (by omega), j, by omega, rfl, ?_⟩⟩
      have ef : fd (nmA ws) l 52 = some j := fd_uniq (by rw [nmA_lt (by omega)]; exact e) (by omega) (fun i hi q => by
        rw [nmA_lt hi] at q
        exact bytJ_inj i hi j (by omega) (q.trans e.symm))
      rw [ef] at k
      rw [numE_at j (by omega)]
      have : numT j = j := by rw [numT, if_pos (by omega)]
      have k : post (Int32.ofNat (numT j)) S := k
      rw [this] at k
      exact k
    · refine ⟨fun _ => ?_, fun q => absurd rfl q⟩
      rw [of_succ]
      refine ih (j + 1) _ _ (by omega) hc hz (fun i hi => ?_)
      by_cases q : i = j
      · rw [q]
        exact e
      · exact hx i (by omega)
theorem add_neg1 (x : Int32) : x + (-1) = x - 1 := (Int32.sub_eq_add_neg x 1).symm
theorem c_dfind {g : Gm} {ρ : Nat → Nat × Nat} {A : Ab} {S : StC} {post : Int32 → StC → Prop} {mc ms a : Nat} {l : List Int32} (h : RCw g ρ A S) (ha : StrAt g S.2.2.2.2.2.1 S.2.2.2.2.2.2 ρ a l) : ∀ (n c0 z0 : Nat), n ≤ A.ws.length → c0 ≤ mc → z0 ≤ ms → post (fE ((fd (nmA A.ws) l (52 + n)).map numT)) S → wq_Di_find_7 g post mc ms (n + 1) S a (Int32.ofNat n - 1) c0 z0 := by
  have hB := h.kMadeB
  intro n
  induction n with
  | zero =>
    intro c0 z0 hn hc hz k
    refine ⟨fun _ => ⟨0, 0, hc, hz, 53, c_bfind h.kG ha k 52 0 0 0 (by omega) (Nat.le_refl _) (Nat.le_refl _) (fun i hi => absurd hi (by omega))⟩, fun z => absurd (by decide) z⟩
  | succ n ih =>
    intro c0 z0 hn hc hz k
    have e1 : Int32.ofNat (n + 1) - 1 = Int32.ofNat n := n_sub (a := n + 1) (b := 1) (by omega)
    rw [e1]
    have hlt : n < A.ws.length := by omega
    obtain ⟨b, eb, s, x, y, fk, fv, p1, p2, p3, p4, p5, p6⟩ := h.kWs n A.ws[n] (List.getElem?_eq_getElem hlt)
    have eN : (Int32.ofNat n).toNatClampNeg = n := n_cl (by omega)
    have enm : nmA A.ws (52 + n) = A.ws[n].nm := nmA_ge (List.getElem?_eq_getElem hlt)
    rw [show 52 + (n + 1) = (52 + n) + 1 by omega, fd, enm] at k
    refine ⟨fun z => ?_, fun _ => ⟨n_in (by omega) (by omega), ?_⟩⟩
    · rw [l_lt (by omega) (by decide)] at z
      omega
    rw [eN, eb]
    refine ⟨fun z => (by cases z), fun y5 e => ?_⟩
    cases e
    have hs : StrX g S.2.2.2.2.2.1 S.2.2.2.2.2.2 ρ s A.ws[n].nm := Or.inr p4
    refine ⟨_, _, p1.1, p1.2.2, rfl, hs.str, 0, 0, hc, hz, c_eq p4 ha (fun e => ?_) (fun e => ?_)⟩
    · rw [if_pos e] at k
      refine ⟨fun q => absurd q (by decide), fun _ => ?_⟩
      have e2 : numT (52 + n) = 100 + n := by rw [numT, if_neg (by omega)]; omega
      have k : post (Int32.ofNat (numT (52 + n))) S := k
      rw [e2] at k
      rw [show (100 : Int32) + Int32.ofNat n = Int32.ofNat (100 + n) from n_add 100 n]
      exact k
    · rw [if_neg e] at k
      refine ⟨fun _ => ?_, fun q => absurd rfl q⟩
      show wq_Di_find_7 g post mc ms (n + 1) S a (Int32.ofNat n + (-1)) _ _
      rw [add_neg1]
      exact ih _ _ (by omega) hc hz k
theorem c_find {g : Gm} {ρ : Nat → Nat × Nat} {A : Ab} {S : StC} {post : Int32 → StC → Prop} {a : Nat} {l : List Int32} (h : RCw g ρ A S) (ha : StrAt g S.2.2.2.2.2.1 S.2.2.2.2.2.2 ρ a l) (hn : isNameL l = true) (k : post (fE (findA A.ws l)) S) : wp_Di_find g post 0 0 S a := by
  rw [findA, if_pos hn] at k
  refine ⟨A.ws.length + 1, ?_⟩
  rw [h.kMade]
  exact c_dfind h ha A.ws.length 0 0 (Nat.le_refl _) (Nat.le_refl _) (Nat.le_refl _) k
