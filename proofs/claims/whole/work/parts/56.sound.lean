theorem okT.mono {m t : Nat} (h : okT m t) : okT (m + 1) t := by unfold okT at *; omega
theorem itOK.mono {m len i : Nat} {nd : Nat → Nat} {p : Nat × Int32} (h : itOK m len nd i p) : itOK (m + 1) len nd i p := by
  obtain ⟨kd, num⟩ := p
  match kd, h with
  | 0, ⟨h1, t, e, ht⟩ => exact ⟨h1, t, e, ht.imp id okT.mono⟩
  | 1, h => exact h
  | 2, h => exact h
  | 3, h => exact h
  | 4, h => exact h
  | 5, h => exact h
theorem WdOK.mono {m : Nat} {w : Wd} (h : WdOK m w) : WdOK (m + 1) w := ⟨h.nd0, h.len, fun i p hp => (h.it i p hp).mono⟩
def pend (op : List (Nat × Nat)) (i : Nat) : Prop := ∃ x ∈ op, x.2 = i ∧ (x.1 = 41 ∨ x.1 = 43 ∨ x.1 = 47)
def DX (m : Nat) (w : Wd) (P : Nat → Prop) : Prop := (w.im = false) ∧ (w.it.length ≤ 60) ∧ (w.nd 0 = 0) ∧ (∀ i p, w.it[i]? = some p → itOK (m + 1) w.it.length w.nd i p ∨ P i)
theorem DX.im {m : Nat} {w : Wd} {P : Nat → Prop} (h : DX m w P) : w.im = false := h.1
theorem DX.len {m : Nat} {w : Wd} {P : Nat → Prop} (h : DX m w P) : w.it.length ≤ 60 := h.2.1
theorem DX.nd0 {m : Nat} {w : Wd} {P : Nat → Prop} (h : DX m w P) : w.nd 0 = 0 := h.2.2.1
theorem DX.it {m : Nat} {w : Wd} {P : Nat → Prop} (h : DX m w P) : ∀ i p, w.it[i]? = some p → itOK (m + 1) w.it.length w.nd i p ∨ P i := h.2.2.2
theorem DX.mk {m : Nat} {w : Wd} {P : Nat → Prop} (im0 : w.im = false) (len0 : w.it.length ≤ 60) (nd00 : w.nd 0 = 0) (it0 : ∀ i p, w.it[i]? = some p → itOK (m + 1) w.it.length w.nd i p ∨ P i) : DX m w P := ⟨im0, len0, nd00, it0⟩
theorem DrOK.dx {m : Nat} {w : Wd} {op : List (Nat × Nat)} (h : DrOK m w op) : DX m w (pend op) := ⟨h.im, h.len, h.nd0, h.it⟩
theorem add_nd {w : Wd} {kd j : Nat} {num : Int32} (h : j ≤ w.it.length) : (addIt w kd num).nd j = w.nd j := by
  show (if j = w.it.length + 1 then _ else _) = _
  rw [if_neg (by omega)]
theorem add_nd1 (w : Wd) (kd : Nat) (num : Int32) : (addIt w kd num).nd (w.it.length + 1) = ndN kd (w.nd w.it.length) := by
  show (if w.it.length + 1 = w.it.length + 1 then _ else _) = _
  rw [if_pos rfl]
theorem add_it {w : Wd} {kd i : Nat} {num : Int32} (h : i < w.it.length) : (addIt w kd num).it[i]? = w.it[i]? := by
  show (w.it ++ [(kd, num)])[i]? = _
  rw [List.getElem?_append_left h]
theorem add_it1 (w : Wd) (kd : Nat) (num : Int32) : (addIt w kd num).it[w.it.length]? = some (kd, num) := by
  show (w.it ++ [(kd, num)])[w.it.length]? = _
  rw [List.getElem?_append_right (Nat.le_refl _)]
  simp
theorem get_lt {α : Type} {l : List α} {i : Nat} {x : α} (h : l[i]? = some x) : i < l.length := by
  rcases Nat.lt_or_ge i l.length with h' | h'
  · exact h'
  · simp [List.getElem?_eq_none h'] at h
theorem itOK_more {m len i : Nat} {nd nd' : Nat → Nat} {p : Nat × Int32} (h : itOK m len nd i p) (hi : i < len) (e : ∀ j, j ≤ len → nd' j = nd j) : itOK m (len + 1) nd' i p := by
  obtain ⟨kd, num⟩ := p
  have e0 := e i (by omega)
  have e1 := e (i + 1) (by omega)
  match kd, h with
  | 0, ⟨h1, h2⟩ => exact ⟨by rw [e0, e1]; exact h1, h2⟩
  | 1, h =>
    have h : nd (i + 1) = nd i := h
    show nd' (i + 1) = nd' i
    rw [e0, e1]
    exact h
  | 2, ⟨h1, q, hq, h2, h3⟩ => exact ⟨by rw [e0, e1]; exact h1, q, by omega, h2, by rw [e0, e q hq]; exact h3⟩
  | 3, ⟨q, hq, h2, h3⟩ => exact ⟨q, by omega, h2, by rw [e0, e q hq]; exact h3⟩
  | 4, h =>
    have h : nd (i + 1) = nd i + 1 := h
    show nd' (i + 1) = nd' i + 1
    rw [e0, e1]
    exact h
  | 5, ⟨q, hq, h2, h3, h4⟩ => exact ⟨q, by omega, h2, by rw [e0, e1]; exact h3, by rw [e0, e q hq]; exact h4⟩
theorem itOK_w {m len i t : Nat} {nd : Nat → Nat} (h1 : nd (i + 1) = nd i) (ht : t = 31 ∨ okT m t) : itOK m len nd i (0, Int32.ofNat t) := by
  show nd (i + 1) = nd i ∧ ∃ s, Int32.ofNat t = Int32.ofNat s ∧ (s = 31 ∨ okT m s)
  exact ⟨h1, t, rfl, ht⟩
theorem DX.add {m kd : Nat} {w : Wd} {num : Int32} {P P' : Nat → Prop} (h : DX m w P) (hl : w.it.length < 60) (hn : itOK (m + 1) (w.it.length + 1) (addIt w kd num).nd w.it.length (kd, num) ∨ P' w.it.length) (hP : ∀ i, i < w.it.length → P i → P' i) : DX m (addIt w kd num) P' := by
  refine ⟨h.im, by rw [add_len]; omega, by rw [add_nd (Nat.zero_le _)]; exact h.nd0, fun i p hp => ?_⟩
  have hi := get_lt hp
  rw [add_len] at hi ⊢
  by_cases e : i = w.it.length
  · subst e
    rw [add_it1] at hp
    cases hp
    exact hn
  · have hi : i < w.it.length := by omega
    rw [add_it hi] at hp
    exact (h.it i p hp).imp (fun q => itOK_more q hi (fun j hj => add_nd hj)) (hP i hi)
theorem aim_it {w : Wd} {q i : Nat} (h : q ≠ i) : (aimW w q).it[i]? = w.it[i]? := by
  show (w.it.set q _)[i]? = _
  rw [List.getElem?_set, if_neg h]
theorem aim_it1 {w : Wd} {q : Nat} {p : Nat × Int32} (h : w.it[q]? = some p) : (aimW w q).it[q]? = some (p.1, Int32.ofNat w.it.length) := by
  show (w.it.set q ((w.it.getD q (0, 0)).1, Int32.ofNat w.it.length))[q]? = _
  rw [List.getElem?_set, if_pos rfl, if_pos (get_lt h), List.getD_eq_getElem?_getD, h]
  rfl
theorem DX.aim {m q : Nat} {w : Wd} {P P' : Nat → Prop} (h : DX m w P) (hk : ((∃ n, w.it[q]? = some (2, n)) ∧ w.nd (q + 1) = w.nd q) ∨ ∃ n, w.it[q]? = some (3, n)) (hd : w.nd w.it.length = w.nd q) (hP : ∀ i, P i → i = q ∨ P' i) : DX m (aimW w q) P' := by
  refine ⟨h.im, by rw [aim_len]; exact h.len, h.nd0, fun i p hp => ?_⟩
  rw [aim_len]
  by_cases e : q = i
  · subst e
    rcases hk with ⟨⟨n, hn⟩, h1⟩ | ⟨n, hn⟩
    · rw [aim_it1 hn] at hp
      cases hp
      exact Or.inl ⟨h1, w.it.length, Nat.le_refl _, rfl, hd⟩
    · rw [aim_it1 hn] at hp
      cases hp
      exact Or.inl ⟨w.it.length, Nat.le_refl _, rfl, hd⟩
  · rw [aim_it e] at hp
    rcases h.it i p hp with h1 | h1
    · exact Or.inl h1
    · rcases hP i h1 with h2 | h2
      · exact absurd h2.symm e
      · exact Or.inr h2
theorem OpOK.add {w : Wd} {kd : Nat} {num : Int32} : ∀ {op : List (Nat × Nat)}, OpOK w op → OpOK (addIt w kd num) op
  | [], _ => trivial
  | x :: r, h => by
    refine ⟨h.1.add, ?_⟩
    rcases h.2 with ⟨h1, h2, h3⟩ | ⟨h1, h2, h3⟩ | ⟨h1, h2, h3⟩
    · refine Or.inl ⟨?_, ?_, h3⟩
      · rcases h1 with ⟨h1, ⟨n, hn⟩, h4⟩ | ⟨h1, n, hn⟩
        · have hl := get_lt hn
          exact Or.inl ⟨h1, ⟨n, by rw [add_it hl]; exact hn⟩, by rw [add_nd (by omega), add_nd (by omega)]; exact h4⟩
        · have hl := get_lt hn
          exact Or.inr ⟨h1, n, by rw [add_it hl]; exact hn⟩
      · have hl : x.2 < w.it.length := by
          rcases h1 with ⟨-, ⟨n, hn⟩, -⟩ | ⟨-, n, hn⟩ <;> exact get_lt hn
        rw [add_nd (by omega)]
        exact h2
    · exact Or.inr (Or.inl ⟨h1, by rw [add_len]; omega, by rw [add_nd h2]; exact h3⟩)
    · exact Or.inr (Or.inr ⟨h1, by rw [add_len]; omega, by rw [add_nd h2]; exact h3⟩)
theorem OpOK.aim {w : Wd} {q : Nat} : ∀ {op : List (Nat × Nat)}, OpOK w op → OpOK (aimW w q) op
  | [], _ => trivial
  | x :: r, h => by
    have hg : ∀ k n, w.it[x.2]? = some (k, n) → ∃ n, (aimW w q).it[x.2]? = some (k, n) := by
      intro k n hn
      by_cases e : q = x.2
      · subst e
        exact ⟨_, aim_it1 hn⟩
      · exact ⟨n, by rw [aim_it e]; exact hn⟩
    refine ⟨h.1.aim, ?_⟩
    rcases h.2 with ⟨h1, h2, h3⟩ | ⟨h1, h2, h3⟩ | ⟨h1, h2, h3⟩
    · refine Or.inl ⟨?_, h2, h3⟩
      rcases h1 with ⟨h1, ⟨n, hn⟩, h4⟩ | ⟨h1, n, hn⟩
      · exact Or.inl ⟨h1, hg _ _ hn, h4⟩
      · exact Or.inr ⟨h1, hg _ _ hn⟩
    · exact Or.inr (Or.inl ⟨h1, by rw [aim_len]; exact h2, h3⟩)
    · exact Or.inr (Or.inr ⟨h1, by rw [aim_len]; exact h2, h3⟩)
theorem DX.dr {m : Nat} {w : Wd} {op : List (Nat × Nat)} (h : DX m w (pend op)) (h1 : w.nd w.it.length = dos op) (h2 : OpOK w op) : DrOK m w op := ⟨h.im, h.len, h.nd0, h1, h2, h.it⟩
theorem pend_cons {x : Nat × Nat} {op : List (Nat × Nat)} {i : Nat} (h : pend op i) : pend (x :: op) i := by
  obtain ⟨y, hy, h⟩ := h
  exact ⟨y, List.mem_cons_of_mem _ hy, h⟩
theorem pend_tail {x : Nat × Nat} {r : List (Nat × Nat)} {i : Nat} (h : pend (x :: r) i) : (i = x.2 ∧ (x.1 = 41 ∨ x.1 = 43 ∨ x.1 = 47)) ∨ pend r i := by
  obtain ⟨y, hy, h1, h2⟩ := h
  rcases List.mem_cons.mp hy with e | e
  · subst e
    exact Or.inl ⟨h1.symm, h2⟩
  · exact Or.inr ⟨y, e, h1, h2⟩
theorem nd_len {w : Wd} {kd : Nat} {num : Int32} : (addIt w kd num).nd (addIt w kd num).it.length = ndN kd (w.nd w.it.length) := by
  rw [add_len, add_nd1]
theorem dos_ne {x : Nat × Nat} {r : List (Nat × Nat)} (h : x.1 ≠ 49) : dos (x :: r) = dos r := by rw [dos, if_neg h]
theorem dos_do {x : Nat × Nat} {r : List (Nat × Nat)} (h : x.1 = 49) : dos (x :: r) = dos r + 1 := by rw [dos, if_pos h]
theorem ctlW_dr {k : Nat} {A : Ab} {w : Wd} (hk : 41 ≤ k ∧ k ≤ 51) (hd : A.dr = some w) (h : DrOK A.ws.length w A.op) (h0 : (ctlW k A w).1 = 0) : ∃ w', (ctlW k A w).2.dr = some w' ∧ w'.nm = w.nm ∧ DrOK A.ws.length w' (ctlW k A w).2.op ∧ (ctlW k A w).2.ws = A.ws ∧ (ctlW k A w).2.cs = A.cs ∧ (ctlW k A w).2.fu = A.fu := by
  have hl := h.len
  have no : ∀ (e : Int32) (B : Ab), e ≠ 0 → (e, B).1 = 0 → False := fun e B he hq => he hq
  -- what compR comes to
  have cp : ∀ (kd : Nat) (num : Int32) (op : List (Nat × Nat)) (f : Wd → Wd), (compR A w kd num op f).1 = 0 → w.it.length < 60 ∧ compR A w kd num op f = (0, (Ab.set_op (Ab.set_dr A (some (f (addIt w kd num)))) (op))) := by
    intro kd num op f hq
    unfold compR at hq ⊢
    by_cases e : w.it.length < 60
    · rw [if_pos e]
      exact ⟨e, rfl⟩
    · rw [if_neg e] at hq
      exact absurd hq (show (3 : Int32) ≠ 0 by decide)
  have fin : ∀ (kd : Nat) (num : Int32) (op : List (Nat × Nat)) (f : Wd → Wd), (∀ v, (f v).nm = v.nm) → (compR A w kd num op f).1 = 0 → (w.it.length < 60 → DrOK A.ws.length (f (addIt w kd num)) op) → ∃ w', (compR A w kd num op f).2.dr = some w' ∧ w'.nm = w.nm ∧ DrOK A.ws.length w' (compR A w kd num op f).2.op ∧ (compR A w kd num op f).2.ws = A.ws ∧ (compR A w kd num op f).2.cs = A.cs ∧ (compR A w kd num op f).2.fu = A.fu := by
    intro kd num op f hf hq hd
    obtain ⟨hl, e⟩ := cp kd num op f hq
    rw [e]
    exact ⟨_, rfl, hf _, hd hl, rfl, rfl, rfl⟩
  match k, hk with
  | 41, _ =>
    have e : ctlW 41 A w = if A.op.length < 8 then compR A w 2 0 ((41, w.it.length) :: A.op) id else (3, A) := rfl
    rw [e] at h0 ⊢
    by_cases c : A.op.length < 8
    · rw [if_pos c] at h0 ⊢
      refine fin _ _ _ _ (fun _ => rfl) h0 (fun hl => ?_)
      refine (h.dx.add hl (Or.inr ⟨_, List.mem_cons_self .., rfl, Or.inl rfl⟩) (fun i _ q => pend_cons q)).dr ?_ ⟨h.ops.add, Or.inl ⟨Or.inl ⟨Or.inl rfl, ⟨_, add_it1 ..⟩, ?_⟩, ?_, fun q => by cases q⟩⟩
      · show (addIt w 2 0).nd (addIt w 2 0).it.length = _
        rw [nd_len, dos_ne (show (41 : Nat) ≠ 49 by decide)]
        exact h.ndl
      · rw [add_nd1, add_nd (Nat.le_refl _)]
        rfl
      · rw [add_nd (Nat.le_refl _)]
        exact h.ndl
    · rw [if_neg c] at h0
      exact absurd h0 (show (3 : Int32) ≠ 0 by decide)
  | 49, _ =>
    have e : ctlW 49 A w = if A.op.length < 8 then compR A w 4 0 ((49, w.it.length + 1) :: A.op) id else (3, A) := rfl
    rw [e] at h0 ⊢
    by_cases c : A.op.length < 8
    · rw [if_pos c] at h0 ⊢
      refine fin _ _ _ _ (fun _ => rfl) h0 (fun hl => ?_)
      have e1 : (addIt w 4 0).nd (w.it.length + 1) = w.nd w.it.length + 1 := add_nd1 w 4 0
      refine (h.dx.add hl (Or.inl ?_) (fun i _ q => pend_cons q)).dr ?_ ⟨h.ops.add, Or.inr (Or.inr ⟨rfl, ?_, ?_⟩)⟩
      · show (addIt w 4 0).nd (w.it.length + 1) = (addIt w 4 0).nd w.it.length + 1
        rw [e1, add_nd (Nat.le_refl _)]
      · show (addIt w 4 0).nd (addIt w 4 0).it.length = _
        rw [nd_len, dos_do rfl, ← h.ndl]
        rfl
      · show w.it.length + 1 ≤ (addIt w 4 0).it.length
        rw [add_len]
        exact Nat.le_refl _
      · show (addIt w 4 0).nd (w.it.length + 1) = _
        rw [e1, h.ndl]
    · rw [if_neg c] at h0
      exact absurd h0 (show (3 : Int32) ≠ 0 by decide)
  | 44, _ =>
    have e : ctlW 44 A w = if A.op.length < 8 then (0, (Ab.set_op A ((44, w.it.length) :: A.op))) else (3, A) := rfl
    rw [e] at h0 ⊢
    by_cases c : A.op.length < 8
    · rw [if_pos c]
      refine ⟨w, hd, rfl, ?_, rfl, rfl, rfl⟩
      refine DX.dr ⟨h.im, h.len, h.nd0, fun i p hp => (h.it i p hp).imp id (fun q => pend_cons q)⟩ ?_ ⟨h.ops, Or.inr (Or.inl ⟨rfl, Nat.le_refl _, h.ndl⟩)⟩
      show w.nd w.it.length = dos ((44, w.it.length) :: A.op)
      rw [dos_ne (show (44 : Nat) ≠ 49 by decide)]
      exact h.ndl
    · rw [if_neg c] at h0
      exact absurd h0 (show (3 : Int32) ≠ 0 by decide)
  | 51, _ =>
    have e : ctlW 51 A w = compR A w 0 (Int32.ofNat (100 + A.ws.length)) A.op id := rfl
    rw [e] at h0 ⊢
    refine fin _ _ _ _ (fun _ => rfl) h0 (fun hl => ?_)
    refine (h.dx.add (kd := 0) (num := Int32.ofNat (100 + A.ws.length)) hl (Or.inl (itOK_w ?_ (Or.inr (by unfold okT; omega)))) (fun i _ q => q)).dr ?_ h.ops.add
    · rw [add_nd1, add_nd (Nat.le_refl _)]
      rfl
    · show (addIt w 0 _).nd (addIt w 0 _).it.length = _
      rw [nd_len]
      exact h.ndl
  | 42, _ =>
    have e : ctlW 42 A w = match A.op with
      | [] => (6, A)
      | x :: r => if x.1 = 41 ∨ x.1 = 43 then (0, (Ab.set_op (Ab.set_dr A (some (aimW w x.2))) (r))) else (6, A) := rfl
    rw [e] at h0 ⊢
    match ho : A.op with
    | [] =>
      rw [ho] at h0
      exact absurd h0 (show (6 : Int32) ≠ 0 by decide)
    | x :: r =>
      rw [ho] at h0
      dsimp only at h0 ⊢
      by_cases c : x.1 = 41 ∨ x.1 = 43
      · rw [if_pos c]
        refine ⟨_, rfl, rfl, ?_, rfl, rfl, rfl⟩
        have hO := h.ops
        have hn := h.ndl
        have hX := h.dx
        rw [ho] at hO hn hX
        rw [dos_ne (by omega)] at hn
        obtain ⟨hr, ⟨h1, h2, -⟩ | h1 | h1⟩ := hO
        · refine (hX.aim ?_ (by rw [hn, h2]) (fun i q => (pend_tail q).imp (fun z => z.1) id)).dr ?_ hr.aim
          · rcases h1 with ⟨-, h1, h4⟩ | ⟨-, h1⟩
            · exact Or.inl ⟨h1, h4⟩
            · exact Or.inr h1
          · rw [aim_len]
            exact hn
        · omega
        · omega
      · rw [if_neg c] at h0
        exact absurd h0 (show (6 : Int32) ≠ 0 by decide)
  | 43, _ =>
    have e : ctlW 43 A w = match A.op with
      | [] => (6, A)
      | x :: r => if x.1 = 41 then compR A w 3 0 ((43, w.it.length) :: r) (fun v => aimW v x.2) else (6, A) := rfl
    rw [e] at h0 ⊢
    match ho : A.op with
    | [] =>
      rw [ho] at h0
      exact absurd h0 (show (6 : Int32) ≠ 0 by decide)
    | x :: r =>
      rw [ho] at h0
      dsimp only at h0 ⊢
      by_cases c : x.1 = 41
      · rw [if_pos c] at h0 ⊢
        refine fin _ _ _ _ (fun _ => rfl) h0 (fun hl => ?_)
        have hO := h.ops
        have hn := h.ndl
        have hX := h.dx
        rw [ho] at hO hn hX
        rw [dos_ne (by omega)] at hn
        obtain ⟨hr, ⟨h1, h2, -⟩ | h1 | h1⟩ := hO
        · rcases h1 with ⟨-, ⟨n, hg⟩, h4⟩ | ⟨h1, -⟩
          · have hxl := get_lt hg
            have e1 : (addIt w 3 0).nd (addIt w 3 0).it.length = w.nd w.it.length := nd_len
            have hY : DX A.ws.length (addIt w 3 0) (fun i => i = x.2 ∨ pend ((43, w.it.length) :: r) i) := hX.add hl (Or.inr (Or.inr ⟨_, List.mem_cons_self .., rfl, Or.inr (Or.inl rfl)⟩)) (fun i _ q => (pend_tail q).imp (fun z => z.1) (fun z => pend_cons z))
            refine (hY.aim (Or.inl ⟨⟨n, by rw [add_it hxl]; exact hg⟩, by rw [add_nd (by omega), add_nd (by omega)]; exact h4⟩) (by rw [e1, add_nd (by omega), hn, h2]) (fun i q => q)).dr ?_ ⟨hr.add.aim, Or.inl ⟨Or.inr ⟨rfl, 0, ?_⟩, ?_, fun q => by cases q⟩⟩
            · rw [aim_len]
              show (addIt w 3 0).nd (addIt w 3 0).it.length = _
              rw [e1, dos_ne (show (43 : Nat) ≠ 49 by decide)]
              exact hn
            · rw [aim_it (show x.2 ≠ w.it.length by omega)]
              exact add_it1 ..
            · show (addIt w 3 0).nd w.it.length = dos r
              rw [add_nd (Nat.le_refl _)]
              exact hn
          · omega
        · omega
        · omega
      · rw [if_neg c] at h0
        exact absurd h0 (show (6 : Int32) ≠ 0 by decide)
  | 45, _ =>
    have e : ctlW 45 A w = match A.op with
      | [] => (6, A)
      | x :: r => if x.1 = 44 then compR A w 2 (Int32.ofNat x.2) r id else (6, A) := rfl
    rw [e] at h0 ⊢
    match ho : A.op with
    | [] =>
      rw [ho] at h0
      exact absurd h0 (show (6 : Int32) ≠ 0 by decide)
    | x :: r =>
      rw [ho] at h0
      dsimp only at h0 ⊢
      by_cases c : x.1 = 44
      · rw [if_pos c] at h0 ⊢
        refine fin _ _ _ _ (fun _ => rfl) h0 (fun hl => ?_)
        have hO := h.ops
        have hn := h.ndl
        have hX := h.dx
        rw [ho] at hO hn hX
        rw [dos_ne (by omega)] at hn
        obtain ⟨hr, ⟨h1, -, -⟩ | ⟨-, h1, h2⟩ | ⟨h1, -⟩⟩ := hO
        · omega
        · refine (hX.add (kd := 2) (num := Int32.ofNat x.2) hl (Or.inl ⟨?_, x.2, by omega, rfl, ?_⟩) (fun i _ q => (pend_tail q).resolve_left (by omega))).dr ?_ hr.add
          · rw [add_nd1, add_nd (Nat.le_refl _)]
            rfl
          · rw [add_nd h1, add_nd (Nat.le_refl _), hn, h2]
          · show (addIt w 2 _).nd (addIt w 2 _).it.length = _
            rw [nd_len]
            exact hn
        · omega
      · rw [if_neg c] at h0
        exact absurd h0 (show (6 : Int32) ≠ 0 by decide)
  | 46, _ =>
    have e : ctlW 46 A w = match A.op with
      | [] => (6, A)
      | x :: r => if x.1 = 44 then compR A w 3 (Int32.ofNat x.2) r id else (6, A) := rfl
    rw [e] at h0 ⊢
    match ho : A.op with
    | [] =>
      rw [ho] at h0
      exact absurd h0 (show (6 : Int32) ≠ 0 by decide)
    | x :: r =>
      rw [ho] at h0
      dsimp only at h0 ⊢
      by_cases c : x.1 = 44
      · rw [if_pos c] at h0 ⊢
        refine fin _ _ _ _ (fun _ => rfl) h0 (fun hl => ?_)
        have hO := h.ops
        have hn := h.ndl
        have hX := h.dx
        rw [ho] at hO hn hX
        rw [dos_ne (by omega)] at hn
        obtain ⟨hr, ⟨h1, -, -⟩ | ⟨-, h1, h2⟩ | ⟨h1, -⟩⟩ := hO
        · omega
        · refine (hX.add (kd := 3) (num := Int32.ofNat x.2) hl (Or.inl ⟨x.2, by omega, rfl, ?_⟩) (fun i _ q => (pend_tail q).resolve_left (by omega))).dr ?_ hr.add
          · rw [add_nd h1, add_nd (Nat.le_refl _), hn, h2]
          · show (addIt w 3 _).nd (addIt w 3 _).it.length = _
            rw [nd_len]
            exact hn
        · omega
      · rw [if_neg c] at h0
        exact absurd h0 (show (6 : Int32) ≠ 0 by decide)
  | 50, _ =>
    have e : ctlW 50 A w = match A.op with
      | [] => (6, A)
      | x :: r => if x.1 = 49 then compR A w 5 (Int32.ofNat x.2) r id else (6, A) := rfl
    rw [e] at h0 ⊢
    match ho : A.op with
    | [] =>
      rw [ho] at h0
      exact absurd h0 (show (6 : Int32) ≠ 0 by decide)
    | x :: r =>
      rw [ho] at h0
      dsimp only at h0 ⊢
      by_cases c : x.1 = 49
      · rw [if_pos c] at h0 ⊢
        refine fin _ _ _ _ (fun _ => rfl) h0 (fun hl => ?_)
        have hO := h.ops
        have hn := h.ndl
        have hX := h.dx
        rw [ho] at hO hn hX
        rw [dos_do c] at hn
        have e1 : (addIt w 5 (Int32.ofNat x.2)).nd (w.it.length + 1) = w.nd w.it.length - 1 := add_nd1 ..
        obtain ⟨hr, ⟨h1, -, -⟩ | ⟨h1, -⟩ | ⟨-, h1, h2⟩⟩ := hO
        · omega
        · omega
        · refine (hX.add (kd := 5) (num := Int32.ofNat x.2) hl (Or.inl ⟨x.2, by omega, rfl, ?_, ?_⟩) (fun i _ q => (pend_tail q).resolve_left (by omega))).dr ?_ hr.add
          · rw [e1, add_nd (Nat.le_refl _)]
            omega
          · rw [add_nd h1, add_nd (Nat.le_refl _), hn, h2]
          · show (addIt w 5 _).nd (addIt w 5 _).it.length = _
            rw [add_len, e1]
            omega
      · rw [if_neg c] at h0
        exact absurd h0 (show (6 : Int32) ≠ 0 by decide)
  | 47, _ =>
    have e : ctlW 47 A w = match A.op with
      | [] => (6, A)
      | x :: r => if x.1 = 44 then if A.op.length < 8 then compR A w 2 0 ((47, w.it.length) :: A.op) id else (3, A) else (6, A) := rfl
    match ho : A.op with
    | [] =>
      rw [e, ho] at h0
      exact absurd h0 (show (6 : Int32) ≠ 0 by decide)
    | x :: r =>
      have e2 : ctlW 47 A w = if x.1 = 44 then if A.op.length < 8 then compR A w 2 0 ((47, w.it.length) :: A.op) id else (3, A) else (6, A) := by
        rw [e]
        split
        · rename_i q
          rw [ho] at q
          cases q
        · rename_i x' r' q
          rw [ho] at q
          cases q
          rfl
      rw [e2] at h0 ⊢
      by_cases c : x.1 = 44
      · rw [if_pos c] at h0 ⊢
        by_cases c8 : A.op.length < 8
        · rw [if_pos c8] at h0 ⊢
          refine fin _ _ _ _ (fun _ => rfl) h0 (fun hl => ?_)
          refine (h.dx.add hl (Or.inr ⟨_, List.mem_cons_self .., rfl, Or.inr (Or.inr rfl)⟩) (fun i _ q => pend_cons q)).dr ?_ ⟨h.ops.add, Or.inl ⟨Or.inl ⟨Or.inr rfl, ⟨_, add_it1 ..⟩, ?_⟩, ?_, fun q => ⟨x.2, r, ?_⟩⟩⟩
          · show (addIt w 2 0).nd (addIt w 2 0).it.length = _
            rw [nd_len, dos_ne (show (47 : Nat) ≠ 49 by decide)]
            exact h.ndl
          · rw [add_nd1, add_nd (Nat.le_refl _)]
            rfl
          · rw [add_nd (Nat.le_refl _)]
            exact h.ndl
          · rw [ho, ← c]
        · rw [if_neg c8] at h0
          exact absurd h0 (show (3 : Int32) ≠ 0 by decide)
      · rw [if_neg c] at h0
        exact absurd h0 (show (6 : Int32) ≠ 0 by decide)
  | 48, _ =>
    have e : ctlW 48 A w = match A.op with
      | x :: y :: r => if x.1 = 47 then compR A w 3 (Int32.ofNat y.2) r (fun v => aimW v x.2) else (6, A)
      | _ => (6, A) := rfl
    rw [e] at h0 ⊢
    match ho : A.op with
    | [] =>
      rw [ho] at h0
      exact absurd h0 (show (6 : Int32) ≠ 0 by decide)
    | [x] =>
      rw [ho] at h0
      exact absurd h0 (show (6 : Int32) ≠ 0 by decide)
    | x :: y :: r =>
      rw [ho] at h0
      dsimp only at h0 ⊢
      by_cases c : x.1 = 47
      · rw [if_pos c] at h0 ⊢
        refine fin _ _ _ _ (fun _ => rfl) h0 (fun hl => ?_)
        have hO := h.ops
        have hn := h.ndl
        have hX := h.dx
        rw [ho] at hO hn hX
        rw [dos_ne (by omega)] at hn
        obtain ⟨hr, ⟨h1, h2, h3⟩ | h1 | h1⟩ := hO
        · obtain ⟨q, r', he⟩ := h3 c
          cases he
          rw [dos_ne (show (44 : Nat) ≠ 49 by decide)] at hn h2
          rcases h1 with ⟨-, ⟨n, hg⟩, h4⟩ | ⟨h1, -⟩
          · have hxl := get_lt hg
            obtain ⟨hr, ⟨h5, -, -⟩ | ⟨-, h5, h6⟩ | ⟨h5, -⟩⟩ := hr
            · rcases h5 with ⟨h5, -⟩ | ⟨h5, -⟩
              · rcases h5 with h5 | h5 <;> cases h5
              · cases h5
            · have h5 : q ≤ w.it.length := h5
              have h6 : w.nd q = dos r := h6
              have e1 : (addIt w 3 (Int32.ofNat q)).nd (addIt w 3 (Int32.ofNat q)).it.length = w.nd w.it.length := nd_len
              have hY : DX A.ws.length (addIt w 3 (Int32.ofNat q)) (fun i => i = x.2 ∨ pend r i) := hX.add hl (Or.inl ⟨q, by omega, rfl, by rw [add_nd h5, add_nd (Nat.le_refl _), hn, h6]⟩) (fun i _ z => by
                rcases pend_tail z with z | z
                · exact Or.inl z.1
                · rcases pend_tail z with z | z
                  · exact absurd z.2 (show ¬ ((44 : Nat) = 41 ∨ (44 : Nat) = 43 ∨ (44 : Nat) = 47) by decide)
                  · exact Or.inr z)
              refine (hY.aim (Or.inl ⟨⟨n, by rw [add_it hxl]; exact hg⟩, by rw [add_nd (by omega), add_nd (by omega)]; exact h4⟩) (by rw [e1, add_nd (by omega), hn, h2]) (fun i q => q)).dr ?_ hr.add.aim
              rw [aim_len]
              show (addIt w 3 (Int32.ofNat q)).nd (addIt w 3 (Int32.ofNat q)).it.length = _
              rw [e1]
              exact hn
            · cases h5
          · omega
        · omega
        · omega
      · rw [if_neg c] at h0
        exact absurd h0 (show (6 : Int32) ≠ 0 by decide)
  | n + 52, hk => omega
