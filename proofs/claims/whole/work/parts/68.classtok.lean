/-! skipping spaces, cutting a token -/
theorem drop_cons {l r : List Int32} {q : Nat} {c : Int32} (h : l.drop q = c :: r) : q < l.length ∧ l[q]? = some c ∧ l.drop (q + 1) = r := by
  have hq : q < l.length := by
    rcases Nat.lt_or_ge q l.length with h' | h'
    · exact h'
    · rw [List.drop_eq_nil_of_le h'] at h
      cases h
  refine ⟨hq, ?_, ?_⟩
  · have := congrArg (fun x => x[0]?) h
    simpa using this
  · have := congrArg List.tail h
    simpa using this
theorem RC.pos {g : Gm} {ρ : Nat → Nat × Nat} {A : Ab} {S : StC} {v : Int32} {n : Nat} (h : RC g ρ A S) (hv : v = Int32.ofNat n) : RC g ρ (Ab.set_pos A (n)) (upd S.1 3 v, S.2) := (RC.mk (h.kHere) (h.kHereB) (h.kMem) (h.kPr) (h.kPrB) (h.kPbB) (h.kOut) (h.kFu) (h.kHas) (h.kHasB) (h.kUp) (h.kUpB) (h.kTold) (h.kToldB) (h.kToldH) (h.kMade) (h.kMadeB) (h.kWs) (h.kRows) (h.kLay) (hv) (h.kTk) (h.kTx) (h.kBt) (h.kG) (h.kDs) (h.kDsB) (h.kDsS) (h.kRs) (h.kRsB) (h.kRsS) (h.kCs) (h.kCsB) (h.kCsS) (h.kDr0) (h.kDr) (h.kOp) (h.kOpB) (h.kOpK) (h.kOpA))
theorem c_skip {g : Gm} {ρ : Nat → Nat × Nat} {A : Ab} {post : StC → Prop} {mc ms : Nat} : ∀ (l : List Int32) (S : StC) (q c0 z0 : Nat), RC g ρ (Ab.set_pos A (q)) S → A.tx.length ≤ 120 → A.tx.drop q = l → q ≤ 120 → c0 ≤ mc → z0 ≤ ms → (∀ S', RC g ρ (Ab.set_pos A (q + sk l)) S' → post S') → wq_Rd_skipSpaces_0 g post mc ms (l.length + 1) S c0 z0 := by
  intro l
  induction l with
  | nil =>
    intro S q c0 z0 h hX hl hq hc hz k
    have hle : A.tx.length ≤ q := List.drop_eq_nil_iff.mp hl
    have hT : StrX g S.2.2.2.2.2.1 S.2.2.2.2.2.2 ρ (S.2.2.1 1) A.tx := h.kTx
    have eP : S.1 3 = Int32.ofNat q := h.kPos
    refine ⟨hT.str, 0, 0, hc, hz, s_len hT ⟨fun _ => k _ h, fun z => absurd ?_ z⟩⟩
    rw [eP, n_le (by omega) (by omega)]
    exact hle
  | cons c l ih =>
    intro S q c0 z0 h hX hl hq hc hz k
    obtain ⟨d1, d2, d3⟩ := drop_cons hl
    have hT : StrX g S.2.2.2.2.2.1 S.2.2.2.2.2.2 ρ (S.2.2.1 1) A.tx := h.kTx
    have eP : S.1 3 = Int32.ofNat q := h.kPos
    refine ⟨hT.str, 0, 0, hc, hz, s_len hT ⟨fun z => ?_, fun _ => ⟨hT.str, 0, 0, hc, hz, ?_⟩⟩⟩
    · rw [eP, n_le (by omega) (by omega)] at z
      omega
    rw [eP]
    refine s_char hT d2 ⟨fun z => ?_, fun z => k _ ?_⟩
    · have en : sk (c :: l) = sk l + 1 := by rw [sk, if_pos z]
      rw [en] at k
      rw [eP, of_succ]
      refine ih _ (q + 1) _ _ (h.pos rfl) hX d3 (by omega) hc hz (fun S' h' => k _ ?_)
      rw [show q + (sk l + 1) = q + 1 + sk l by omega]
      exact h'
    · rw [sk, if_neg z]
      exact h
theorem r_copy {g : Gm} {S : StC} {post : Option Nat → StC → Prop} {b n p q : Nat} {f : Nat → Int32} (hb : b ∈ S.2.2.2.2.2.1) (hf : S.2.2.2.2.2.2 b = .inl (g.2.1 3, n, .inl f)) (hF : ∀ i, fits .byte (.int (f i)) = true) (hpq : p ≤ q) (hqn : q ≤ n) (hn : n < 1000) (k : ∀ (y : Nat) (F' : Nat → va_E) (f' : Nat → Int32), y ∉ S.2.2.2.2.2.1 → F' y = .inl (g.2.1 3, q - p, .inl f') → (∀ a, a ≠ y → F' a = S.2.2.2.2.2.2 a) → (∀ i, i < q - p → f' i = f (p + i)) → (∀ i, fits .byte (.int (f' i)) = true) → post (some y) (S.1, S.2.1, S.2.2.1, S.2.2.2.1, S.2.2.2.2.1, S.2.2.2.2.2.1 ++ [y], F')) : wp_Ar_copyOfRange g post 1 (q - p) S b (Int32.ofNat p) (Int32.ofNat q) := by
  have byt : wq_Ar_copyOfRange_10 g post 1 (q - p) S b (Int32.ofNat p) (Int32.ofNat q) 0 0 := by
    have eD : Int32.ofNat q - Int32.ofNat p = Int32.ofNat (q - p) := n_sub hpq
    have eE : Int32.ofNat n - Int32.ofNat p = Int32.ofNat (n - p) := n_sub (by omega)
    have eN : (Int32.ofNat (q - p)).toNatClampNeg = q - p := n_cl (by omega)
    have eM : (if Int32.ofNat (q - p) < Int32.ofNat (n - p) then Int32.ofNat (q - p) else Int32.ofNat (n - p)) = Int32.ofNat (q - p) := by
      by_cases e : Int32.ofNat (q - p) < Int32.ofNat (n - p)
      · rw [if_pos e]
      · rw [if_neg e]
        rw [n_lt (by omega) (by omega)] at e
        congr 1
        omega
    refine ⟨1, q - p, by omega, by omega, 0, 0, by omega, by omega, ?_, ?_⟩
    · rw [n_le (by omega) (by omega)]
      exact hpq
    · rw [eD, eN]
      refine ⟨?_, by omega, by omega, by omega, fun y hy => ?_⟩
      · rw [l_lt (by omega) (by decide)]
        omega
      · have hne : b ≠ y := fun z => hy (z ▸ hb)
        have hb' : b ∈ S.2.2.2.2.2.1 ++ [y] := List.mem_append_left _ hb
        have hf' : va_up S.2.2.2.2.2.2 y (.inl (g.2.1 3, q - p, .inl (fun _ => 0))) b = .inl (g.2.1 3, n, .inl f) := by rw [va_up_ne _ _ hne]; exact hf
        refine ⟨n, f, hb', hf', n, f, q - p, fun _ => 0, hb', hf', List.mem_append_right _ (List.mem_singleton.mpr rfl), va_up_self _ _ _, ?_, ?_⟩
        · rw [eE, eM]
          refine ⟨⟨?_, by decide, ?_, ?_, ?_⟩, fun i _ => hF _⟩
          · rw [l_lt (by omega) (by decide)]
            omega
          · rw [l_lt (by omega) (by decide)]
            omega
          · rw [n_cl (by omega), eN]
            omega
          · rw [eN]
            show 0 + (q - p) ≤ q - p
            omega
        · rw [eE, eM, eN, n_cl (by omega)]
          refine k y _ (va_cpy f (fun _ => 0) p 0 (q - p)) hy (va_up_self _ _ _) (fun a ha => ?_) (fun i hi => ?_) (fun i => ?_)
          · rw [va_up_ne _ _ ha, va_up_ne _ _ ha]
          · rw [va_cpy, if_pos (by omega)]
            rfl
          · rw [va_cpy]
            split
            · exact hF _
            · rfl
  refine ⟨fun z => ⟨n, f, hb, hf, fun z1 => ⟨n, f, hb, hf, fun i _ => hF i, by omega, ?_, fun y hy => ⟨n, f, List.mem_append_right _ (List.mem_singleton.mpr rfl), va_up_self _ _ _, ?_⟩⟩, fun _ => byt⟩, fun _ => byt⟩
  · rw [l_eq (by omega) (by decide)] at z
    rw [n_eq (by omega) (by omega)] at z1
    omega
  · rw [l_eq (by omega) (by decide)] at z
    rw [n_eq (by omega) (by omega)] at z1
    subst z
    subst z1
    exact k y _ f hy (va_up_self _ _ _) (fun a ha => va_up_ne _ _ ha) (fun i _ => by congr 1; omega) hF
/-- a piece of a string: the string itself, the empty one, or a new one -/
theorem s_sub {g : Gm} {ρ : Nat → Nat × Nat} {A : Ab} {S : StC} {post : Option Nat → StC → Prop} {a p q : Nat} {l : List Int32} (h : RC g ρ A S) (ha : StrX g S.2.2.2.2.2.1 S.2.2.2.2.2.2 ρ a l) (hpq : p ≤ q) (hq : q ≤ l.length) (hl : l.length ≤ 120) (k : ∀ (y : Nat) (ρ' : Nat → Nat × Nat) (L' : List Nat) (F' : Nat → va_E), Ext S.2.2.2.2.2.1 S.2.2.2.2.2.2 ρ L' F' ρ' → StrX g L' F' ρ' y ((l.drop p).take (q - p)) → post (some y) (S.1, S.2.1, S.2.2.1, S.2.2.2.1, S.2.2.2.2.1, L', F')) : wp_St_substring g post 2 (4 + (q - p)) S a (Int32.ofNat p) (Int32.ofNat q) := by
  have hs := ha.str
  have same : p = 0 → q = l.length → post (some a) S := by
    intro e1 e2
    subst e1
    subst e2
    refine k a ρ S.2.2.2.2.2.1 S.2.2.2.2.2.2 (Ext.refl _ _ _) ?_
    simp
    exact ha
  have rest : ¬ (p = 0 ∧ q = l.length) → wq_St_substring_22 g post 2 (4 + (q - p)) S a (Int32.ofNat p) (Int32.ofNat q) 0 0 := by
    intro hno
    rcases ha with ⟨e, hl0⟩ | ⟨b, x, y, f, p1, p2, h1, h2, h3⟩
    · subst hl0
      have hq0 : q = 0 := by simpa using hq
      exact (hno ⟨by omega, hq0⟩).elim
    refine ⟨hs, 0, 0, by omega, by omega, by decide, _, _, p1.1, p1.2.2, rfl, fun _ => ⟨rfl, by decide, _, _, p1.1, p1.2.2, rfl, 2, 4 + (q - p), by omega, by omega, ?_⟩, fun z => absurd rfl z⟩
    have eD : Int32.ofNat q - Int32.ofNat p = Int32.ofNat (q - p) := n_sub hpq
    have eS : Int32.ofNat p + Int32.ofNat (q - p) = Int32.ofNat q := by
      rw [n_add]
      congr 1
      omega
    unfold wp_La_newString wq_St_substring_57
    rw [eD, eS, l_eq (by omega) (by decide)]
    refine ⟨fun z => ?_, fun z => ⟨by omega, by omega, fun q1 hq1 => ⟨1, q - p, by omega, by omega, ?_⟩⟩⟩
    · refine k _ ρ S.2.2.2.2.2.1 S.2.2.2.2.2.2 (Ext.refl _ _ _) (Or.inl ⟨rfl, ?_⟩)
      have z : q - p = 0 := z
      rw [z]
      simp
    · have hne : b ≠ q1 := fun w => hq1 (w ▸ p2.1)
      refine r_copy (f := f) (n := l.length) (List.mem_append_left _ p2.1) (by show va_up _ _ _ b = _; rw [va_up_ne _ _ hne]; exact p2.2.2) h1 hpq hq (by omega) (fun y F' f' hy e1 e2 e3 e4 => ⟨y, rfl, 0, 0, by omega, by omega, ?_⟩)
      have hyL : y ∉ S.2.2.2.2.2.1 := fun w => hy (List.mem_append_left _ w)
      have hyq : q1 ≠ y := fun w => hy (by rw [← w]; exact List.mem_append_right _ (List.mem_singleton.mpr rfl))
      have m1 : q1 ∈ (S.2.2.2.2.2.1 ++ [q1]) ++ [y] := List.mem_append_left _ (List.mem_append_right _ (List.mem_singleton.mpr rfl))
      have f1 : F' q1 = .inr (3, [.null, .int 0, .int 0, .int 0]) := by
        rw [e2 q1 hyq]
        exact va_up_self _ _ _
      refine ⟨_, m1, f1, (show 0 < 4 by decide), _, m1, va_up_self _ _ _, (show 1 < 4 by decide), rfl, rfl, ?_⟩
      refine k q1 (va_up (va_up ρ q1 (8, 0)) y (9, 0)) ((S.2.2.2.2.2.1 ++ [q1]) ++ [y]) _ (fun c hc => ?_) (Or.inr ⟨y, .int 0, .int 0, f', ?_, ?_, e4, ?_, ?_⟩)
      · have n1 : c ≠ q1 := fun w => hq1 (w ▸ hc)
        have n2 : c ≠ y := fun w => hyL (w ▸ hc)
        refine ⟨List.mem_append_left _ (List.mem_append_left _ hc), ?_, ?_⟩
        · show va_up (va_up F' q1 _) q1 _ c = _
          rw [va_up_ne _ _ n1, va_up_ne _ _ n1, e2 c n2]
          exact va_up_ne _ _ n1
        · rw [va_up_ne _ _ n2, va_up_ne _ _ n1]
      · refine ⟨m1, ?_, va_up_self _ _ _⟩
        rw [va_up_ne _ _ hyq, va_up_self]
      · have el : ((l.drop p).take (q - p)).length = q - p := by
          simp
          omega
        rw [el]
        refine ⟨List.mem_append_right _ (List.mem_singleton.mpr rfl), va_up_self _ _ _, ?_⟩
        rw [va_up_ne _ _ (fun w => hyq w.symm), va_up_ne _ _ (fun w => hyq w.symm)]
        exact e1
      · simp
        omega
      · intro i c hc
        have hi : i < q - p := by
          have := get_lt hc
          simp at this
          omega
        rw [List.getElem?_take_of_lt hi, List.getElem?_drop] at hc
        rw [e3 i hi]
        exact h3 (p + i) c hc
  refine ⟨hs, 0, 0, by omega, by omega, s_len ha ⟨0, 0, by omega, by omega, 0, 0, by omega, by omega, ?_, ?_, ?_, ?_⟩⟩
  · rw [l_lt (by omega) (by decide)]
    omega
  · rw [n_lt (by omega) (by omega)]
    omega
  · rw [n_le (by omega) (by omega)]
    exact hq
  · rw [l_eq (by omega) (by decide), n_eq (by omega) (by omega)]
    exact ⟨fun z => ⟨fun z1 => same z z1, fun z1 => rest (fun w => z1 w.2)⟩, fun z => rest (fun w => z w.1)⟩
theorem c_cut {g : Gm} {ρ : Nat → Nat × Nat} {A : Ab} {post : Option Nat → StC → Prop} {mc ms p : Nat} : ∀ (l : List Int32) (S : StC) (q c0 z0 : Nat), RC g ρ (Ab.set_pos A (q)) S → A.tx.length ≤ 120 → A.tx.drop q = l → p ≤ q → q ≤ A.tx.length → c0 + 2 ≤ mc → z0 + (4 + (q + nb l - p)) ≤ ms → (∀ (y : Nat) (ρ' : Nat → Nat × Nat) (S' : StC), RC g ρ' (Ab.set_pos A (q + nb l)) S' → StrX g S'.2.2.2.2.2.1 S'.2.2.2.2.2.2 ρ' y ((A.tx.drop p).take (q + nb l - p)) → post (some y) S') → wq_Rd_cutToken_5 g post mc ms (l.length + 1) S (Int32.ofNat p) c0 z0 := by
  intro l
  induction l with
  | nil =>
    intro S q c0 z0 h hX hl hp hq hc hz k
    have hle : A.tx.length ≤ q := List.drop_eq_nil_iff.mp hl
    have hT : StrX g S.2.2.2.2.2.1 S.2.2.2.2.2.2 ρ (S.2.2.1 1) A.tx := h.kTx
    have eP : S.1 3 = Int32.ofNat q := h.kPos
    refine ⟨hT.str, 0, 0, by omega, by omega, s_len hT ⟨fun _ => ⟨hT.str, 2, 4 + (q - p), by omega, ?_, ?_⟩, fun z => absurd ?_ z⟩⟩
    · have : nb ([] : List Int32) = 0 := rfl
      omega
    · rw [eP]
      exact s_sub h hT hp hq hX (fun y ρ' L' F' hx hy => k y ρ' _ (h.ext hx) hy)
    · rw [eP, n_le (by omega) (by omega)]
      exact hle
  | cons c l ih =>
    intro S q c0 z0 h hX hl hp hq hc hz k
    obtain ⟨d1, d2, d3⟩ := drop_cons hl
    have hT : StrX g S.2.2.2.2.2.1 S.2.2.2.2.2.2 ρ (S.2.2.1 1) A.tx := h.kTx
    have eP : S.1 3 = Int32.ofNat q := h.kPos
    refine ⟨hT.str, 0, 0, by omega, by omega, s_len hT ⟨fun z => ?_, fun _ => ⟨hT.str, 0, 0, by omega, by omega, ?_⟩⟩⟩
    · rw [eP, n_le (by omega) (by omega)] at z
      omega
    rw [eP]
    refine s_char hT d2 ⟨fun z => ⟨hT.str, 2, 4 + (q - p), by omega, ?_, ?_⟩, fun z => ?_⟩
    · have : nb (c :: l) = 0 := by rw [nb, if_pos z]
      omega
    · have e0 : nb (c :: l) = 0 := by rw [nb, if_pos z]
      rw [e0] at k
      rw [eP]
      exact s_sub h hT hp hq hX (fun y ρ' L' F' hx hy => k y ρ' _ (h.ext hx) hy)
    · have en : nb (c :: l) = nb l + 1 := by rw [nb, if_neg z]
      rw [en] at k hz
      rw [eP, of_succ]
      refine ih _ (q + 1) _ _ (h.pos rfl) hX d3 (by omega) d1 (by omega) (by omega) (fun y ρ' S' h' hy => ?_)
      rw [show q + 1 + nb l = q + (nb l + 1) by omega] at h' hy
      exact k y ρ' S' h' hy
