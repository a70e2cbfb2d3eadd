/-! the pool grows: what was there stays -/
def Ext (L : List Nat) (F : Nat → va_E) (ρ : Nat → Nat × Nat) (L' : List Nat) (F' : Nat → va_E) (ρ' : Nat → Nat × Nat) : Prop := ∀ a, a ∈ L → a ∈ L' ∧ F' a = F a ∧ ρ' a = ρ a
theorem Ext.refl (L : List Nat) (F : Nat → va_E) (ρ : Nat → Nat × Nat) : Ext L F ρ L F ρ := fun _ h => ⟨h, rfl, rfl⟩
theorem Ext.trans {L L' L2 : List Nat} {F F' F2 : Nat → va_E} {ρ ρ' ρ2 : Nat → Nat × Nat} (h : Ext L F ρ L' F' ρ') (h' : Ext L' F' ρ' L2 F2 ρ2) : Ext L F ρ L2 F2 ρ2 := fun a ha => by
  obtain ⟨h1, h2, h3⟩ := h a ha
  obtain ⟨k1, k2, k3⟩ := h' a h1
  exact ⟨k1, k2.trans h2, k3.trans h3⟩
theorem Ext.new {L : List Nat} {F : Nat → va_E} {ρ : Nat → Nat × Nat} {q : Nat} {e : va_E} {r : Nat × Nat} (hq : q ∉ L) : Ext L F ρ (L ++ [q]) (va_up F q e) (va_up ρ q r) := fun a ha => by
  have hne : a ≠ q := fun z => hq (z ▸ ha)
  exact ⟨List.mem_append_left _ ha, va_up_ne _ _ hne, va_up_ne _ _ hne⟩
theorem Ext.put {L L' : List Nat} {F F' : Nat → va_E} {ρ ρ' : Nat → Nat × Nat} {q : Nat} {e : va_E} (h : Ext L F ρ L' F' ρ') (hq : q ∉ L) : Ext L F ρ L' (va_up F' q e) ρ' := fun a ha => by
  have hne : a ≠ q := fun z => hq (z ▸ ha)
  obtain ⟨h1, h2, h3⟩ := h a ha
  exact ⟨h1, (va_up_ne _ _ hne).trans h2, h3⟩
theorem PA.ext {L L' : List Nat} {F F' : Nat → va_E} {ρ ρ' : Nat → Nat × Nat} {a : Nat} {r : Nat × Nat} {e : va_E} (h : PA L F ρ a r e) (x : Ext L F ρ L' F' ρ') : PA L' F' ρ' a r e := by
  obtain ⟨h1, h2, h3⟩ := x a h.1
  exact ⟨h1, h3.trans h.2.1, h2.trans h.2.2⟩
theorem StrAt.ext {g : Gm} {L L' : List Nat} {F F' : Nat → va_E} {ρ ρ' : Nat → Nat × Nat} {a : Nat} {l : List Int32} (h : StrAt g L F ρ a l) (hx : Ext L F ρ L' F' ρ') : StrAt g L' F' ρ' a l := by
  obtain ⟨b, x, y, f, p1, p2, h⟩ := h
  exact ⟨b, x, y, f, p1.ext hx, p2.ext hx, h⟩
theorem StrX.ext {g : Gm} {L L' : List Nat} {F F' : Nat → va_E} {ρ ρ' : Nat → Nat × Nat} {a : Nat} {l : List Int32} (h : StrX g L F ρ a l) (hx : Ext L F ρ L' F' ρ') : StrX g L' F' ρ' a l := h.imp id (fun z => z.ext hx)
theorem WordAt.ext {g : Gm} {L L' : List Nat} {F F' : Nat → va_E} {ρ ρ' : Nat → Nat × Nat} {k a : Nat} {w : Wd} (h : WordAt g L F ρ k a w) (hx : Ext L F ρ L' F' ρ') : WordAt g L' F' ρ' k a w := by
  obtain ⟨s, x, y, fk, fv, p1, p2, p3, p4, h⟩ := h
  exact ⟨s, x, y, fk, fv, p1.ext hx, p2.ext hx, p3.ext hx, p4.ext hx, h⟩
theorem CallAt.ext {g : Gm} {R : Nat → Option Nat} {L L' : List Nat} {F F' : Nat → va_E} {ρ ρ' : Nat → Nat × Nat} {c : Nat} {w : Option Nat} {nx lo : Int32} {fl fc : Nat → Int32} (h : CallAt g R L F ρ c w nx lo fl fc) (hx : Ext L F ρ L' F' ρ') : CallAt g R L' F' ρ' c w nx lo fl fc := by
  obtain ⟨a, x, y, e, p1, p2, p3⟩ := h
  exact ⟨a, x, y, e, p1.ext hx, p2.ext hx, p3.ext hx⟩
theorem FrC.ext {g : Gm} {R0 R1 : Nat → Option Nat} {L L' : List Nat} {F F' : Nat → va_E} {ρ ρ' : Nat → Nat × Nat} : ∀ {l : List Fr}, FrC g R0 R1 L F ρ l → Ext L F ρ L' F' ρ' → FrC g R0 R1 L' F' ρ' l
  | [], _, _ => trivial
  | fr :: l, h, hx => by
    obtain ⟨⟨a, fl, fc, e, p, h1⟩, h2⟩ := h
    exact ⟨⟨a, fl, fc, e, p.ext hx, h1⟩, h2.ext hx⟩
theorem RowAt.ext {g : Gm} {R : Nat → Option Nat} {L L' : List Nat} {F F' : Nat → va_E} {ρ ρ' : Nat → Nat × Nat} {b : Nat} {v : Nat → Int32} (h : RowAt g R L F ρ b v) (hx : Ext L F ρ L' F' ρ') : RowAt g R L' F' ρ' b v := by
  obtain ⟨a, f, e, p, h⟩ := h
  exact ⟨a, f, e, p.ext hx, h⟩
theorem BldAt.ext {g : Gm} {n0 n2 : Int32} {b : Nat} {L L' : List Nat} {F F' : Nat → va_E} {ρ ρ' : Nat → Nat × Nat} {l : List Int32} (h : BldAt g n0 n2 b L F ρ l) (hx : Ext L F ρ L' F' ρ') : BldAt g n0 n2 b L' F' ρ' l := by
  obtain ⟨h1, h2, cap, f, p, h⟩ := h
  exact ⟨h1, h2, cap, f, p.ext hx, h⟩
theorem RC.ext {g : Gm} {ρ ρ' : Nat → Nat × Nat} {A : Ab} {S : StC} {L' : List Nat} {F' : Nat → va_E} (h : RC g ρ A S) (hx : Ext S.2.2.2.2.2.1 S.2.2.2.2.2.2 ρ L' F' ρ') : RC g ρ' A (S.1, S.2.1, S.2.2.1, S.2.2.2.1, S.2.2.2.2.1, L', F') := by
  refine (RC.mk (h.kHere) (h.kHereB) (h.kMem) (h.kPr) (h.kPrB) (h.kPbB) (h.kOut) (h.kFu) (h.kHas) (h.kHasB) (h.kUp) (h.kUpB) (h.kTold) (h.kToldB) (h.kToldH) (h.kMade) (h.kMadeB) (fun k w hk => ?_) (fun b hb => (h.kRows b hb).ext hx) (fun c hcc => ?_) (h.kPos) (h.kTk) (h.kTx.ext hx) (h.kBt.ext hx) (h.kG) (h.kDs) (h.kDsB) (h.kDsS) (h.kRs) (h.kRsB) (h.kRsS) (h.kCs) (h.kCsB) (h.kCsS.ext hx) (h.kDr0) (fun w hw => ?_) (h.kOp) (h.kOpB) (h.kOpK) (h.kOpA))
  · obtain ⟨a, e, hw⟩ := h.kWs k w hk
    exact ⟨a, e, hw.ext hx⟩
  · obtain ⟨w, nx, lo, fl, fc, z⟩ := h.kLay c hcc
    exact ⟨w, nx, lo, fl, fc, z.ext hx⟩
  · obtain ⟨hm, a, e, z⟩ := h.kDr w hw
    exact ⟨hm, a, e, z.ext hx⟩
/-! strings -/
theorem StrX.str {g : Gm} {ρ : Nat → Nat × Nat} {S : StC} {a : Nat} {l : List Int32} (h : StrX g S.2.2.2.2.2.1 S.2.2.2.2.2.2 ρ a l) : isStr g S a := by
  rcases h with ⟨e, -⟩ | ⟨b, x, y, f, p1, -⟩
  · exact Or.inr ⟨52, by decide, e⟩
  · exact Or.inl ⟨_, p1.1, p1.2.2⟩
theorem shr0 : ∀ n, n < 121 → (Int32.ofNat n) >>> ((0 : Int32) &&& 31) = Int32.ofNat n := by decide +kernel
theorem s_len {g : Gm} {ρ : Nat → Nat × Nat} {S : StC} {post : Int32 → StC → Prop} {a : Nat} {l : List Int32} (h : StrX g S.2.2.2.2.2.1 S.2.2.2.2.2.2 ρ a l) (k : post (Int32.ofNat l.length) S) : wp_St_length g post 0 0 S a := by
  have hs := h.str
  rcases h with ⟨e, hl⟩ | ⟨b, x, y, f, p1, p2, h1, h2, h3⟩
  · subst hl
    exact Or.inr ⟨e, k⟩
  · refine Or.inl ⟨_, _, p1.1, p1.2.2, rfl, _, _, p2.1, p2.2.2, hs, 0, 0, Nat.le_refl _, Nat.le_refl _, Or.inl ⟨by decide, _, _, p1.1, p1.2.2, rfl, rfl, ?_⟩⟩
    show post (Int32.ofNat l.length >>> ((0 : Int32) &&& 31)) S
    rw [shr0 l.length (by omega)]
    exact k
theorem s_empty {g : Gm} {ρ : Nat → Nat × Nat} {S : StC} {post : Int32 → StC → Prop} {a : Nat} {l : List Int32} (h : StrX g S.2.2.2.2.2.1 S.2.2.2.2.2.2 ρ a l) (k : post (bE (decide (l.length = 0))) S) : wp_St_isEmpty g post 0 0 S a := by
  rcases h with ⟨e, hl⟩ | ⟨b, x, y, f, p1, p2, h1, h2, h3⟩
  · subst hl
    exact Or.inr ⟨e, k⟩
  · refine Or.inl ⟨_, _, p1.1, p1.2.2, rfl, _, _, p2.1, p2.2.2, fun z => ⟨rfl, ?_⟩, fun z => ⟨rfl, ?_⟩⟩
    · rw [l_eq (by omega) (by decide)] at z
      rw [decide_eq_true z] at k
      exact k
    · rw [l_eq (by omega) (by decide)] at z
      rw [decide_eq_false z] at k
      exact k
theorem char_same {c : Int32} (h : okB c) : ((Int32.toUInt32 (c &&& 255)) % 65536).toInt32 = c ∧ narrow .char (.int c) = .int c := by
  have key : ∀ n : Nat, n < 127 → 32 ≤ n → (((Int32.toUInt32 ((Int32.ofNat n) &&& 255)) % 65536).toInt32 = Int32.ofNat n ∧ narrow .char (.int (Int32.ofNat n)) = .int (Int32.ofNat n)) := by decide +kernel
  have h1 := h.1
  have h2 := h.2
  have e : c = Int32.ofNat c.toInt.toNat := by
    apply Int32.toInt_inj.mp
    rw [of_small (by omega)]
    omega
  have := key c.toInt.toNat (by omega) (by omega)
  rw [← e] at this
  exact this
theorem s_char {g : Gm} {ρ : Nat → Nat × Nat} {S : StC} {post : Int32 → StC → Prop} {a i : Nat} {l : List Int32} {c : Int32} (h : StrX g S.2.2.2.2.2.1 S.2.2.2.2.2.2 ρ a l) (hc : l[i]? = some c) (k : post c S) : wp_St_charAt g post 0 0 S a (Int32.ofNat i) := by
  have hs := h.str
  have hi := get_lt hc
  rcases h with ⟨e, hl⟩ | ⟨b, x, y, f, p1, p2, h1, h2, h3⟩
  · subst hl
    simp at hc
  · obtain ⟨q1, q2⟩ := h3 i c hc
    obtain ⟨r1, r2⟩ := char_same q2
    refine ⟨hs, 0, 0, Nat.le_refl _, Nat.le_refl _, ⟨by decide, _, _, p1.1, p1.2.2, rfl, fun _ => ⟨rfl, by decide, _, _, p1.1, p1.2.2, rfl, 0, 0, Nat.le_refl _, Nat.le_refl _, _, _, p2.1, p2.2.2, 0, 0, Nat.le_refl _, Nat.le_refl _, 0, 0, Nat.le_refl _, Nat.le_refl _, ?_, ?_, _, _, p2.1, p2.2.2, n_in hi (by omega), ?_⟩, fun z => absurd rfl z⟩⟩
    · rw [l_lt (by omega) (by decide)]
      omega
    · rw [n_lt (by omega) (by omega)]
      exact hi
    · rw [n_cl (by omega), q1, r1]
      exact ⟨r2, r2, k⟩
