/-! the class's pool: who lies where -/
def PA (L : List Nat) (F : Nat → va_E) (ρ : Nat → Nat × Nat) (a : Nat) (r : Nat × Nat) (e : va_E) : Prop := a ∈ L ∧ ρ a = r ∧ F a = e
/-- F' is F but at the addresses whose part X names -/
def Chg (ρ : Nat → Nat × Nat) (X : Nat × Nat → Prop) (F F' : Nat → va_E) : Prop := ∀ a, ¬ X (ρ a) → F' a = F a
theorem Chg.refl (ρ : Nat → Nat × Nat) (X : Nat × Nat → Prop) (F : Nat → va_E) : Chg ρ X F F := fun _ _ => rfl
theorem Chg.put {ρ : Nat → Nat × Nat} {X : Nat × Nat → Prop} {F F' : Nat → va_E} {q : Nat} {e : va_E} (h : Chg ρ X F F') (hq : X (ρ q)) : Chg ρ X F (va_up F' q e) := by
  intro a ha
  by_cases e : a = q
  · subst e
    exact absurd hq ha
  · rw [va_up_ne _ _ e]
    exact h a ha
theorem PA.chg {L : List Nat} {F F' : Nat → va_E} {ρ : Nat → Nat × Nat} {X : Nat × Nat → Prop} {a : Nat} {r : Nat × Nat} {e : va_E} (h : PA L F ρ a r e) (hc : Chg ρ X F F') (hr : ¬ X r) : PA L F' ρ a r e := by
  obtain ⟨h1, h2, h3⟩ := h
  refine ⟨h1, h2, ?_⟩
  rw [hc a (by rw [h2]; exact hr)]
  exact h3
theorem PA.put {L : List Nat} {F : Nat → va_E} {ρ : Nat → Nat × Nat} {a : Nat} {r : Nat × Nat} {e e' : va_E} (h : PA L F ρ a r e) : PA L (va_up F a e') ρ a r e' := ⟨h.1, h.2.1, va_up_self _ _ _⟩
theorem PA.ne {L : List Nat} {F : Nat → va_E} {ρ : Nat → Nat × Nat} {a q : Nat} {r r' : Nat × Nat} {e e' e2 : va_E} (h : PA L F ρ a r e) (h' : PA L F ρ q r' e') (hr : r ≠ r') : PA L (va_up F q e2) ρ a r e := by
  refine ⟨h.1, h.2.1, ?_⟩
  rw [va_up_ne]
  · exact h.2.2
  · intro q'
    subst q'
    exact hr (h.2.1.symm.trans h'.2.1)
theorem PA.new {L : List Nat} {F : Nat → va_E} {ρ : Nat → Nat × Nat} {a q : Nat} {r r' : Nat × Nat} {e e' : va_E} (h : PA L F ρ a r e) (hq : q ∉ L) : PA (L ++ [q]) (va_up F q e') (va_up ρ q r') a r e := by
  have hne : a ≠ q := fun z => hq (z ▸ h.1)
  refine ⟨List.mem_append_left _ h.1, ?_, ?_⟩
  · rw [va_up_ne _ _ hne]
    exact h.2.1
  · rw [va_up_ne _ _ hne]
    exact h.2.2
/-- the class's kinds of items -/
def kC (k : Nat) : Nat := match k with
  | 0 => 1
  | 1 => 0
  | 2 => 3
  | 3 => 2
  | k => k
/-- a string of the pool -/
def StrAt (g : Gm) (L : List Nat) (F : Nat → va_E) (ρ : Nat → Nat × Nat) (a : Nat) (l : List Int32) : Prop := ∃ (b : Nat) (x y : Value) (f : Nat → Int32), PA L F ρ a (8, 0) (.inr (3, [.ref b, .int 0, x, y])) ∧ PA L F ρ b (9, 0) (.inl (g.2.1 3, l.length, .inl f)) ∧ (∀ i, fits .byte (.int (f i)) = true) ∧ l.length ≤ 120 ∧ ∀ i c, l[i]? = some c → f i = c ∧ okB c
/-- a string, or the empty one -/
def StrX (g : Gm) (L : List Nat) (F : Nat → va_E) (ρ : Nat → Nat × Nat) (a : Nat) (l : List Int32) : Prop := (a = g.2.2 (200 + 52) ∧ l = []) ∨ StrAt g L F ρ a l
def WordAt (g : Gm) (L : List Nat) (F : Nat → va_E) (ρ : Nat → Nat × Nat) (k a : Nat) (w : Wd) : Prop := ∃ (s x y : Nat) (fk fv : Nat → Int32), PA L F ρ a (4, k) (.inr (11, [.ref s, .ref x, .ref y, .int (Int32.ofNat w.it.length), .int (bE w.im)])) ∧ PA L F ρ x (5, k) (.inl (g.2.1 0, 60, .inl fk)) ∧ PA L F ρ y (6, k) (.inl (g.2.1 0, 60, .inl fv)) ∧ StrAt g L F ρ s w.nm ∧ w.it.length ≤ 60 ∧ ∀ i p, w.it[i]? = some p → fk i = Int32.ofNat (kC p.1) ∧ fv i = p.2
def CallAt (g : Gm) (R : Nat → Option Nat) (L : List Nat) (F : Nat → va_E) (ρ : Nat → Nat × Nat) (c : Nat) (w : Option Nat) (nx lo : Int32) (fl fc : Nat → Int32) : Prop := ∃ (a x y : Nat), R c = some a ∧ PA L F ρ a (1, c) (.inr (9, [va_rf w, .int nx, .ref x, .ref y, .int lo])) ∧ PA L F ρ x (2, c) (.inl (g.2.1 0, 4, .inl fl)) ∧ PA L F ρ y (3, c) (.inl (g.2.1 0, 4, .inl fc))
def FrC (g : Gm) (R0 R1 : Nat → Option Nat) (L : List Nat) (F : Nat → va_E) (ρ : Nat → Nat × Nat) : List Fr → Prop
  | [] => True
  | fr :: l => (∃ (a : Nat) (fl fc : Nat → Int32), R0 fr.w = some a ∧ CallAt g R1 L F ρ l.length (some a) (Int32.ofNat fr.nx) (Int32.ofNat fr.lp.length) fl fc ∧ Stk fc (fr.lp.map (fun p => p.1)) ∧ Stk fl (fr.lp.map (fun p => p.2)) ∧ fr.lp.length ≤ 4) ∧ FrC g R0 R1 L F ρ l
def RowAt (g : Gm) (R : Nat → Option Nat) (L : List Nat) (F : Nat → va_E) (ρ : Nat → Nat × Nat) (b : Nat) (v : Nat → Int32) : Prop := ∃ (a : Nat) (f : Nat → Int32), R b = some a ∧ PA L F ρ a (7, b) (.inl (g.2.1 0, 16, .inl f)) ∧ ∀ i, i < 16 → f i = v i
/-- the builder's text -/
def BldAt (g : Gm) (n0 n2 : Int32) (b : Nat) (L : List Nat) (F : Nat → va_E) (ρ : Nat → Nat × Nat) (l : List Int32) : Prop := n0 = 0 ∧ n2 = Int32.ofNat l.length ∧ ∃ (cap : Nat) (f : Nat → Int32), PA L F ρ b (10, 0) (.inl (g.2.1 3, cap, .inl f)) ∧ l.length ≤ cap ∧ (cap = 16 ∨ cap = 34 ∨ cap = 70 ∨ cap = 142) ∧ (∀ i, fits .byte (.int (f i)) = true) ∧ l.length ≤ 120 ∧ ∀ i c, l[i]? = some c → f i = c ∧ okB c
theorem StrAt.chg {g : Gm} {L : List Nat} {F F' : Nat → va_E} {ρ : Nat → Nat × Nat} {X : Nat × Nat → Prop} {a : Nat} {l : List Int32} (h : StrAt g L F ρ a l) (hc : Chg ρ X F F') (h8 : ¬ X (8, 0)) (h9 : ¬ X (9, 0)) : StrAt g L F' ρ a l := by
  obtain ⟨b, x, y, f, p1, p2, h⟩ := h
  exact ⟨b, x, y, f, p1.chg hc h8, p2.chg hc h9, h⟩
theorem StrX.chg {g : Gm} {L : List Nat} {F F' : Nat → va_E} {ρ : Nat → Nat × Nat} {X : Nat × Nat → Prop} {a : Nat} {l : List Int32} (h : StrX g L F ρ a l) (hc : Chg ρ X F F') (h8 : ¬ X (8, 0)) (h9 : ¬ X (9, 0)) : StrX g L F' ρ a l := h.imp id (fun q => q.chg hc h8 h9)
theorem WordAt.chg {g : Gm} {L : List Nat} {F F' : Nat → va_E} {ρ : Nat → Nat × Nat} {X : Nat × Nat → Prop} {k a : Nat} {w : Wd} (h : WordAt g L F ρ k a w) (hc : Chg ρ X F F') (h4 : ¬ X (4, k)) (h5 : ¬ X (5, k)) (h6 : ¬ X (6, k)) (h8 : ¬ X (8, 0)) (h9 : ¬ X (9, 0)) : WordAt g L F' ρ k a w := by
  obtain ⟨s, x, y, fk, fv, p1, p2, p3, p4, h⟩ := h
  exact ⟨s, x, y, fk, fv, p1.chg hc h4, p2.chg hc h5, p3.chg hc h6, p4.chg hc h8 h9, h⟩
theorem CallAt.chg {g : Gm} {R : Nat → Option Nat} {L : List Nat} {F F' : Nat → va_E} {ρ : Nat → Nat × Nat} {X : Nat × Nat → Prop} {c : Nat} {w : Option Nat} {nx lo : Int32} {fl fc : Nat → Int32} (h : CallAt g R L F ρ c w nx lo fl fc) (hc : Chg ρ X F F') (h1 : ¬ X (1, c)) (h2 : ¬ X (2, c)) (h3 : ¬ X (3, c)) : CallAt g R L F' ρ c w nx lo fl fc := by
  obtain ⟨a, x, y, e, p1, p2, p3⟩ := h
  exact ⟨a, x, y, e, p1.chg hc h1, p2.chg hc h2, p3.chg hc h3⟩
theorem FrC.chg {g : Gm} {R0 R1 : Nat → Option Nat} {L : List Nat} {F F' : Nat → va_E} {ρ : Nat → Nat × Nat} {X : Nat × Nat → Prop} : ∀ {l : List Fr}, FrC g R0 R1 L F ρ l → Chg ρ X F F' → (∀ c, c < l.length → ¬ X (1, c) ∧ ¬ X (2, c) ∧ ¬ X (3, c)) → FrC g R0 R1 L F' ρ l
  | [], _, _, _ => trivial
  | fr :: l, h, hc, hx => by
    obtain ⟨⟨a, fl, fc, e, p, h1⟩, h2⟩ := h
    obtain ⟨x1, x2, x3⟩ := hx l.length (by simp)
    exact ⟨⟨a, fl, fc, e, p.chg hc x1 x2 x3, h1⟩, h2.chg hc (fun c hc => hx c (by simp; omega))⟩
theorem RowAt.chg {g : Gm} {R : Nat → Option Nat} {L : List Nat} {F F' : Nat → va_E} {ρ : Nat → Nat × Nat} {X : Nat × Nat → Prop} {b : Nat} {v : Nat → Int32} (h : RowAt g R L F ρ b v) (hc : Chg ρ X F F') (h7 : ¬ X (7, b)) : RowAt g R L F' ρ b v := by
  obtain ⟨a, f, e, p, h⟩ := h
  exact ⟨a, f, e, p.chg hc h7, h⟩
theorem BldAt.chg {g : Gm} {n0 n2 : Int32} {b : Nat} {L : List Nat} {F F' : Nat → va_E} {ρ : Nat → Nat × Nat} {X : Nat × Nat → Prop} {l : List Int32} (h : BldAt g n0 n2 b L F ρ l) (hc : Chg ρ X F F') (h10 : ¬ X (10, 0)) : BldAt g n0 n2 b L F' ρ l := by
  obtain ⟨h1, h2, cap, f, p, h⟩ := h
  exact ⟨h1, h2, cap, f, p.chg hc h10, h⟩
/-- what an error leaves as it is -/
def RCw (g : Gm) (ρ : Nat → Nat × Nat) (A : Ab) (S : StC) : Prop := (S.1 10 = Int32.ofNat A.here) ∧ (A.here ≤ 64) ∧ (∀ i, i < 96 → S.2.1 2 i = A.mem i) ∧ (S.1 6 = Int32.ofNat A.pr) ∧ (A.pr + A.fu ≤ A.pb) ∧ (A.pb ≤ 400000) ∧ (∀ i, i < 40 → i < A.pr → S.2.1 5 i = A.out i) ∧ (S.1 7 = Int32.ofNat A.fu) ∧ (∀ b, b < 2 → S.2.1 3 b = oE (A.has b)) ∧ (∀ b n, b < 2 → A.has b = some n → n < 4) ∧ (∀ b, b < 2 → S.2.1 4 b = bE (A.up b)) ∧ (∀ b, b < 2 → A.up b = true → A.has b ≠ none) ∧ (S.1 11 = oE A.told) ∧ (∀ n, A.told = some n → n < 2) ∧ (∀ b, A.told = some b → A.has b ≠ none) ∧ (S.1 12 = Int32.ofNat A.ws.length) ∧ (A.ws.length ≤ 24) ∧ (∀ k w, A.ws[k]? = some w → ∃ a, S.2.2.2.2.1 0 k = some a ∧ WordAt g S.2.2.2.2.2.1 S.2.2.2.2.2.2 ρ k a w) ∧ (∀ b, b < 4 → RowAt g (S.2.2.2.2.1 3) S.2.2.2.2.2.1 S.2.2.2.2.2.2 ρ b (A.blk b)) ∧ (∀ c, c < 16 → ∃ w nx lo fl fc, CallAt g (S.2.2.2.2.1 1) S.2.2.2.2.2.1 S.2.2.2.2.2.2 ρ c w nx lo fl fc) ∧ (S.1 3 = Int32.ofNat A.pos) ∧ (S.1 4 = Int32.ofNat A.tk) ∧ (StrX g S.2.2.2.2.2.1 S.2.2.2.2.2.2 ρ (S.2.2.1 1) A.tx) ∧ (BldAt g (S.1 0) (S.1 2) (S.2.2.1 0) S.2.2.2.2.2.1 S.2.2.2.2.2.2 ρ A.bt) ∧ (∀ i j, i < 52 → j < 52 → g.2.2 (100 + i) = g.2.2 (100 + j) → i = j)
theorem RCw.kHere {g : Gm} {ρ : Nat → Nat × Nat} {A : Ab} {S : StC} (h : RCw g ρ A S) : S.1 10 = Int32.ofNat A.here := h.1
theorem RCw.kHereB {g : Gm} {ρ : Nat → Nat × Nat} {A : Ab} {S : StC} (h : RCw g ρ A S) : A.here ≤ 64 := h.2.1
theorem RCw.kMem {g : Gm} {ρ : Nat → Nat × Nat} {A : Ab} {S : StC} (h : RCw g ρ A S) : ∀ i, i < 96 → S.2.1 2 i = A.mem i := h.2.2.1
theorem RCw.kPr {g : Gm} {ρ : Nat → Nat × Nat} {A : Ab} {S : StC} (h : RCw g ρ A S) : S.1 6 = Int32.ofNat A.pr := h.2.2.2.1
theorem RCw.kPrB {g : Gm} {ρ : Nat → Nat × Nat} {A : Ab} {S : StC} (h : RCw g ρ A S) : A.pr + A.fu ≤ A.pb := h.2.2.2.2.1
theorem RCw.kPbB {g : Gm} {ρ : Nat → Nat × Nat} {A : Ab} {S : StC} (h : RCw g ρ A S) : A.pb ≤ 400000 := h.2.2.2.2.2.1
theorem RCw.kOut {g : Gm} {ρ : Nat → Nat × Nat} {A : Ab} {S : StC} (h : RCw g ρ A S) : ∀ i, i < 40 → i < A.pr → S.2.1 5 i = A.out i := h.2.2.2.2.2.2.1
theorem RCw.kFu {g : Gm} {ρ : Nat → Nat × Nat} {A : Ab} {S : StC} (h : RCw g ρ A S) : S.1 7 = Int32.ofNat A.fu := h.2.2.2.2.2.2.2.1
theorem RCw.kHas {g : Gm} {ρ : Nat → Nat × Nat} {A : Ab} {S : StC} (h : RCw g ρ A S) : ∀ b, b < 2 → S.2.1 3 b = oE (A.has b) := h.2.2.2.2.2.2.2.2.1
theorem RCw.kHasB {g : Gm} {ρ : Nat → Nat × Nat} {A : Ab} {S : StC} (h : RCw g ρ A S) : ∀ b n, b < 2 → A.has b = some n → n < 4 := h.2.2.2.2.2.2.2.2.2.1
theorem RCw.kUp {g : Gm} {ρ : Nat → Nat × Nat} {A : Ab} {S : StC} (h : RCw g ρ A S) : ∀ b, b < 2 → S.2.1 4 b = bE (A.up b) := h.2.2.2.2.2.2.2.2.2.2.1
theorem RCw.kUpB {g : Gm} {ρ : Nat → Nat × Nat} {A : Ab} {S : StC} (h : RCw g ρ A S) : ∀ b, b < 2 → A.up b = true → A.has b ≠ none := h.2.2.2.2.2.2.2.2.2.2.2.1
theorem RCw.kTold {g : Gm} {ρ : Nat → Nat × Nat} {A : Ab} {S : StC} (h : RCw g ρ A S) : S.1 11 = oE A.told := h.2.2.2.2.2.2.2.2.2.2.2.2.1
theorem RCw.kToldB {g : Gm} {ρ : Nat → Nat × Nat} {A : Ab} {S : StC} (h : RCw g ρ A S) : ∀ n, A.told = some n → n < 2 := h.2.2.2.2.2.2.2.2.2.2.2.2.2.1
theorem RCw.kToldH {g : Gm} {ρ : Nat → Nat × Nat} {A : Ab} {S : StC} (h : RCw g ρ A S) : ∀ b, A.told = some b → A.has b ≠ none := h.2.2.2.2.2.2.2.2.2.2.2.2.2.2.1
theorem RCw.kMade {g : Gm} {ρ : Nat → Nat × Nat} {A : Ab} {S : StC} (h : RCw g ρ A S) : S.1 12 = Int32.ofNat A.ws.length := h.2.2.2.2.2.2.2.2.2.2.2.2.2.2.2.1
theorem RCw.kMadeB {g : Gm} {ρ : Nat → Nat × Nat} {A : Ab} {S : StC} (h : RCw g ρ A S) : A.ws.length ≤ 24 := h.2.2.2.2.2.2.2.2.2.2.2.2.2.2.2.2.1
theorem RCw.kWs {g : Gm} {ρ : Nat → Nat × Nat} {A : Ab} {S : StC} (h : RCw g ρ A S) : ∀ k w, A.ws[k]? = some w → ∃ a, S.2.2.2.2.1 0 k = some a ∧ WordAt g S.2.2.2.2.2.1 S.2.2.2.2.2.2 ρ k a w := h.2.2.2.2.2.2.2.2.2.2.2.2.2.2.2.2.2.1
theorem RCw.kRows {g : Gm} {ρ : Nat → Nat × Nat} {A : Ab} {S : StC} (h : RCw g ρ A S) : ∀ b, b < 4 → RowAt g (S.2.2.2.2.1 3) S.2.2.2.2.2.1 S.2.2.2.2.2.2 ρ b (A.blk b) := h.2.2.2.2.2.2.2.2.2.2.2.2.2.2.2.2.2.2.1
theorem RCw.kLay {g : Gm} {ρ : Nat → Nat × Nat} {A : Ab} {S : StC} (h : RCw g ρ A S) : ∀ c, c < 16 → ∃ w nx lo fl fc, CallAt g (S.2.2.2.2.1 1) S.2.2.2.2.2.1 S.2.2.2.2.2.2 ρ c w nx lo fl fc := h.2.2.2.2.2.2.2.2.2.2.2.2.2.2.2.2.2.2.2.1
theorem RCw.kPos {g : Gm} {ρ : Nat → Nat × Nat} {A : Ab} {S : StC} (h : RCw g ρ A S) : S.1 3 = Int32.ofNat A.pos := h.2.2.2.2.2.2.2.2.2.2.2.2.2.2.2.2.2.2.2.2.1
theorem RCw.kTk {g : Gm} {ρ : Nat → Nat × Nat} {A : Ab} {S : StC} (h : RCw g ρ A S) : S.1 4 = Int32.ofNat A.tk := h.2.2.2.2.2.2.2.2.2.2.2.2.2.2.2.2.2.2.2.2.2.1
theorem RCw.kTx {g : Gm} {ρ : Nat → Nat × Nat} {A : Ab} {S : StC} (h : RCw g ρ A S) : StrX g S.2.2.2.2.2.1 S.2.2.2.2.2.2 ρ (S.2.2.1 1) A.tx := h.2.2.2.2.2.2.2.2.2.2.2.2.2.2.2.2.2.2.2.2.2.2.1
theorem RCw.kBt {g : Gm} {ρ : Nat → Nat × Nat} {A : Ab} {S : StC} (h : RCw g ρ A S) : BldAt g (S.1 0) (S.1 2) (S.2.2.1 0) S.2.2.2.2.2.1 S.2.2.2.2.2.2 ρ A.bt := h.2.2.2.2.2.2.2.2.2.2.2.2.2.2.2.2.2.2.2.2.2.2.2.1
theorem RCw.kG {g : Gm} {ρ : Nat → Nat × Nat} {A : Ab} {S : StC} (h : RCw g ρ A S) : ∀ i j, i < 52 → j < 52 → g.2.2 (100 + i) = g.2.2 (100 + j) → i = j := h.2.2.2.2.2.2.2.2.2.2.2.2.2.2.2.2.2.2.2.2.2.2.2.2
theorem RCw.mk {g : Gm} {ρ : Nat → Nat × Nat} {A : Ab} {S : StC} (kHere0 : S.1 10 = Int32.ofNat A.here) (kHereB0 : A.here ≤ 64) (kMem0 : ∀ i, i < 96 → S.2.1 2 i = A.mem i) (kPr0 : S.1 6 = Int32.ofNat A.pr) (kPrB0 : A.pr + A.fu ≤ A.pb) (kPbB0 : A.pb ≤ 400000) (kOut0 : ∀ i, i < 40 → i < A.pr → S.2.1 5 i = A.out i) (kFu0 : S.1 7 = Int32.ofNat A.fu) (kHas0 : ∀ b, b < 2 → S.2.1 3 b = oE (A.has b)) (kHasB0 : ∀ b n, b < 2 → A.has b = some n → n < 4) (kUp0 : ∀ b, b < 2 → S.2.1 4 b = bE (A.up b)) (kUpB0 : ∀ b, b < 2 → A.up b = true → A.has b ≠ none) (kTold0 : S.1 11 = oE A.told) (kToldB0 : ∀ n, A.told = some n → n < 2) (kToldH0 : ∀ b, A.told = some b → A.has b ≠ none) (kMade0 : S.1 12 = Int32.ofNat A.ws.length) (kMadeB0 : A.ws.length ≤ 24) (kWs0 : ∀ k w, A.ws[k]? = some w → ∃ a, S.2.2.2.2.1 0 k = some a ∧ WordAt g S.2.2.2.2.2.1 S.2.2.2.2.2.2 ρ k a w) (kRows0 : ∀ b, b < 4 → RowAt g (S.2.2.2.2.1 3) S.2.2.2.2.2.1 S.2.2.2.2.2.2 ρ b (A.blk b)) (kLay0 : ∀ c, c < 16 → ∃ w nx lo fl fc, CallAt g (S.2.2.2.2.1 1) S.2.2.2.2.2.1 S.2.2.2.2.2.2 ρ c w nx lo fl fc) (kPos0 : S.1 3 = Int32.ofNat A.pos) (kTk0 : S.1 4 = Int32.ofNat A.tk) (kTx0 : StrX g S.2.2.2.2.2.1 S.2.2.2.2.2.2 ρ (S.2.2.1 1) A.tx) (kBt0 : BldAt g (S.1 0) (S.1 2) (S.2.2.1 0) S.2.2.2.2.2.1 S.2.2.2.2.2.2 ρ A.bt) (kG0 : ∀ i j, i < 52 → j < 52 → g.2.2 (100 + i) = g.2.2 (100 + j) → i = j) : RCw g ρ A S := ⟨kHere0, kHereB0, kMem0, kPr0, kPrB0, kPbB0, kOut0, kFu0, kHas0, kHasB0, kUp0, kUpB0, kTold0, kToldB0, kToldH0, kMade0, kMadeB0, kWs0, kRows0, kLay0, kPos0, kTk0, kTx0, kBt0, kG0⟩
def RC (g : Gm) (ρ : Nat → Nat × Nat) (A : Ab) (S : StC) : Prop := RCw g ρ A S ∧ (S.1 8 = Int32.ofNat A.ds.length) ∧ (A.ds.length ≤ 24) ∧ (Stk (S.2.1 0) A.ds) ∧ (S.1 9 = Int32.ofNat A.rs.length) ∧ (A.rs.length ≤ 24) ∧ (Stk (S.2.1 1) A.rs) ∧ (S.1 5 = Int32.ofNat A.cs.length) ∧ (A.cs.length ≤ 16) ∧ (FrC g (S.2.2.2.2.1 0) (S.2.2.2.2.1 1) S.2.2.2.2.2.1 S.2.2.2.2.2.2 ρ A.cs) ∧ (A.dr = none → S.2.2.2.1 0 = none) ∧ (∀ w, A.dr = some w → A.ws.length < 24 ∧ ∃ a, S.2.2.2.1 0 = some a ∧ WordAt g S.2.2.2.2.2.1 S.2.2.2.2.2.2 ρ A.ws.length a w) ∧ (A.dr ≠ none → S.1 13 = Int32.ofNat A.op.length) ∧ (A.op.length ≤ 8) ∧ (A.dr ≠ none → ∀ i x, A.op[i]? = some x → x.1 < 52 ∧ S.2.2.2.2.1 2 (A.op.length - 1 - i) = some (g.2.2 (100 + x.1))) ∧ (A.dr ≠ none → Stk (S.2.1 6) (A.op.map (fun p => Int32.ofNat p.2)))
theorem RC.toRCw {g : Gm} {ρ : Nat → Nat × Nat} {A : Ab} {S : StC} (h : RC g ρ A S) : RCw g ρ A S := h.1
theorem RC.kHere {g : Gm} {ρ : Nat → Nat × Nat} {A : Ab} {S : StC} (h : RC g ρ A S) : S.1 10 = Int32.ofNat A.here := h.1.kHere
theorem RC.kHereB {g : Gm} {ρ : Nat → Nat × Nat} {A : Ab} {S : StC} (h : RC g ρ A S) : A.here ≤ 64 := h.1.kHereB
theorem RC.kMem {g : Gm} {ρ : Nat → Nat × Nat} {A : Ab} {S : StC} (h : RC g ρ A S) : ∀ i, i < 96 → S.2.1 2 i = A.mem i := h.1.kMem
theorem RC.kPr {g : Gm} {ρ : Nat → Nat × Nat} {A : Ab} {S : StC} (h : RC g ρ A S) : S.1 6 = Int32.ofNat A.pr := h.1.kPr
theorem RC.kPrB {g : Gm} {ρ : Nat → Nat × Nat} {A : Ab} {S : StC} (h : RC g ρ A S) : A.pr + A.fu ≤ A.pb := h.1.kPrB
theorem RC.kPbB {g : Gm} {ρ : Nat → Nat × Nat} {A : Ab} {S : StC} (h : RC g ρ A S) : A.pb ≤ 400000 := h.1.kPbB
theorem RC.kOut {g : Gm} {ρ : Nat → Nat × Nat} {A : Ab} {S : StC} (h : RC g ρ A S) : ∀ i, i < 40 → i < A.pr → S.2.1 5 i = A.out i := h.1.kOut
theorem RC.kFu {g : Gm} {ρ : Nat → Nat × Nat} {A : Ab} {S : StC} (h : RC g ρ A S) : S.1 7 = Int32.ofNat A.fu := h.1.kFu
theorem RC.kHas {g : Gm} {ρ : Nat → Nat × Nat} {A : Ab} {S : StC} (h : RC g ρ A S) : ∀ b, b < 2 → S.2.1 3 b = oE (A.has b) := h.1.kHas
theorem RC.kHasB {g : Gm} {ρ : Nat → Nat × Nat} {A : Ab} {S : StC} (h : RC g ρ A S) : ∀ b n, b < 2 → A.has b = some n → n < 4 := h.1.kHasB
theorem RC.kUp {g : Gm} {ρ : Nat → Nat × Nat} {A : Ab} {S : StC} (h : RC g ρ A S) : ∀ b, b < 2 → S.2.1 4 b = bE (A.up b) := h.1.kUp
theorem RC.kUpB {g : Gm} {ρ : Nat → Nat × Nat} {A : Ab} {S : StC} (h : RC g ρ A S) : ∀ b, b < 2 → A.up b = true → A.has b ≠ none := h.1.kUpB
theorem RC.kTold {g : Gm} {ρ : Nat → Nat × Nat} {A : Ab} {S : StC} (h : RC g ρ A S) : S.1 11 = oE A.told := h.1.kTold
theorem RC.kToldB {g : Gm} {ρ : Nat → Nat × Nat} {A : Ab} {S : StC} (h : RC g ρ A S) : ∀ n, A.told = some n → n < 2 := h.1.kToldB
theorem RC.kToldH {g : Gm} {ρ : Nat → Nat × Nat} {A : Ab} {S : StC} (h : RC g ρ A S) : ∀ b, A.told = some b → A.has b ≠ none := h.1.kToldH
theorem RC.kMade {g : Gm} {ρ : Nat → Nat × Nat} {A : Ab} {S : StC} (h : RC g ρ A S) : S.1 12 = Int32.ofNat A.ws.length := h.1.kMade
theorem RC.kMadeB {g : Gm} {ρ : Nat → Nat × Nat} {A : Ab} {S : StC} (h : RC g ρ A S) : A.ws.length ≤ 24 := h.1.kMadeB
theorem RC.kWs {g : Gm} {ρ : Nat → Nat × Nat} {A : Ab} {S : StC} (h : RC g ρ A S) : ∀ k w, A.ws[k]? = some w → ∃ a, S.2.2.2.2.1 0 k = some a ∧ WordAt g S.2.2.2.2.2.1 S.2.2.2.2.2.2 ρ k a w := h.1.kWs
theorem RC.kRows {g : Gm} {ρ : Nat → Nat × Nat} {A : Ab} {S : StC} (h : RC g ρ A S) : ∀ b, b < 4 → RowAt g (S.2.2.2.2.1 3) S.2.2.2.2.2.1 S.2.2.2.2.2.2 ρ b (A.blk b) := h.1.kRows
theorem RC.kLay {g : Gm} {ρ : Nat → Nat × Nat} {A : Ab} {S : StC} (h : RC g ρ A S) : ∀ c, c < 16 → ∃ w nx lo fl fc, CallAt g (S.2.2.2.2.1 1) S.2.2.2.2.2.1 S.2.2.2.2.2.2 ρ c w nx lo fl fc := h.1.kLay
theorem RC.kPos {g : Gm} {ρ : Nat → Nat × Nat} {A : Ab} {S : StC} (h : RC g ρ A S) : S.1 3 = Int32.ofNat A.pos := h.1.kPos
theorem RC.kTk {g : Gm} {ρ : Nat → Nat × Nat} {A : Ab} {S : StC} (h : RC g ρ A S) : S.1 4 = Int32.ofNat A.tk := h.1.kTk
theorem RC.kTx {g : Gm} {ρ : Nat → Nat × Nat} {A : Ab} {S : StC} (h : RC g ρ A S) : StrX g S.2.2.2.2.2.1 S.2.2.2.2.2.2 ρ (S.2.2.1 1) A.tx := h.1.kTx
theorem RC.kBt {g : Gm} {ρ : Nat → Nat × Nat} {A : Ab} {S : StC} (h : RC g ρ A S) : BldAt g (S.1 0) (S.1 2) (S.2.2.1 0) S.2.2.2.2.2.1 S.2.2.2.2.2.2 ρ A.bt := h.1.kBt
theorem RC.kG {g : Gm} {ρ : Nat → Nat × Nat} {A : Ab} {S : StC} (h : RC g ρ A S) : ∀ i j, i < 52 → j < 52 → g.2.2 (100 + i) = g.2.2 (100 + j) → i = j := h.1.kG
theorem RC.kDs {g : Gm} {ρ : Nat → Nat × Nat} {A : Ab} {S : StC} (h : RC g ρ A S) : S.1 8 = Int32.ofNat A.ds.length := h.2.1
theorem RC.kDsB {g : Gm} {ρ : Nat → Nat × Nat} {A : Ab} {S : StC} (h : RC g ρ A S) : A.ds.length ≤ 24 := h.2.2.1
theorem RC.kDsS {g : Gm} {ρ : Nat → Nat × Nat} {A : Ab} {S : StC} (h : RC g ρ A S) : Stk (S.2.1 0) A.ds := h.2.2.2.1
theorem RC.kRs {g : Gm} {ρ : Nat → Nat × Nat} {A : Ab} {S : StC} (h : RC g ρ A S) : S.1 9 = Int32.ofNat A.rs.length := h.2.2.2.2.1
theorem RC.kRsB {g : Gm} {ρ : Nat → Nat × Nat} {A : Ab} {S : StC} (h : RC g ρ A S) : A.rs.length ≤ 24 := h.2.2.2.2.2.1
theorem RC.kRsS {g : Gm} {ρ : Nat → Nat × Nat} {A : Ab} {S : StC} (h : RC g ρ A S) : Stk (S.2.1 1) A.rs := h.2.2.2.2.2.2.1
theorem RC.kCs {g : Gm} {ρ : Nat → Nat × Nat} {A : Ab} {S : StC} (h : RC g ρ A S) : S.1 5 = Int32.ofNat A.cs.length := h.2.2.2.2.2.2.2.1
theorem RC.kCsB {g : Gm} {ρ : Nat → Nat × Nat} {A : Ab} {S : StC} (h : RC g ρ A S) : A.cs.length ≤ 16 := h.2.2.2.2.2.2.2.2.1
theorem RC.kCsS {g : Gm} {ρ : Nat → Nat × Nat} {A : Ab} {S : StC} (h : RC g ρ A S) : FrC g (S.2.2.2.2.1 0) (S.2.2.2.2.1 1) S.2.2.2.2.2.1 S.2.2.2.2.2.2 ρ A.cs := h.2.2.2.2.2.2.2.2.2.1
theorem RC.kDr0 {g : Gm} {ρ : Nat → Nat × Nat} {A : Ab} {S : StC} (h : RC g ρ A S) : A.dr = none → S.2.2.2.1 0 = none := h.2.2.2.2.2.2.2.2.2.2.1
theorem RC.kDr {g : Gm} {ρ : Nat → Nat × Nat} {A : Ab} {S : StC} (h : RC g ρ A S) : ∀ w, A.dr = some w → A.ws.length < 24 ∧ ∃ a, S.2.2.2.1 0 = some a ∧ WordAt g S.2.2.2.2.2.1 S.2.2.2.2.2.2 ρ A.ws.length a w := h.2.2.2.2.2.2.2.2.2.2.2.1
theorem RC.kOp {g : Gm} {ρ : Nat → Nat × Nat} {A : Ab} {S : StC} (h : RC g ρ A S) : A.dr ≠ none → S.1 13 = Int32.ofNat A.op.length := h.2.2.2.2.2.2.2.2.2.2.2.2.1
theorem RC.kOpB {g : Gm} {ρ : Nat → Nat × Nat} {A : Ab} {S : StC} (h : RC g ρ A S) : A.op.length ≤ 8 := h.2.2.2.2.2.2.2.2.2.2.2.2.2.1
theorem RC.kOpK {g : Gm} {ρ : Nat → Nat × Nat} {A : Ab} {S : StC} (h : RC g ρ A S) : A.dr ≠ none → ∀ i x, A.op[i]? = some x → x.1 < 52 ∧ S.2.2.2.2.1 2 (A.op.length - 1 - i) = some (g.2.2 (100 + x.1)) := h.2.2.2.2.2.2.2.2.2.2.2.2.2.2.1
theorem RC.kOpA {g : Gm} {ρ : Nat → Nat × Nat} {A : Ab} {S : StC} (h : RC g ρ A S) : A.dr ≠ none → Stk (S.2.1 6) (A.op.map (fun p => Int32.ofNat p.2)) := h.2.2.2.2.2.2.2.2.2.2.2.2.2.2.2
theorem RC.mk {g : Gm} {ρ : Nat → Nat × Nat} {A : Ab} {S : StC} (kHere0 : S.1 10 = Int32.ofNat A.here) (kHereB0 : A.here ≤ 64) (kMem0 : ∀ i, i < 96 → S.2.1 2 i = A.mem i) (kPr0 : S.1 6 = Int32.ofNat A.pr) (kPrB0 : A.pr + A.fu ≤ A.pb) (kPbB0 : A.pb ≤ 400000) (kOut0 : ∀ i, i < 40 → i < A.pr → S.2.1 5 i = A.out i) (kFu0 : S.1 7 = Int32.ofNat A.fu) (kHas0 : ∀ b, b < 2 → S.2.1 3 b = oE (A.has b)) (kHasB0 : ∀ b n, b < 2 → A.has b = some n → n < 4) (kUp0 : ∀ b, b < 2 → S.2.1 4 b = bE (A.up b)) (kUpB0 : ∀ b, b < 2 → A.up b = true → A.has b ≠ none) (kTold0 : S.1 11 = oE A.told) (kToldB0 : ∀ n, A.told = some n → n < 2) (kToldH0 : ∀ b, A.told = some b → A.has b ≠ none) (kMade0 : S.1 12 = Int32.ofNat A.ws.length) (kMadeB0 : A.ws.length ≤ 24) (kWs0 : ∀ k w, A.ws[k]? = some w → ∃ a, S.2.2.2.2.1 0 k = some a ∧ WordAt g S.2.2.2.2.2.1 S.2.2.2.2.2.2 ρ k a w) (kRows0 : ∀ b, b < 4 → RowAt g (S.2.2.2.2.1 3) S.2.2.2.2.2.1 S.2.2.2.2.2.2 ρ b (A.blk b)) (kLay0 : ∀ c, c < 16 → ∃ w nx lo fl fc, CallAt g (S.2.2.2.2.1 1) S.2.2.2.2.2.1 S.2.2.2.2.2.2 ρ c w nx lo fl fc) (kPos0 : S.1 3 = Int32.ofNat A.pos) (kTk0 : S.1 4 = Int32.ofNat A.tk) (kTx0 : StrX g S.2.2.2.2.2.1 S.2.2.2.2.2.2 ρ (S.2.2.1 1) A.tx) (kBt0 : BldAt g (S.1 0) (S.1 2) (S.2.2.1 0) S.2.2.2.2.2.1 S.2.2.2.2.2.2 ρ A.bt) (kG0 : ∀ i j, i < 52 → j < 52 → g.2.2 (100 + i) = g.2.2 (100 + j) → i = j) (kDs0 : S.1 8 = Int32.ofNat A.ds.length) (kDsB0 : A.ds.length ≤ 24) (kDsS0 : Stk (S.2.1 0) A.ds) (kRs0 : S.1 9 = Int32.ofNat A.rs.length) (kRsB0 : A.rs.length ≤ 24) (kRsS0 : Stk (S.2.1 1) A.rs) (kCs0 : S.1 5 = Int32.ofNat A.cs.length) (kCsB0 : A.cs.length ≤ 16) (kCsS0 : FrC g (S.2.2.2.2.1 0) (S.2.2.2.2.1 1) S.2.2.2.2.2.1 S.2.2.2.2.2.2 ρ A.cs) (kDr00 : A.dr = none → S.2.2.2.1 0 = none) (kDr0 : ∀ w, A.dr = some w → A.ws.length < 24 ∧ ∃ a, S.2.2.2.1 0 = some a ∧ WordAt g S.2.2.2.2.2.1 S.2.2.2.2.2.2 ρ A.ws.length a w) (kOp0 : A.dr ≠ none → S.1 13 = Int32.ofNat A.op.length) (kOpB0 : A.op.length ≤ 8) (kOpK0 : A.dr ≠ none → ∀ i x, A.op[i]? = some x → x.1 < 52 ∧ S.2.2.2.2.1 2 (A.op.length - 1 - i) = some (g.2.2 (100 + x.1))) (kOpA0 : A.dr ≠ none → Stk (S.2.1 6) (A.op.map (fun p => Int32.ofNat p.2))) : RC g ρ A S := ⟨⟨kHere0, kHereB0, kMem0, kPr0, kPrB0, kPbB0, kOut0, kFu0, kHas0, kHasB0, kUp0, kUpB0, kTold0, kToldB0, kToldH0, kMade0, kMadeB0, kWs0, kRows0, kLay0, kPos0, kTk0, kTx0, kBt0, kG0⟩, kDs0, kDsB0, kDsS0, kRs0, kRsB0, kRsS0, kCs0, kCsB0, kCsS0, kDr00, kDr0, kOp0, kOpB0, kOpK0, kOpA0⟩
def RCr (g : Gm) (ρ : Nat → Nat × Nat) (r : Int32 × Ab) (S : StC) : Prop := (r.1 = 0 → RC g ρ r.2 S) ∧ (r.1 ≠ 0 → RCw g ρ r.2 S)
theorem RCr.ok {g : Gm} {ρ : Nat → Nat × Nat} {A : Ab} {S : StC} (h : RC g ρ A S) : RCr g ρ (0, A) S := ⟨fun _ => h, fun n => absurd rfl n⟩
theorem RCr.no {g : Gm} {ρ : Nat → Nat × Nat} {A : Ab} {S : StC} {e : Int32} (he : e ≠ 0) (h : RCw g ρ A S) : RCr g ρ (e, A) S := ⟨fun n => absurd n he, fun _ => h⟩
/-! the data stack -/
theorem RC.ds {g : Gm} {ρ : Nat → Nat × Nat} {A : Ab} {S : StC} {l : List Int32} {v : Int32} (h : RC g ρ A S) (hv : v = Int32.ofNat l.length) (hb : l.length ≤ 24) (hs : Stk (S.2.1 0) l) : RC g ρ (Ab.set_ds A (l)) (upd S.1 8 v, S.2) := (RC.mk (h.kHere) (h.kHereB) (h.kMem) (h.kPr) (h.kPrB) (h.kPbB) (h.kOut) (h.kFu) (h.kHas) (h.kHasB) (h.kUp) (h.kUpB) (h.kTold) (h.kToldB) (h.kToldH) (h.kMade) (h.kMadeB) (h.kWs) (h.kRows) (h.kLay) (h.kPos) (h.kTk) (h.kTx) (h.kBt) (h.kG) (hv) (hb) (hs) (h.kRs) (h.kRsB) (h.kRsS) (h.kCs) (h.kCsB) (h.kCsS) (h.kDr0) (h.kDr) (h.kOp) (h.kOpB) (h.kOpK) (h.kOpA))
theorem c_push {g : Gm} {ρ : Nat → Nat × Nat} {A : Ab} {S : StC} {post : StC → Prop} {v : Int32} (h : RC g ρ A S) (hn : A.ds.length < 24) (k : ∀ S', RC g ρ (Ab.set_ds A (v :: A.ds)) S' → post S') : wp_Nd_push g post S v := by
  refine ⟨fun z => ?_, fun _ => ⟨?_, k _ (RC.mk (h.kHere) (h.kHereB) (h.kMem) (h.kPr) (h.kPrB) (h.kPbB) (h.kOut) (h.kFu) (h.kHas) (h.kHasB) (h.kUp) (h.kUpB) (h.kTold) (h.kToldB) (h.kToldH) (h.kMade) (h.kMadeB) (h.kWs) (h.kRows) (h.kLay) (h.kPos) (h.kTk) (h.kTx) (h.kBt) (h.kG) (?_) (?_) (?_) (h.kRs) (h.kRsB) (h.kRsS) (h.kCs) (h.kCsB) (h.kCsS) (h.kDr0) (h.kDr) (h.kOp) (h.kOpB) (h.kOpK) (h.kOpA))⟩⟩
  · rw [h.kDs, r_le (by decide) (by omega)] at z
    omega
  · rw [h.kDs]
    exact n_in hn (by omega)
  · show S.1 8 + 1 = _
    rw [h.kDs, of_succ]
    rfl
  · show (v :: A.ds).length ≤ 24
    simp
    omega
  · show Stk (upd (S.2.1 0) (S.1 8).toNatClampNeg v) (v :: A.ds)
    rw [h.kDs, n_cl (by omega)]
    exact ⟨upd_at _ _ _, h.kDsS.put (Nat.le_refl _)⟩
theorem c_pop {g : Gm} {ρ : Nat → Nat × Nat} {A : Ab} {S : StC} {post : Int32 → StC → Prop} {x : Int32} {l : List Int32} (h : RC g ρ A S) (hd : A.ds = x :: l) (k : ∀ S', RC g ρ (Ab.set_ds A (l)) S' → post x S') : wp_Nd_pop g post S := by
  have hb := h.kDsB
  rw [hd] at hb
  simp at hb
  have e0 : S.1 8 = Int32.ofNat (l.length + 1) := by rw [h.kDs, hd]; rfl
  have e : S.1 8 - 1 = Int32.ofNat l.length := by
    rw [e0]
    exact n_sub (a := l.length + 1) (b := 1) (by omega)
  have hs := h.kDsS
  rw [hd] at hs
  refine ⟨fun z => ?_, fun _ => ⟨?_, ?_⟩⟩
  · rw [e0, l_eq (by omega) (by decide)] at z
    omega
  · rw [e]
    exact n_in (by omega) (by omega)
  · rw [e, n_cl (by omega), hs.1]
    exact k _ (h.ds rfl (by omega) hs.2)
theorem c_drop {g : Gm} {ρ : Nat → Nat × Nat} {A : Ab} {S : StC} {post : StC → Prop} {n : Nat} (h : RC g ρ A S) (hn : n ≤ A.ds.length) (k : ∀ S', RC g ρ (Ab.set_ds A (A.ds.drop n)) S' → post S') : wp_Nd_drop g post S (Int32.ofNat n) := by
  have hb := h.kDsB
  have e : S.1 8 - Int32.ofNat n = Int32.ofNat (A.ds.length - n) := by rw [h.kDs, n_sub hn]
  have hs : ∀ (m : Nat) (l : List Int32), Stk (S.2.1 0) l → Stk (S.2.1 0) (l.drop m) := by
    intro m
    induction m with
    | zero => intro l hl; exact hl
    | succ m ih =>
      intro l hl
      cases l with
      | nil => trivial
      | cons x l => exact ih l hl.2
  unfold wp_Nd_drop
  refine k _ (h.ds ?_ ?_ (hs n _ h.kDsS))
  · rw [e]
    by_cases z : n = A.ds.length
    · rw [if_neg]
      · rw [z]
        simp
      · rw [r_lt (by decide) (by omega)]
        omega
    · rw [if_pos]
      · simp
      · rw [r_lt (by decide) (by omega)]
        omega
  · simp
    omega
theorem c_from {g : Gm} {ρ : Nat → Nat × Nat} {A : Ab} {S : StC} {post : Int32 → StC → Prop} {i : Nat} (h : RC g ρ A S) (hi : i < 1000) (k : post (A.ds.getD i 0) S) : wp_Nd_fromTop g post S (Int32.ofNat i) := by
  have hb := h.kDsB
  unfold wp_Nd_fromTop wq_Nd_fromTop_28 wq_Nd_fromTop_29
  refine ⟨fun z => ?_, fun _ => ⟨fun z => ?_, fun z => ?_⟩⟩
  · rw [l_lt (by omega) (by decide)] at z
    omega
  · rw [h.kDs, n_le (by omega) (by omega)] at z
    rw [List.getD_eq_getElem?_getD, List.getElem?_eq_none z] at k
    exact k
  · rw [h.kDs, n_le (by omega) (by omega)] at z
    have e : S.1 8 - 1 - Int32.ofNat i = Int32.ofNat (A.ds.length - 1 - i) := by
      rw [h.kDs, show (1 : Int32) = Int32.ofNat 1 from rfl, n_sub (by omega), n_sub (by omega)]
    have hlt : i < A.ds.length := by omega
    rw [e, n_cl (by omega), h.kDsS.get (List.getElem?_eq_getElem hlt)]
    rw [List.getD_eq_getElem?_getD, List.getElem?_eq_getElem hlt] at k
    exact ⟨n_in (by omega) (by omega), k⟩
