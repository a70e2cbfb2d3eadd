/-- who lies where at the start -/
def rol : List Nat → List (Nat × Nat) → Nat → Nat × Nat
  | a :: l, r :: rs, x => if x = a then r else rol l rs x
  | [], _, _ => (0, 0)
  | _ :: _, [], _ => (0, 0)
theorem rol_at : ∀ {l : List Nat} {rs : List (Nat × Nat)} {j x : Nat} {r : Nat × Nat}, l.Nodup → l[j]? = some x → rs[j]? = some r → rol l rs x = r
  | [], rs, j, x, r, _, h, _ => by simp at h
  | a :: l, [], j, x, r, _, _, h => by simp at h
  | a :: l, r0 :: rs, 0, x, r, _, h, h' => by
    simp at h h'
    subst h
    subst h'
    exact if_pos rfl
  | a :: l, r0 :: rs, j + 1, x, r, hn, h, h' => by
    simp at h h'
    have hn' := List.nodup_cons.mp hn
    have hne : x ≠ a := fun e => hn'.1 (e ▸ List.mem_of_getElem? h)
    have e : rol (a :: l) (r0 :: rs) x = rol l rs x := if_neg hne
    rw [e]
    exact rol_at hn'.2 h h'
def ab0 : Ab := fun i => match i with
  | 0 => ([] : List Int32)
  | 1 => ([] : List Int32)
  | 2 => (fun _ => 0 : Nat → Int32)
  | 3 => (0 : Nat)
  | 4 => (0 : Nat)
  | 5 => (fun _ => 0 : Nat → Int32)
  | 6 => (0 : Nat)
  | 7 => (0 : Nat)
  | 8 => (fun _ _ => 0 : Nat → Nat → Int32)
  | 9 => (fun _ => none : Nat → Option Nat)
  | 10 => (fun _ => false : Nat → Bool)
  | 11 => (none : Option Nat)
  | 12 => ([] : List Wd)
  | 13 => (none : Option Wd)
  | 14 => ([] : List (Nat × Nat))
  | 15 => ([] : List Fr)
  | 16 => ([] : List Int32)
  | 17 => (0 : Nat)
  | 18 => (0 : Nat)
  | 19 => (0 : Nat)
  | 20 => ([] : List Int32)
  | _ + 21 => ()
theorem ab0_cd : CD ab0 := CD.of rfl (fun w hw => absurd hw List.not_mem_nil) (Nat.zero_le _) (Nat.zero_le _) (fun w hw => absurd hw List.not_mem_nil) (fun w hw => (by cases hw))
theorem no_get {α : Type} {i : Nat} {x : α} (h : ([] : List α)[i]? = some x) : False := by simp at h
theorem rm_fresh : RM ab0 (upd (upd tI0 2 0) 14 0, tA0, nm1) :=
  RM.mk (hereE0 := rfl) (hereB0 := Nat.zero_le _) (memE0 := fun _ _ => rfl) (prE0 := rfl) (prB0 := Nat.le_refl _) (pbB0 := Nat.zero_le _) (outE0 := fun _ _ _ => rfl) (fuE0 := rfl) (blkE0 := fun _ _ _ _ => rfl) (hasE0 := fun b hb => if_pos hb) (hasB0 := fun b n _ h => (by cases h)) (upE0 := fun _ _ => rfl) (toldE0 := rfl) (toldB0 := fun n h => (by cases h)) (upB0 := fun b _ h => (by cases h)) (toldH0 := fun b h => (by cases h)) (madeE0 := rfl) (madeB0 := Nat.zero_le _) (wsE0 := fun k w h => (no_get h).elim) (namE0 := fun k hk => nm1_at k (by omega)) (txE0 := rfl) (txB0 := Nat.zero_le _) (txC0 := fun i c h => (no_get h).elim) (txO0 := fun c hc => absurd hc List.not_mem_nil) (posE0 := rfl) (posB0 := Nat.le_refl _) (tkE0 := rfl) (tlE0 := rfl) (err0 := rfl) (dsE0 := rfl) (dsB0 := Nat.zero_le _) (dsS0 := trivial) (rsE0 := rfl) (rsB0 := Nat.zero_le _) (rsS0 := trivial) (csE0 := rfl) (csB0 := Nat.zero_le _) (csS0 := trivial) (csW0 := fun fr hf => absurd hf List.not_mem_nil) (drE0 := rfl) (drW0 := fun w hw => (by cases hw)) (opE0 := fun n => absurd rfl n) (opB0 := Nat.zero_le _) (opK0 := fun n => absurd rfl n) (opA0 := fun n => absurd rfl n)
def rol0 : List (Nat × Nat) := [(10, 0), (7, 0), (7, 1), (7, 2), (7, 3)] ++ (List.range 16).flatMap (fun i => [(1, i), (2, i), (3, i)])
theorem sim0 (g : Gm) (S : StC) (hG : ∀ i j, i < 52 → j < 52 → g.2.2 (100 + i) = g.2.2 (100 + j) → i = j) (hF : FreshC g S) : Sim 0 g S (tI0, tA0, nm1) := by
  obtain ⟨b0, r, c, x, y, h1, h2, h3, h4, h5, h6, h7, h8, h9, h10, h11, h12⟩ := hF
  obtain ⟨I, Aa, P, R, Q, L, F⟩ := S
  have h1 : I = cI0 := h1
  subst h1
  have h2 : Aa = cA0 := h2
  subst h2
  have h3 : P 0 = b0 := h3
  subst h3
  have h4 : P 1 = g.2.2 (200 + 52) := h4
  have h5 : R 0 = none := h5
  have h6 : ∀ i, i < 16 → Q 1 i = some (c i) := h6
  have h7 : ∀ i, i < 4 → Q 3 i = some (r i) := h7
  have h8 : L = [P 0, r 0, r 1, r 2, r 3] ++ (List.range 16).flatMap (fun i => [c i, x i, y i]) := h8
  have h9 : L.Nodup := h9
  have h10 : F (P 0) = .inl (g.2.1 3, 16, .inl (fun _ => 0)) := h10
  have h11 : ∀ i, i < 4 → F (r i) = .inl (g.2.1 0, 16, .inl (fun _ => 0)) := h11
  have h12 : ∀ i, i < 16 → F (c i) = .inr (9, [.null, .int 0, .ref (x i), .ref (y i), .int 0]) ∧ F (x i) = .inl (g.2.1 0, 4, .inl (fun _ => 0)) ∧ F (y i) = .inl (g.2.1 0, 4, .inl (fun _ => 0)) := h12
  have pa : ∀ {j a : Nat} {q : Nat × Nat} {e : va_E}, L[j]? = some a → rol0[j]? = some q → F a = e → PA L F (rol L rol0) a q e := fun ha hq he => ⟨List.mem_of_getElem? ha, rol_at h9 ha hq, he⟩
  have pb : PA L F (rol L rol0) (P 0) (10, 0) (.inl (g.2.1 3, 16, .inl (fun _ => 0))) := pa (j := 0) (by rw [h8]; rfl) rfl h10
  have pr : ∀ i, i < 4 → PA L F (rol L rol0) (r i) (7, i) (.inl (g.2.1 0, 16, .inl (fun _ => 0))) := by
    intro i hi
    refine pa (j := 1 + i) ?_ ?_ (h11 i hi)
    · rw [h8]
      rcases (show i = 0 ∨ i = 1 ∨ i = 2 ∨ i = 3 by omega) with rfl | rfl | rfl | rfl <;> rfl
    · rcases (show i = 0 ∨ i = 1 ∨ i = 2 ∨ i = 3 by omega) with rfl | rfl | rfl | rfl <;> rfl
  have i16 : ∀ i, i < 16 → i = 0 ∨ i = 1 ∨ i = 2 ∨ i = 3 ∨ i = 4 ∨ i = 5 ∨ i = 6 ∨ i = 7 ∨ i = 8 ∨ i = 9 ∨ i = 10 ∨ i = 11 ∨ i = 12 ∨ i = 13 ∨ i = 14 ∨ i = 15 := fun i hi => by omega
  have pc : ∀ i, i < 16 → PA L F (rol L rol0) (c i) (1, i) (.inr (9, [.null, .int 0, .ref (x i), .ref (y i), .int 0])) := by
    intro i hi
    refine pa (j := 5 + 3 * i) ?_ ?_ (h12 i hi).1
    · rw [h8]
      rcases i16 i hi with rfl | rfl | rfl | rfl | rfl | rfl | rfl | rfl | rfl | rfl | rfl | rfl | rfl | rfl | rfl | rfl <;> rfl
    · rcases i16 i hi with rfl | rfl | rfl | rfl | rfl | rfl | rfl | rfl | rfl | rfl | rfl | rfl | rfl | rfl | rfl | rfl <;> rfl
  have px : ∀ i, i < 16 → PA L F (rol L rol0) (x i) (2, i) (.inl (g.2.1 0, 4, .inl (fun _ => 0))) := by
    intro i hi
    refine pa (j := 6 + 3 * i) ?_ ?_ (h12 i hi).2.1
    · rw [h8]
      rcases i16 i hi with rfl | rfl | rfl | rfl | rfl | rfl | rfl | rfl | rfl | rfl | rfl | rfl | rfl | rfl | rfl | rfl <;> rfl
    · rcases i16 i hi with rfl | rfl | rfl | rfl | rfl | rfl | rfl | rfl | rfl | rfl | rfl | rfl | rfl | rfl | rfl | rfl <;> rfl
  have py : ∀ i, i < 16 → PA L F (rol L rol0) (y i) (3, i) (.inl (g.2.1 0, 4, .inl (fun _ => 0))) := by
    intro i hi
    refine pa (j := 7 + 3 * i) ?_ ?_ (h12 i hi).2.2
    · rw [h8]
      rcases i16 i hi with rfl | rfl | rfl | rfl | rfl | rfl | rfl | rfl | rfl | rfl | rfl | rfl | rfl | rfl | rfl | rfl <;> rfl
    · rcases i16 i hi with rfl | rfl | rfl | rfl | rfl | rfl | rfl | rfl | rfl | rfl | rfl | rfl | rfl | rfl | rfl | rfl <;> rfl
  refine ⟨ab0, rol L rol0, 0, 0, [], Nat.le_refl 0, rfl, ab0_cd, rm_fresh, ?_⟩
  exact RC.mk (kHere0 := rfl) (kHereB0 := Nat.zero_le _) (kMem0 := fun _ _ => rfl) (kPr0 := rfl) (kPrB0 := Nat.le_refl _) (kPbB0 := Nat.zero_le _) (kOut0 := fun _ _ _ => rfl) (kFu0 := rfl) (kHas0 := fun b hb => (by rcases (show b = 0 ∨ b = 1 by omega) with rfl | rfl <;> rfl)) (kHasB0 := fun b n _ h => (by cases h)) (kUp0 := fun _ _ => rfl) (kUpB0 := fun b _ h => (by cases h)) (kTold0 := rfl) (kToldB0 := fun n h => (by cases h)) (kToldH0 := fun b h => (by cases h)) (kMade0 := rfl) (kMadeB0 := Nat.zero_le _) (kWs0 := fun k w h => (no_get h).elim) (kRows0 := fun b hb => ⟨r b, fun _ => 0, h7 b hb, pr b hb, fun _ _ => rfl⟩) (kLay0 := fun i hi => ⟨none, 0, 0, fun _ => 0, fun _ => 0, c i, x i, y i, h6 i hi, pc i hi, px i hi, py i hi⟩) (kPos0 := rfl) (kTk0 := rfl) (kTx0 := Or.inl ⟨h4, rfl⟩) (kBt0 := ⟨rfl, rfl, 16, fun _ => 0, pb, Nat.zero_le _, Or.inl rfl, fun _ => rfl, Nat.zero_le _, fun i c h => (no_get h).elim⟩) (kG0 := hG) (kDs0 := rfl) (kDsB0 := Nat.zero_le _) (kDsS0 := trivial) (kRs0 := rfl) (kRsB0 := Nat.zero_le _) (kRsS0 := trivial) (kCs0 := rfl) (kCsB0 := Nat.zero_le _) (kCsS0 := trivial) (kDr00 := fun _ => h5) (kDr0 := fun w hw => (by cases hw)) (kOp0 := fun n => absurd rfl n) (kOpB0 := Nat.zero_le _) (kOpK0 := fun n => absurd rfl n) (kOpA0 := fun n => absurd rfl n)
