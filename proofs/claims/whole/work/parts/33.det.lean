/-- two runs of one thing come to one result -/
def Dt2 {P R : Type} (ev : P → R → Prop) (F G : P → Prop) : Prop := ∀ p q, F p → G q → ∃ x, ev p x ∧ ev q x ∧ ∀ r, ev r x → F r
def evV (P : StM → Prop) (x : StM) : Prop := P x
def evI (P : Int32 → StM → Prop) (x : Int32 × StM) : Prop := P x.1 x.2
def evL (P : Int64 → StM → Prop) (x : Int64 × StM) : Prop := P x.1 x.2
section
variable {P R : Type} {ev : P → R → Prop} {A B A1 B1 : P → Prop} {X Y c : Prop}
theorem Dt2.noL : Dt2 ev (fun _ => False) A := fun _ _ h => h.elim
theorem Dt2.noR : Dt2 ev A (fun _ => False) := fun _ _ _ h => h.elim
theorem Dt2.ite (hA : Dt2 ev A A1) (hB : Dt2 ev B B1) : Dt2 ev (fun p => (c → A p) ∧ (¬ c → B p)) (fun p => (c → A1 p) ∧ (¬ c → B1 p)) := fun p q h k => by
  by_cases hc : c
  · obtain ⟨x, h1, h2, h3⟩ := hA p q (h.1 hc) (k.1 hc)
    exact ⟨x, h1, h2, fun q hq => ⟨fun _ => h3 q hq, fun n => absurd hc n⟩⟩
  · obtain ⟨x, h1, h2, h3⟩ := hB p q (h.2 hc) (k.2 hc)
    exact ⟨x, h1, h2, fun q hq => ⟨fun n => absurd n hc, fun _ => h3 q hq⟩⟩
theorem Dt2.and (hA : Dt2 ev A A1) : Dt2 ev (fun p => X ∧ A p) (fun p => Y ∧ A1 p) := fun p q h k => by
  obtain ⟨x, h1, h2, h3⟩ := hA p q h.2 k.2
  exact ⟨x, h1, h2, fun q hq => ⟨h.1, h3 q hq⟩⟩
theorem Dt2.ex {G G1 : P → Nat → Prop} (h : ∀ n m, Dt2 ev (fun p => G p n) (fun p => G1 p m)) : Dt2 ev (fun p => ∃ n : Nat, G p n) (fun p => ∃ n : Nat, G1 p n) := fun p q hp hq => by
  obtain ⟨n, hn⟩ := hp
  obtain ⟨m, hm⟩ := hq
  obtain ⟨x, h1, h2, h3⟩ := h n m p q hn hm
  exact ⟨x, h1, h2, fun q hq => ⟨n, h3 q hq⟩⟩
theorem Dt2.v {S : StM} : Dt2 evV (fun p => p S) (fun p => p S) := fun _ _ h k => ⟨S, h, k, fun _ hq => hq⟩
theorem Dt2.i {S : StM} {r : Int32} : Dt2 evI (fun p => p r S) (fun p => p r S) := fun _ _ h k => ⟨(r, S), h, k, fun _ hq => hq⟩
theorem Dt2.l {S : StM} {r : Int64} : Dt2 evL (fun p => p r S) (fun p => p r S) := fun _ _ h k => ⟨(r, S), h, k, fun _ hq => hq⟩
theorem Dt2.one {F : P → Prop} (h : Dt2 ev F F) : ∀ p, F p → ∃ x, ev p x ∧ ∀ q, ev q x → F q := fun p hp => by
  obtain ⟨x, h1, -, h3⟩ := h p p hp hp
  exact ⟨x, h1, h3⟩
end
/-- forward to elimination -/
theorem elimI {F : (Int32 → StM → Prop) → Prop} (h : Dt2 evI F F) {P : Int32 → StM → Prop} {r : Int32} {T : StM} (hf : ∀ Q : Int32 → StM → Prop, Q r T → F Q) (hp : F P) : P r T := by
  obtain ⟨x, h1, h2, -⟩ := h P (fun r1 T1 => r1 = r ∧ T1 = T) hp (hf _ ⟨rfl, rfl⟩)
  obtain ⟨e1, e2⟩ : x.1 = r ∧ x.2 = T := h2
  have h1 : P x.1 x.2 := h1
  rw [e1, e2] at h1
  exact h1
theorem elimL {F : (Int64 → StM → Prop) → Prop} (h : Dt2 evL F F) {P : Int64 → StM → Prop} {r : Int64} {T : StM} (hf : ∀ Q : Int64 → StM → Prop, Q r T → F Q) (hp : F P) : P r T := by
  obtain ⟨x, h1, h2, -⟩ := h P (fun r1 T1 => r1 = r ∧ T1 = T) hp (hf _ ⟨rfl, rfl⟩)
  obtain ⟨e1, e2⟩ : x.1 = r ∧ x.2 = T := h2
  have h1 : P x.1 x.2 := h1
  rw [e1, e2] at h1
  exact h1
theorem elimV {F : (StM → Prop) → Prop} (h : Dt2 evV F F) {P : StM → Prop} {T : StM} (hf : ∀ Q : StM → Prop, Q T → F Q) (hp : F P) : P T := by
  obtain ⟨x, h1, h2, -⟩ := h P (fun T1 => T1 = T) hp (hf _ rfl)
  have e2 : x = T := h2
  have h1 : P x := h1
  rw [e2] at h1
  exact h1
theorem dt_wq_M_name_43 {Kk7 Jk7 : (StM → Prop) → StM → Int32 → Int64 → Int64 → Int32 → Prop} (hk7 : ∀ (z0 : StM) (z1 : Int32) (z2 : Int64) (z3 : Int64) (z4 : Int32), Dt2 evV (fun p => Kk7 p z0 z1 z2 z3 z4) (fun p => Jk7 p z0 z1 z2 z3 z4)) {S : StM} {x1 : Int32} {x2 : Int64} {x6 : Int32} {t0 : Int64} : Dt2 evV (fun p => wq_M_name_43 p (Kk7 p) S x1 x2 x6 t0) (fun p => wq_M_name_43 p (Jk7 p) S x1 x2 x6 t0) := by
  unfold wq_M_name_43
  repeat' first
    | with_reducible exact Dt2.noL
    | with_reducible exact Dt2.noR
    | with_reducible exact Dt2.v
    | with_reducible exact Dt2.i
    | with_reducible exact Dt2.l
    | with_reducible exact hk7 _ _ _ _ _
    | with_reducible refine Dt2.ite ?_ ?_
    | with_reducible refine Dt2.and ?_
    | with_reducible refine Dt2.ex (fun _ _ => ?_)
theorem dt_wq_M_name_7 : ∀ (n m : Nat) (z0 : StM) (z1 : Int32) (z2 : Int64) (z3 : Int64) (z4 : Int32), Dt2 evV (fun p => wq_M_name_7 p n z0 z1 z2 z3 z4) (fun p => wq_M_name_7 p m z0 z1 z2 z3 z4) := by
  intro n
  induction n with
  | zero => intros; exact Dt2.noL
  | succ n ih =>
  intro m
  cases m with
  | zero => intros; exact Dt2.noR
  | succ m =>
  intros
  unfold wq_M_name_7
  repeat' first
    | with_reducible exact Dt2.noL
    | with_reducible exact Dt2.noR
    | with_reducible exact Dt2.v
    | with_reducible exact Dt2.i
    | with_reducible exact Dt2.l
    | with_reducible exact ih _ _ _ _ _ _
    | with_reducible refine dt_wq_M_name_43 (fun _ _ _ _ _ => ?_)
    | with_reducible refine Dt2.ite ?_ ?_
    | with_reducible refine Dt2.and ?_
    | with_reducible refine Dt2.ex (fun _ _ => ?_)
theorem dt_wp_M_name {S : StM} {a0 : Int32} {a1 : Int64} : Dt2 evV (fun p => wp_M_name p S a0 a1) (fun p => wp_M_name p S a0 a1) := by
  unfold wp_M_name
  repeat' first
    | with_reducible exact Dt2.noL
    | with_reducible exact Dt2.noR
    | with_reducible exact Dt2.v
    | with_reducible exact Dt2.i
    | with_reducible exact Dt2.l
    | with_reducible exact dt_wq_M_name_7 _ _ _ _ _ _ _
    | with_reducible refine Dt2.ite ?_ ?_
    | with_reducible refine Dt2.and ?_
    | with_reducible refine Dt2.ex (fun _ _ => ?_)
theorem dc_wp_M_name {P R : Type} {ev : P → R → Prop} {B C : P → StM → Prop} {S : StM} {a0 : Int32} {a1 : Int64} (h : ∀ S1 : StM, Dt2 ev (fun p => B p S1) (fun p => C p S1)) : Dt2 ev (fun p => wp_M_name (B p) S a0 a1) (fun p => wp_M_name (C p) S a0 a1) := fun p q hp hq => by
  obtain ⟨x, h1, h1q, h2⟩ := dt_wp_M_name (B p) (C q) hp hq
  obtain ⟨y, h3, h3q, h4⟩ := h x p q h1 h1q
  exact ⟨y, h3, h3q, fun q hq => h2 (B q) (h4 q hq)⟩
theorem dt_wq_M_in_15 {S : StM} {t0 : Int32} : Dt2 evI (fun p => wq_M_in_15 p S t0) (fun p => wq_M_in_15 p S t0) := by
  unfold wq_M_in_15
  repeat' first
    | with_reducible exact Dt2.noL
    | with_reducible exact Dt2.noR
    | with_reducible exact Dt2.v
    | with_reducible exact Dt2.i
    | with_reducible exact Dt2.l
    | with_reducible refine Dt2.ite ?_ ?_
    | with_reducible refine Dt2.and ?_
    | with_reducible refine Dt2.ex (fun _ _ => ?_)
theorem dt_wq_M_in_14 {S : StM} : Dt2 evI (fun p => wq_M_in_14 p S) (fun p => wq_M_in_14 p S) := by
  unfold wq_M_in_14
  repeat' first
    | with_reducible exact Dt2.noL
    | with_reducible exact Dt2.noR
    | with_reducible exact Dt2.v
    | with_reducible exact Dt2.i
    | with_reducible exact Dt2.l
    | with_reducible refine dt_wq_M_in_15
    | with_reducible refine Dt2.ite ?_ ?_
    | with_reducible refine Dt2.and ?_
    | with_reducible refine Dt2.ex (fun _ _ => ?_)
theorem dt_wp_M_in {S : StM} {a0 : Int32} {a1 : Int32} {a2 : Int32} : Dt2 evI (fun p => wp_M_in p S a0 a1 a2) (fun p => wp_M_in p S a0 a1 a2) := by
  unfold wp_M_in
  repeat' first
    | with_reducible exact Dt2.noL
    | with_reducible exact Dt2.noR
    | with_reducible exact Dt2.v
    | with_reducible exact Dt2.i
    | with_reducible exact Dt2.l
    | with_reducible refine dt_wq_M_in_15
    | with_reducible refine dt_wq_M_in_14
    | with_reducible refine Dt2.ite ?_ ?_
    | with_reducible refine Dt2.and ?_
    | with_reducible refine Dt2.ex (fun _ _ => ?_)
theorem dc_wp_M_in {P R : Type} {ev : P → R → Prop} {B C : P → Int32 → StM → Prop} {S : StM} {a0 : Int32} {a1 : Int32} {a2 : Int32} (h : ∀ (r1 : Int32) (S1 : StM), Dt2 ev (fun p => B p r1 S1) (fun p => C p r1 S1)) : Dt2 ev (fun p => wp_M_in (B p) S a0 a1 a2) (fun p => wp_M_in (C p) S a0 a1 a2) := fun p q hp hq => by
  obtain ⟨x, h1, h1q, h2⟩ := dt_wp_M_in (B p) (C q) hp hq
  obtain ⟨y, h3, h3q, h4⟩ := h x.1 x.2 p q h1 h1q
  exact ⟨y, h3, h3q, fun q hq => h2 (B q) (h4 q hq)⟩
theorem dt_wq_M_fail_16 {S : StM} {t0 : Int32} : Dt2 evV (fun p => wq_M_fail_16 p S t0) (fun p => wq_M_fail_16 p S t0) := by
  unfold wq_M_fail_16
  repeat' first
    | with_reducible exact Dt2.noL
    | with_reducible exact Dt2.noR
    | with_reducible exact Dt2.v
    | with_reducible exact Dt2.i
    | with_reducible exact Dt2.l
    | with_reducible refine Dt2.ite ?_ ?_
    | with_reducible refine Dt2.and ?_
    | with_reducible refine Dt2.ex (fun _ _ => ?_)
theorem dt_wp_M_fail {S : StM} {a0 : Int32} : Dt2 evV (fun p => wp_M_fail p S a0) (fun p => wp_M_fail p S a0) := by
  unfold wp_M_fail
  repeat' first
    | with_reducible exact Dt2.noL
    | with_reducible exact Dt2.noR
    | with_reducible exact Dt2.v
    | with_reducible exact Dt2.i
    | with_reducible exact Dt2.l
    | with_reducible refine dt_wq_M_fail_16
    | with_reducible refine Dt2.ite ?_ ?_
    | with_reducible refine Dt2.and ?_
    | with_reducible refine Dt2.ex (fun _ _ => ?_)
theorem dc_wp_M_fail {P R : Type} {ev : P → R → Prop} {B C : P → StM → Prop} {S : StM} {a0 : Int32} (h : ∀ S1 : StM, Dt2 ev (fun p => B p S1) (fun p => C p S1)) : Dt2 ev (fun p => wp_M_fail (B p) S a0) (fun p => wp_M_fail (C p) S a0) := fun p q hp hq => by
  obtain ⟨x, h1, h1q, h2⟩ := dt_wp_M_fail (B p) (C q) hp hq
  obtain ⟨y, h3, h3q, h4⟩ := h x p q h1 h1q
  exact ⟨y, h3, h3q, fun q hq => h2 (B q) (h4 q hq)⟩
theorem dt_wq_M_needs_26 {S : StM} {t0 : Int32} : Dt2 evI (fun p => wq_M_needs_26 p S t0) (fun p => wq_M_needs_26 p S t0) := by
  unfold wq_M_needs_26
  repeat' first
    | with_reducible exact Dt2.noL
    | with_reducible exact Dt2.noR
    | with_reducible exact Dt2.v
    | with_reducible exact Dt2.i
    | with_reducible exact Dt2.l
    | with_reducible refine Dt2.ite ?_ ?_
    | with_reducible refine Dt2.and ?_
    | with_reducible refine Dt2.ex (fun _ _ => ?_)
theorem dt_wq_M_needs_13 {S : StM} {x1 : Int32} : Dt2 evI (fun p => wq_M_needs_13 p S x1) (fun p => wq_M_needs_13 p S x1) := by
  unfold wq_M_needs_13
  repeat' first
    | with_reducible exact Dt2.noL
    | with_reducible exact Dt2.noR
    | with_reducible exact Dt2.v
    | with_reducible exact Dt2.i
    | with_reducible exact Dt2.l
    | with_reducible refine dt_wq_M_needs_26
    | with_reducible refine Dt2.ite ?_ ?_
    | with_reducible refine Dt2.and ?_
    | with_reducible refine Dt2.ex (fun _ _ => ?_)
theorem dt_wp_M_needs {S : StM} {a0 : Int32} : Dt2 evI (fun p => wp_M_needs p S a0) (fun p => wp_M_needs p S a0) := by
  unfold wp_M_needs
  repeat' first
    | with_reducible exact Dt2.noL
    | with_reducible exact Dt2.noR
    | with_reducible exact Dt2.v
    | with_reducible exact Dt2.i
    | with_reducible exact Dt2.l
    | with_reducible refine dc_wp_M_fail (fun _ => ?_)
    | with_reducible refine dt_wq_M_needs_13
    | with_reducible refine Dt2.ite ?_ ?_
    | with_reducible refine Dt2.and ?_
    | with_reducible refine Dt2.ex (fun _ _ => ?_)
theorem dc_wp_M_needs {P R : Type} {ev : P → R → Prop} {B C : P → Int32 → StM → Prop} {S : StM} {a0 : Int32} (h : ∀ (r1 : Int32) (S1 : StM), Dt2 ev (fun p => B p r1 S1) (fun p => C p r1 S1)) : Dt2 ev (fun p => wp_M_needs (B p) S a0) (fun p => wp_M_needs (C p) S a0) := fun p q hp hq => by
  obtain ⟨x, h1, h1q, h2⟩ := dt_wp_M_needs (B p) (C q) hp hq
  obtain ⟨y, h3, h3q, h4⟩ := h x.1 x.2 p q h1 h1q
  exact ⟨y, h3, h3q, fun q hq => h2 (B q) (h4 q hq)⟩
theorem dt_wq_M_push_37 {S : StM} : Dt2 evV (fun p => wq_M_push_37 p S) (fun p => wq_M_push_37 p S) := by
  unfold wq_M_push_37
  repeat' first
    | with_reducible exact Dt2.noL
    | with_reducible exact Dt2.noR
    | with_reducible exact Dt2.v
    | with_reducible exact Dt2.i
    | with_reducible exact Dt2.l
    | with_reducible refine Dt2.ite ?_ ?_
    | with_reducible refine Dt2.and ?_
    | with_reducible refine Dt2.ex (fun _ _ => ?_)
theorem dt_wp_M_push {S : StM} {a0 : Int32} : Dt2 evV (fun p => wp_M_push p S a0) (fun p => wp_M_push p S a0) := by
  unfold wp_M_push
  repeat' first
    | with_reducible exact Dt2.noL
    | with_reducible exact Dt2.noR
    | with_reducible exact Dt2.v
    | with_reducible exact Dt2.i
    | with_reducible exact Dt2.l
    | with_reducible refine dc_wp_M_fail (fun _ => ?_)
    | with_reducible refine dt_wq_M_push_37
    | with_reducible refine Dt2.ite ?_ ?_
    | with_reducible refine Dt2.and ?_
    | with_reducible refine Dt2.ex (fun _ _ => ?_)
theorem dc_wp_M_push {P R : Type} {ev : P → R → Prop} {B C : P → StM → Prop} {S : StM} {a0 : Int32} (h : ∀ S1 : StM, Dt2 ev (fun p => B p S1) (fun p => C p S1)) : Dt2 ev (fun p => wp_M_push (B p) S a0) (fun p => wp_M_push (C p) S a0) := fun p q hp hq => by
  obtain ⟨x, h1, h1q, h2⟩ := dt_wp_M_push (B p) (C q) hp hq
  obtain ⟨y, h3, h3q, h4⟩ := h x p q h1 h1q
  exact ⟨y, h3, h3q, fun q hq => h2 (B q) (h4 q hq)⟩
theorem dt_wp_M_pop {S : StM} : Dt2 evI (fun p => wp_M_pop p S) (fun p => wp_M_pop p S) := by
  unfold wp_M_pop
  repeat' first
    | with_reducible exact Dt2.noL
    | with_reducible exact Dt2.noR
    | with_reducible exact Dt2.v
    | with_reducible exact Dt2.i
    | with_reducible exact Dt2.l
    | with_reducible refine Dt2.ite ?_ ?_
    | with_reducible refine Dt2.and ?_
    | with_reducible refine Dt2.ex (fun _ _ => ?_)
theorem dc_wp_M_pop {P R : Type} {ev : P → R → Prop} {B C : P → Int32 → StM → Prop} {S : StM} (h : ∀ (r1 : Int32) (S1 : StM), Dt2 ev (fun p => B p r1 S1) (fun p => C p r1 S1)) : Dt2 ev (fun p => wp_M_pop (B p) S) (fun p => wp_M_pop (C p) S) := fun p q hp hq => by
  obtain ⟨x, h1, h1q, h2⟩ := dt_wp_M_pop (B p) (C q) hp hq
  obtain ⟨y, h3, h3q, h4⟩ := h x.1 x.2 p q h1 h1q
  exact ⟨y, h3, h3q, fun q hq => h2 (B q) (h4 q hq)⟩
theorem dt_wp_M_top {S : StM} {a0 : Int32} : Dt2 evI (fun p => wp_M_top p S a0) (fun p => wp_M_top p S a0) := by
  unfold wp_M_top
  repeat' first
    | with_reducible exact Dt2.noL
    | with_reducible exact Dt2.noR
    | with_reducible exact Dt2.v
    | with_reducible exact Dt2.i
    | with_reducible exact Dt2.l
    | with_reducible refine Dt2.ite ?_ ?_
    | with_reducible refine Dt2.and ?_
    | with_reducible refine Dt2.ex (fun _ _ => ?_)
theorem dc_wp_M_top {P R : Type} {ev : P → R → Prop} {B C : P → Int32 → StM → Prop} {S : StM} {a0 : Int32} (h : ∀ (r1 : Int32) (S1 : StM), Dt2 ev (fun p => B p r1 S1) (fun p => C p r1 S1)) : Dt2 ev (fun p => wp_M_top (B p) S a0) (fun p => wp_M_top (C p) S a0) := fun p q hp hq => by
  obtain ⟨x, h1, h1q, h2⟩ := dt_wp_M_top (B p) (C q) hp hq
  obtain ⟨y, h3, h3q, h4⟩ := h x.1 x.2 p q h1 h1q
  exact ⟨y, h3, h3q, fun q hq => h2 (B q) (h4 q hq)⟩
theorem dt_wq_M_nextToken_109 {S : StM} {t0 : Int32} : Dt2 evI (fun p => wq_M_nextToken_109 p S t0) (fun p => wq_M_nextToken_109 p S t0) := by
  unfold wq_M_nextToken_109
  repeat' first
    | with_reducible exact Dt2.noL
    | with_reducible exact Dt2.noR
    | with_reducible exact Dt2.v
    | with_reducible exact Dt2.i
    | with_reducible exact Dt2.l
    | with_reducible refine Dt2.ite ?_ ?_
    | with_reducible refine Dt2.and ?_
    | with_reducible refine Dt2.ex (fun _ _ => ?_)
theorem dt_wq_M_nextToken_84 {S : StM} : Dt2 evI (fun p => wq_M_nextToken_84 p S) (fun p => wq_M_nextToken_84 p S) := by
  unfold wq_M_nextToken_84
  repeat' first
    | with_reducible exact Dt2.noL
    | with_reducible exact Dt2.noR
    | with_reducible exact Dt2.v
    | with_reducible exact Dt2.i
    | with_reducible exact Dt2.l
    | with_reducible refine dt_wq_M_nextToken_109
    | with_reducible refine Dt2.ite ?_ ?_
    | with_reducible refine Dt2.and ?_
    | with_reducible refine Dt2.ex (fun _ _ => ?_)
theorem dt_wq_M_nextToken_46 : ∀ (n m : Nat) (z0 : StM), Dt2 evI (fun p => wq_M_nextToken_46 p n z0) (fun p => wq_M_nextToken_46 p m z0) := by
  intro n
  induction n with
  | zero => intros; exact Dt2.noL
  | succ n ih =>
  intro m
  cases m with
  | zero => intros; exact Dt2.noR
  | succ m =>
  intros
  unfold wq_M_nextToken_46
  repeat' first
    | with_reducible exact Dt2.noL
    | with_reducible exact Dt2.noR
    | with_reducible exact Dt2.v
    | with_reducible exact Dt2.i
    | with_reducible exact Dt2.l
    | with_reducible exact ih _ _
    | with_reducible refine dt_wq_M_nextToken_84
    | with_reducible refine Dt2.ite ?_ ?_
    | with_reducible refine Dt2.and ?_
    | with_reducible refine Dt2.ex (fun _ _ => ?_)
theorem dt_wq_M_nextToken_38 {S : StM} : Dt2 evI (fun p => wq_M_nextToken_38 p S) (fun p => wq_M_nextToken_38 p S) := by
  unfold wq_M_nextToken_38
  repeat' first
    | with_reducible exact Dt2.noL
    | with_reducible exact Dt2.noR
    | with_reducible exact Dt2.v
    | with_reducible exact Dt2.i
    | with_reducible exact Dt2.l
    | with_reducible exact dt_wq_M_nextToken_46 _ _ _
    | with_reducible refine Dt2.ite ?_ ?_
    | with_reducible refine Dt2.and ?_
    | with_reducible refine Dt2.ex (fun _ _ => ?_)
theorem dt_wq_M_nextToken_0 : ∀ (n m : Nat) (z0 : StM), Dt2 evI (fun p => wq_M_nextToken_0 p n z0) (fun p => wq_M_nextToken_0 p m z0) := by
  intro n
  induction n with
  | zero => intros; exact Dt2.noL
  | succ n ih =>
  intro m
  cases m with
  | zero => intros; exact Dt2.noR
  | succ m =>
  intros
  unfold wq_M_nextToken_0
  repeat' first
    | with_reducible exact Dt2.noL
    | with_reducible exact Dt2.noR
    | with_reducible exact Dt2.v
    | with_reducible exact Dt2.i
    | with_reducible exact Dt2.l
    | with_reducible exact ih _ _
    | with_reducible refine dt_wq_M_nextToken_38
    | with_reducible refine Dt2.ite ?_ ?_
    | with_reducible refine Dt2.and ?_
    | with_reducible refine Dt2.ex (fun _ _ => ?_)
theorem dt_wp_M_nextToken {S : StM} : Dt2 evI (fun p => wp_M_nextToken p S) (fun p => wp_M_nextToken p S) := by
  unfold wp_M_nextToken
  repeat' first
    | with_reducible exact Dt2.noL
    | with_reducible exact Dt2.noR
    | with_reducible exact Dt2.v
    | with_reducible exact Dt2.i
    | with_reducible exact Dt2.l
    | with_reducible exact dt_wq_M_nextToken_0 _ _ _
    | with_reducible refine Dt2.ite ?_ ?_
    | with_reducible refine Dt2.and ?_
    | with_reducible refine Dt2.ex (fun _ _ => ?_)
theorem dc_wp_M_nextToken {P R : Type} {ev : P → R → Prop} {B C : P → Int32 → StM → Prop} {S : StM} (h : ∀ (r1 : Int32) (S1 : StM), Dt2 ev (fun p => B p r1 S1) (fun p => C p r1 S1)) : Dt2 ev (fun p => wp_M_nextToken (B p) S) (fun p => wp_M_nextToken (C p) S) := fun p q hp hq => by
  obtain ⟨x, h1, h1q, h2⟩ := dt_wp_M_nextToken (B p) (C q) hp hq
  obtain ⟨y, h3, h3q, h4⟩ := h x.1 x.2 p q h1 h1q
  exact ⟨y, h3, h3q, fun q hq => h2 (B q) (h4 q hq)⟩
theorem dt_wq_M_isNumber_80 {Kk42 Jk42 : (Int32 → StM → Prop) → StM → Int32 → Int32 → Prop} (hk42 : ∀ (z0 : StM) (z1 : Int32) (z2 : Int32), Dt2 evI (fun p => Kk42 p z0 z1 z2) (fun p => Jk42 p z0 z1 z2)) {S : StM} {x3 : Int32} {t0 : Int32} : Dt2 evI (fun p => wq_M_isNumber_80 p (Kk42 p) S x3 t0) (fun p => wq_M_isNumber_80 p (Jk42 p) S x3 t0) := by
  unfold wq_M_isNumber_80
  repeat' first
    | with_reducible exact Dt2.noL
    | with_reducible exact Dt2.noR
    | with_reducible exact Dt2.v
    | with_reducible exact Dt2.i
    | with_reducible exact Dt2.l
    | with_reducible exact hk42 _ _ _
    | with_reducible refine Dt2.ite ?_ ?_
    | with_reducible refine Dt2.and ?_
    | with_reducible refine Dt2.ex (fun _ _ => ?_)
theorem dt_wq_M_isNumber_79 {Kk42 Jk42 : (Int32 → StM → Prop) → StM → Int32 → Int32 → Prop} (hk42 : ∀ (z0 : StM) (z1 : Int32) (z2 : Int32), Dt2 evI (fun p => Kk42 p z0 z1 z2) (fun p => Jk42 p z0 z1 z2)) {S : StM} {x3 : Int32} : Dt2 evI (fun p => wq_M_isNumber_79 p (Kk42 p) S x3) (fun p => wq_M_isNumber_79 p (Jk42 p) S x3) := by
  unfold wq_M_isNumber_79
  repeat' first
    | with_reducible exact Dt2.noL
    | with_reducible exact Dt2.noR
    | with_reducible exact Dt2.v
    | with_reducible exact Dt2.i
    | with_reducible exact Dt2.l
    | with_reducible exact hk42 _ _ _
    | with_reducible refine dt_wq_M_isNumber_80 (fun _ _ _ => ?_)
    | with_reducible refine Dt2.ite ?_ ?_
    | with_reducible refine Dt2.and ?_
    | with_reducible refine Dt2.ex (fun _ _ => ?_)
theorem dt_wq_M_isNumber_42 : ∀ (n m : Nat) (z0 : StM) (z1 : Int32) (z2 : Int32), Dt2 evI (fun p => wq_M_isNumber_42 p n z0 z1 z2) (fun p => wq_M_isNumber_42 p m z0 z1 z2) := by
  intro n
  induction n with
  | zero => intros; exact Dt2.noL
  | succ n ih =>
  intro m
  cases m with
  | zero => intros; exact Dt2.noR
  | succ m =>
  intros
  unfold wq_M_isNumber_42
  repeat' first
    | with_reducible exact Dt2.noL
    | with_reducible exact Dt2.noR
    | with_reducible exact Dt2.v
    | with_reducible exact Dt2.i
    | with_reducible exact Dt2.l
    | with_reducible exact ih _ _ _ _
    | with_reducible refine dc_wp_M_in (fun _ _ => ?_)
    | with_reducible refine dt_wq_M_isNumber_80 (fun _ _ _ => ?_)
    | with_reducible refine dt_wq_M_isNumber_79 (fun _ _ _ => ?_)
    | with_reducible refine Dt2.ite ?_ ?_
    | with_reducible refine Dt2.and ?_
    | with_reducible refine Dt2.ex (fun _ _ => ?_)
theorem dt_wq_M_isNumber_26 {S : StM} {t0 : Int32} : Dt2 evI (fun p => wq_M_isNumber_26 p S t0) (fun p => wq_M_isNumber_26 p S t0) := by
  unfold wq_M_isNumber_26
  repeat' first
    | with_reducible exact Dt2.noL
    | with_reducible exact Dt2.noR
    | with_reducible exact Dt2.v
    | with_reducible exact Dt2.i
    | with_reducible exact Dt2.l
    | with_reducible refine dc_wp_M_in (fun _ _ => ?_)
    | with_reducible exact dt_wq_M_isNumber_42 _ _ _ _ _
    | with_reducible refine Dt2.ite ?_ ?_
    | with_reducible refine Dt2.and ?_
    | with_reducible refine Dt2.ex (fun _ _ => ?_)
theorem dt_wq_M_isNumber_25 {S : StM} : Dt2 evI (fun p => wq_M_isNumber_25 p S) (fun p => wq_M_isNumber_25 p S) := by
  unfold wq_M_isNumber_25
  repeat' first
    | with_reducible exact Dt2.noL
    | with_reducible exact Dt2.noR
    | with_reducible exact Dt2.v
    | with_reducible exact Dt2.i
    | with_reducible exact Dt2.l
    | with_reducible refine dt_wq_M_isNumber_26
    | with_reducible refine Dt2.ite ?_ ?_
    | with_reducible refine Dt2.and ?_
    | with_reducible refine Dt2.ex (fun _ _ => ?_)
theorem dt_wp_M_isNumber {S : StM} : Dt2 evI (fun p => wp_M_isNumber p S) (fun p => wp_M_isNumber p S) := by
  unfold wp_M_isNumber
  repeat' first
    | with_reducible exact Dt2.noL
    | with_reducible exact Dt2.noR
    | with_reducible exact Dt2.v
    | with_reducible exact Dt2.i
    | with_reducible exact Dt2.l
    | with_reducible refine dt_wq_M_isNumber_26
    | with_reducible refine dt_wq_M_isNumber_25
    | with_reducible refine Dt2.ite ?_ ?_
    | with_reducible refine Dt2.and ?_
    | with_reducible refine Dt2.ex (fun _ _ => ?_)
theorem dc_wp_M_isNumber {P R : Type} {ev : P → R → Prop} {B C : P → Int32 → StM → Prop} {S : StM} (h : ∀ (r1 : Int32) (S1 : StM), Dt2 ev (fun p => B p r1 S1) (fun p => C p r1 S1)) : Dt2 ev (fun p => wp_M_isNumber (B p) S) (fun p => wp_M_isNumber (C p) S) := fun p q hp hq => by
  obtain ⟨x, h1, h1q, h2⟩ := dt_wp_M_isNumber (B p) (C q) hp hq
  obtain ⟨y, h3, h3q, h4⟩ := h x.1 x.2 p q h1 h1q
  exact ⟨y, h3, h3q, fun q hq => h2 (B q) (h4 q hq)⟩
theorem dt_wq_M_number_78 {S : StM} {t0 : Int32} : Dt2 evI (fun p => wq_M_number_78 p S t0) (fun p => wq_M_number_78 p S t0) := by
  unfold wq_M_number_78
  repeat' first
    | with_reducible exact Dt2.noL
    | with_reducible exact Dt2.noR
    | with_reducible exact Dt2.v
    | with_reducible exact Dt2.i
    | with_reducible exact Dt2.l
    | with_reducible refine Dt2.ite ?_ ?_
    | with_reducible refine Dt2.and ?_
    | with_reducible refine Dt2.ex (fun _ _ => ?_)
theorem dt_wq_M_number_51 {Kk4 Jk4 : (Int32 → StM → Prop) → StM → Int32 → Int32 → Prop} (hk4 : ∀ (z0 : StM) (z1 : Int32) (z2 : Int32), Dt2 evI (fun p => Kk4 p z0 z1 z2) (fun p => Jk4 p z0 z1 z2)) {S : StM} {x2 : Int32} {t0 : Int32} : Dt2 evI (fun p => wq_M_number_51 p (Kk4 p) S x2 t0) (fun p => wq_M_number_51 p (Jk4 p) S x2 t0) := by
  unfold wq_M_number_51
  repeat' first
    | with_reducible exact Dt2.noL
    | with_reducible exact Dt2.noR
    | with_reducible exact Dt2.v
    | with_reducible exact Dt2.i
    | with_reducible exact Dt2.l
    | with_reducible exact hk4 _ _ _
    | with_reducible refine Dt2.ite ?_ ?_
    | with_reducible refine Dt2.and ?_
    | with_reducible refine Dt2.ex (fun _ _ => ?_)
theorem dt_wq_M_number_4 : ∀ (n m : Nat) (z0 : StM) (z1 : Int32) (z2 : Int32), Dt2 evI (fun p => wq_M_number_4 p n z0 z1 z2) (fun p => wq_M_number_4 p m z0 z1 z2) := by
  intro n
  induction n with
  | zero => intros; exact Dt2.noL
  | succ n ih =>
  intro m
  cases m with
  | zero => intros; exact Dt2.noR
  | succ m =>
  intros
  unfold wq_M_number_4
  repeat' first
    | with_reducible exact Dt2.noL
    | with_reducible exact Dt2.noR
    | with_reducible exact Dt2.v
    | with_reducible exact Dt2.i
    | with_reducible exact Dt2.l
    | with_reducible exact ih _ _ _ _
    | with_reducible refine dt_wq_M_number_78
    | with_reducible refine dt_wq_M_number_51 (fun _ _ _ => ?_)
    | with_reducible refine Dt2.ite ?_ ?_
    | with_reducible refine Dt2.and ?_
    | with_reducible refine Dt2.ex (fun _ _ => ?_)
theorem dt_wp_M_number {S : StM} : Dt2 evI (fun p => wp_M_number p S) (fun p => wp_M_number p S) := by
  unfold wp_M_number
  repeat' first
    | with_reducible exact Dt2.noL
    | with_reducible exact Dt2.noR
    | with_reducible exact Dt2.v
    | with_reducible exact Dt2.i
    | with_reducible exact Dt2.l
    | with_reducible exact dt_wq_M_number_4 _ _ _ _ _
    | with_reducible refine Dt2.ite ?_ ?_
    | with_reducible refine Dt2.and ?_
    | with_reducible refine Dt2.ex (fun _ _ => ?_)
theorem dc_wp_M_number {P R : Type} {ev : P → R → Prop} {B C : P → Int32 → StM → Prop} {S : StM} (h : ∀ (r1 : Int32) (S1 : StM), Dt2 ev (fun p => B p r1 S1) (fun p => C p r1 S1)) : Dt2 ev (fun p => wp_M_number (B p) S) (fun p => wp_M_number (C p) S) := fun p q hp hq => by
  obtain ⟨x, h1, h1q, h2⟩ := dt_wp_M_number (B p) (C q) hp hq
  obtain ⟨y, h3, h3q, h4⟩ := h x.1 x.2 p q h1 h1q
  exact ⟨y, h3, h3q, fun q hq => h2 (B q) (h4 q hq)⟩
theorem dt_wq_M_isName_25 {S : StM} {t0 : Int32} : Dt2 evI (fun p => wq_M_isName_25 p S t0) (fun p => wq_M_isName_25 p S t0) := by
  unfold wq_M_isName_25
  repeat' first
    | with_reducible exact Dt2.noL
    | with_reducible exact Dt2.noR
    | with_reducible exact Dt2.v
    | with_reducible exact Dt2.i
    | with_reducible exact Dt2.l
    | with_reducible refine Dt2.ite ?_ ?_
    | with_reducible refine Dt2.and ?_
    | with_reducible refine Dt2.ex (fun _ _ => ?_)
theorem dt_wq_M_isName_24 {S : StM} : Dt2 evI (fun p => wq_M_isName_24 p S) (fun p => wq_M_isName_24 p S) := by
  unfold wq_M_isName_24
  repeat' first
    | with_reducible exact Dt2.noL
    | with_reducible exact Dt2.noR
    | with_reducible exact Dt2.v
    | with_reducible exact Dt2.i
    | with_reducible exact Dt2.l
    | with_reducible refine dt_wq_M_isName_25
    | with_reducible refine Dt2.ite ?_ ?_
    | with_reducible refine Dt2.and ?_
    | with_reducible refine Dt2.ex (fun _ _ => ?_)
theorem dt_wp_M_isName {S : StM} : Dt2 evI (fun p => wp_M_isName p S) (fun p => wp_M_isName p S) := by
  unfold wp_M_isName
  repeat' first
    | with_reducible exact Dt2.noL
    | with_reducible exact Dt2.noR
    | with_reducible exact Dt2.v
    | with_reducible exact Dt2.i
    | with_reducible exact Dt2.l
    | with_reducible refine dc_wp_M_in (fun _ _ => ?_)
    | with_reducible refine dc_wp_M_isNumber (fun _ _ => ?_)
    | with_reducible refine dt_wq_M_isName_25
    | with_reducible refine dt_wq_M_isName_24
    | with_reducible refine Dt2.ite ?_ ?_
    | with_reducible refine Dt2.and ?_
    | with_reducible refine Dt2.ex (fun _ _ => ?_)
theorem dc_wp_M_isName {P R : Type} {ev : P → R → Prop} {B C : P → Int32 → StM → Prop} {S : StM} (h : ∀ (r1 : Int32) (S1 : StM), Dt2 ev (fun p => B p r1 S1) (fun p => C p r1 S1)) : Dt2 ev (fun p => wp_M_isName (B p) S) (fun p => wp_M_isName (C p) S) := fun p q hp hq => by
  obtain ⟨x, h1, h1q, h2⟩ := dt_wp_M_isName (B p) (C q) hp hq
  obtain ⟨y, h3, h3q, h4⟩ := h x.1 x.2 p q h1 h1q
  exact ⟨y, h3, h3q, fun q hq => h2 (B q) (h4 q hq)⟩
theorem dt_wq_M_key_4 : ∀ (n m : Nat) (z0 : StM) (z1 : Int64) (z2 : Int32), Dt2 evL (fun p => wq_M_key_4 p n z0 z1 z2) (fun p => wq_M_key_4 p m z0 z1 z2) := by
  intro n
  induction n with
  | zero => intros; exact Dt2.noL
  | succ n ih =>
  intro m
  cases m with
  | zero => intros; exact Dt2.noR
  | succ m =>
  intros
  unfold wq_M_key_4
  repeat' first
    | with_reducible exact Dt2.noL
    | with_reducible exact Dt2.noR
    | with_reducible exact Dt2.v
    | with_reducible exact Dt2.i
    | with_reducible exact Dt2.l
    | with_reducible exact ih _ _ _ _
    | with_reducible refine Dt2.ite ?_ ?_
    | with_reducible refine Dt2.and ?_
    | with_reducible refine Dt2.ex (fun _ _ => ?_)
theorem dt_wp_M_key {S : StM} : Dt2 evL (fun p => wp_M_key p S) (fun p => wp_M_key p S) := by
  unfold wp_M_key
  repeat' first
    | with_reducible exact Dt2.noL
    | with_reducible exact Dt2.noR
    | with_reducible exact Dt2.v
    | with_reducible exact Dt2.i
    | with_reducible exact Dt2.l
    | with_reducible exact dt_wq_M_key_4 _ _ _ _ _
    | with_reducible refine Dt2.ite ?_ ?_
    | with_reducible refine Dt2.and ?_
    | with_reducible refine Dt2.ex (fun _ _ => ?_)
theorem dc_wp_M_key {P R : Type} {ev : P → R → Prop} {B C : P → Int64 → StM → Prop} {S : StM} (h : ∀ (r1 : Int64) (S1 : StM), Dt2 ev (fun p => B p r1 S1) (fun p => C p r1 S1)) : Dt2 ev (fun p => wp_M_key (B p) S) (fun p => wp_M_key (C p) S) := fun p q hp hq => by
  obtain ⟨x, h1, h1q, h2⟩ := dt_wp_M_key (B p) (C q) hp hq
  obtain ⟨y, h3, h3q, h4⟩ := h x.1 x.2 p q h1 h1q
  exact ⟨y, h3, h3q, fun q hq => h2 (B q) (h4 q hq)⟩
theorem dt_wq_M_find_64 {Kk19 Jk19 : (Int32 → StM → Prop) → StM → Int64 → Int32 → Int32 → Prop} (hk19 : ∀ (z0 : StM) (z1 : Int64) (z2 : Int32) (z3 : Int32), Dt2 evI (fun p => Kk19 p z0 z1 z2 z3) (fun p => Jk19 p z0 z1 z2 z3)) {S : StM} {x1 : Int64} {x4 : Int32} {t0 : Int32} : Dt2 evI (fun p => wq_M_find_64 p (Kk19 p) S x1 x4 t0) (fun p => wq_M_find_64 p (Jk19 p) S x1 x4 t0) := by
  unfold wq_M_find_64
  repeat' first
    | with_reducible exact Dt2.noL
    | with_reducible exact Dt2.noR
    | with_reducible exact Dt2.v
    | with_reducible exact Dt2.i
    | with_reducible exact Dt2.l
    | with_reducible exact hk19 _ _ _ _
    | with_reducible refine Dt2.ite ?_ ?_
    | with_reducible refine Dt2.and ?_
    | with_reducible refine Dt2.ex (fun _ _ => ?_)
theorem dt_wq_M_find_19 : ∀ (n m : Nat) (z0 : StM) (z1 : Int64) (z2 : Int32) (z3 : Int32), Dt2 evI (fun p => wq_M_find_19 p n z0 z1 z2 z3) (fun p => wq_M_find_19 p m z0 z1 z2 z3) := by
  intro n
  induction n with
  | zero => intros; exact Dt2.noL
  | succ n ih =>
  intro m
  cases m with
  | zero => intros; exact Dt2.noR
  | succ m =>
  intros
  unfold wq_M_find_19
  repeat' first
    | with_reducible exact Dt2.noL
    | with_reducible exact Dt2.noR
    | with_reducible exact Dt2.v
    | with_reducible exact Dt2.i
    | with_reducible exact Dt2.l
    | with_reducible exact ih _ _ _ _ _
    | with_reducible refine dt_wq_M_find_64 (fun _ _ _ _ => ?_)
    | with_reducible refine Dt2.ite ?_ ?_
    | with_reducible refine Dt2.and ?_
    | with_reducible refine Dt2.ex (fun _ _ => ?_)
theorem dt_wp_M_find {S : StM} : Dt2 evI (fun p => wp_M_find p S) (fun p => wp_M_find p S) := by
  unfold wp_M_find
  repeat' first
    | with_reducible exact Dt2.noL
    | with_reducible exact Dt2.noR
    | with_reducible exact Dt2.v
    | with_reducible exact Dt2.i
    | with_reducible exact Dt2.l
    | with_reducible refine dc_wp_M_isName (fun _ _ => ?_)
    | with_reducible refine dc_wp_M_key (fun _ _ => ?_)
    | with_reducible exact dt_wq_M_find_19 _ _ _ _ _ _
    | with_reducible refine Dt2.ite ?_ ?_
    | with_reducible refine Dt2.and ?_
    | with_reducible refine Dt2.ex (fun _ _ => ?_)
theorem dc_wp_M_find {P R : Type} {ev : P → R → Prop} {B C : P → Int32 → StM → Prop} {S : StM} (h : ∀ (r1 : Int32) (S1 : StM), Dt2 ev (fun p => B p r1 S1) (fun p => C p r1 S1)) : Dt2 ev (fun p => wp_M_find (B p) S) (fun p => wp_M_find (C p) S) := fun p q hp hq => by
  obtain ⟨x, h1, h1q, h2⟩ := dt_wp_M_find (B p) (C q) hp hq
  obtain ⟨y, h3, h3q, h4⟩ := h x.1 x.2 p q h1 h1q
  exact ⟨y, h3, h3q, fun q hq => h2 (B q) (h4 q hq)⟩
theorem dt_wq_M_arithmetic_159 {S : StM} {x4 : Int32} : Dt2 evV (fun p => wq_M_arithmetic_159 p S x4) (fun p => wq_M_arithmetic_159 p S x4) := by
  unfold wq_M_arithmetic_159
  repeat' first
    | with_reducible exact Dt2.noL
    | with_reducible exact Dt2.noR
    | with_reducible exact Dt2.v
    | with_reducible exact Dt2.i
    | with_reducible exact Dt2.l
    | with_reducible refine dc_wp_M_push (fun _ => ?_)
    | with_reducible refine Dt2.ite ?_ ?_
    | with_reducible refine Dt2.and ?_
    | with_reducible refine Dt2.ex (fun _ _ => ?_)
theorem dt_wq_M_arithmetic_156 {S : StM} : Dt2 evV (fun p => wq_M_arithmetic_156 p S) (fun p => wq_M_arithmetic_156 p S) := by
  unfold wq_M_arithmetic_156
  repeat' first
    | with_reducible exact Dt2.noL
    | with_reducible exact Dt2.noR
    | with_reducible exact Dt2.v
    | with_reducible exact Dt2.i
    | with_reducible exact Dt2.l
    | with_reducible refine dt_wq_M_arithmetic_159
    | with_reducible refine Dt2.ite ?_ ?_
    | with_reducible refine Dt2.and ?_
    | with_reducible refine Dt2.ex (fun _ _ => ?_)
theorem dt_wq_M_arithmetic_145 {S : StM} {x1 : Int32} {x2 : Int32} {x3 : Int32} {x4 : Int32} : Dt2 evV (fun p => wq_M_arithmetic_145 p S x1 x2 x3 x4) (fun p => wq_M_arithmetic_145 p S x1 x2 x3 x4) := by
  unfold wq_M_arithmetic_145
  repeat' first
    | with_reducible exact Dt2.noL
    | with_reducible exact Dt2.noR
    | with_reducible exact Dt2.v
    | with_reducible exact Dt2.i
    | with_reducible exact Dt2.l
    | with_reducible refine dt_wq_M_arithmetic_159
    | with_reducible refine dt_wq_M_arithmetic_156
    | with_reducible refine Dt2.ite ?_ ?_
    | with_reducible refine Dt2.and ?_
    | with_reducible refine Dt2.ex (fun _ _ => ?_)
theorem dt_wq_M_arithmetic_134 {S : StM} {x1 : Int32} {x2 : Int32} {x3 : Int32} {x4 : Int32} : Dt2 evV (fun p => wq_M_arithmetic_134 p S x1 x2 x3 x4) (fun p => wq_M_arithmetic_134 p S x1 x2 x3 x4) := by
  unfold wq_M_arithmetic_134
  repeat' first
    | with_reducible exact Dt2.noL
    | with_reducible exact Dt2.noR
    | with_reducible exact Dt2.v
    | with_reducible exact Dt2.i
    | with_reducible exact Dt2.l
    | with_reducible refine dt_wq_M_arithmetic_156
    | with_reducible refine dt_wq_M_arithmetic_145
    | with_reducible refine Dt2.ite ?_ ?_
    | with_reducible refine Dt2.and ?_
    | with_reducible refine Dt2.ex (fun _ _ => ?_)
theorem dt_wq_M_arithmetic_123 {S : StM} {x1 : Int32} {x2 : Int32} {x3 : Int32} {x4 : Int32} : Dt2 evV (fun p => wq_M_arithmetic_123 p S x1 x2 x3 x4) (fun p => wq_M_arithmetic_123 p S x1 x2 x3 x4) := by
  unfold wq_M_arithmetic_123
  repeat' first
    | with_reducible exact Dt2.noL
    | with_reducible exact Dt2.noR
    | with_reducible exact Dt2.v
    | with_reducible exact Dt2.i
    | with_reducible exact Dt2.l
    | with_reducible refine dt_wq_M_arithmetic_134
    | with_reducible refine Dt2.ite ?_ ?_
    | with_reducible refine Dt2.and ?_
    | with_reducible refine Dt2.ex (fun _ _ => ?_)
theorem dt_wq_M_arithmetic_112 {S : StM} {x1 : Int32} {x2 : Int32} {x3 : Int32} {x4 : Int32} : Dt2 evV (fun p => wq_M_arithmetic_112 p S x1 x2 x3 x4) (fun p => wq_M_arithmetic_112 p S x1 x2 x3 x4) := by
  unfold wq_M_arithmetic_112
  repeat' first
    | with_reducible exact Dt2.noL
    | with_reducible exact Dt2.noR
    | with_reducible exact Dt2.v
    | with_reducible exact Dt2.i
    | with_reducible exact Dt2.l
    | with_reducible refine dt_wq_M_arithmetic_123
    | with_reducible refine Dt2.ite ?_ ?_
    | with_reducible refine Dt2.and ?_
    | with_reducible refine Dt2.ex (fun _ _ => ?_)
theorem dt_wq_M_arithmetic_102 {S : StM} {x1 : Int32} {x2 : Int32} {x3 : Int32} {x4 : Int32} : Dt2 evV (fun p => wq_M_arithmetic_102 p S x1 x2 x3 x4) (fun p => wq_M_arithmetic_102 p S x1 x2 x3 x4) := by
  unfold wq_M_arithmetic_102
  repeat' first
    | with_reducible exact Dt2.noL
    | with_reducible exact Dt2.noR
    | with_reducible exact Dt2.v
    | with_reducible exact Dt2.i
    | with_reducible exact Dt2.l
    | with_reducible refine dt_wq_M_arithmetic_112
    | with_reducible refine Dt2.ite ?_ ?_
    | with_reducible refine Dt2.and ?_
    | with_reducible refine Dt2.ex (fun _ _ => ?_)
theorem dt_wq_M_arithmetic_92 {S : StM} {x1 : Int32} {x2 : Int32} {x3 : Int32} {x4 : Int32} : Dt2 evV (fun p => wq_M_arithmetic_92 p S x1 x2 x3 x4) (fun p => wq_M_arithmetic_92 p S x1 x2 x3 x4) := by
  unfold wq_M_arithmetic_92
  repeat' first
    | with_reducible exact Dt2.noL
    | with_reducible exact Dt2.noR
    | with_reducible exact Dt2.v
    | with_reducible exact Dt2.i
    | with_reducible exact Dt2.l
    | with_reducible refine dt_wq_M_arithmetic_102
    | with_reducible refine Dt2.ite ?_ ?_
    | with_reducible refine Dt2.and ?_
    | with_reducible refine Dt2.ex (fun _ _ => ?_)
theorem dt_wq_M_arithmetic_82 {S : StM} {x1 : Int32} {x2 : Int32} {x3 : Int32} {x4 : Int32} : Dt2 evV (fun p => wq_M_arithmetic_82 p S x1 x2 x3 x4) (fun p => wq_M_arithmetic_82 p S x1 x2 x3 x4) := by
  unfold wq_M_arithmetic_82
  repeat' first
    | with_reducible exact Dt2.noL
    | with_reducible exact Dt2.noR
    | with_reducible exact Dt2.v
    | with_reducible exact Dt2.i
    | with_reducible exact Dt2.l
    | with_reducible refine dt_wq_M_arithmetic_92
    | with_reducible refine Dt2.ite ?_ ?_
    | with_reducible refine Dt2.and ?_
    | with_reducible refine Dt2.ex (fun _ _ => ?_)
theorem dt_wq_M_arithmetic_72 {S : StM} {x1 : Int32} {x2 : Int32} {x3 : Int32} {x4 : Int32} : Dt2 evV (fun p => wq_M_arithmetic_72 p S x1 x2 x3 x4) (fun p => wq_M_arithmetic_72 p S x1 x2 x3 x4) := by
  unfold wq_M_arithmetic_72
  repeat' first
    | with_reducible exact Dt2.noL
    | with_reducible exact Dt2.noR
    | with_reducible exact Dt2.v
    | with_reducible exact Dt2.i
    | with_reducible exact Dt2.l
    | with_reducible refine dt_wq_M_arithmetic_82
    | with_reducible refine Dt2.ite ?_ ?_
    | with_reducible refine Dt2.and ?_
    | with_reducible refine Dt2.ex (fun _ _ => ?_)
theorem dt_wq_M_arithmetic_62 {S : StM} {x1 : Int32} {x2 : Int32} {x3 : Int32} {x4 : Int32} : Dt2 evV (fun p => wq_M_arithmetic_62 p S x1 x2 x3 x4) (fun p => wq_M_arithmetic_62 p S x1 x2 x3 x4) := by
  unfold wq_M_arithmetic_62
  repeat' first
    | with_reducible exact Dt2.noL
    | with_reducible exact Dt2.noR
    | with_reducible exact Dt2.v
    | with_reducible exact Dt2.i
    | with_reducible exact Dt2.l
    | with_reducible refine dt_wq_M_arithmetic_72
    | with_reducible refine Dt2.ite ?_ ?_
    | with_reducible refine Dt2.and ?_
    | with_reducible refine Dt2.ex (fun _ _ => ?_)
theorem dt_wq_M_arithmetic_40 {S : StM} {x1 : Int32} {x2 : Int32} {x3 : Int32} : Dt2 evV (fun p => wq_M_arithmetic_40 p S x1 x2 x3) (fun p => wq_M_arithmetic_40 p S x1 x2 x3) := by
  unfold wq_M_arithmetic_40
  repeat' first
    | with_reducible exact Dt2.noL
    | with_reducible exact Dt2.noR
    | with_reducible exact Dt2.v
    | with_reducible exact Dt2.i
    | with_reducible exact Dt2.l
    | with_reducible refine dt_wq_M_arithmetic_62
    | with_reducible refine Dt2.ite ?_ ?_
    | with_reducible refine Dt2.and ?_
    | with_reducible refine Dt2.ex (fun _ _ => ?_)
theorem dt_wp_M_arithmetic {S : StM} {a0 : Int32} : Dt2 evV (fun p => wp_M_arithmetic p S a0) (fun p => wp_M_arithmetic p S a0) := by
  unfold wp_M_arithmetic
  repeat' first
    | with_reducible exact Dt2.noL
    | with_reducible exact Dt2.noR
    | with_reducible exact Dt2.v
    | with_reducible exact Dt2.i
    | with_reducible exact Dt2.l
    | with_reducible refine dc_wp_M_in (fun _ _ => ?_)
    | with_reducible refine dc_wp_M_fail (fun _ => ?_)
    | with_reducible refine dc_wp_M_needs (fun _ _ => ?_)
    | with_reducible refine dc_wp_M_top (fun _ _ => ?_)
    | with_reducible refine dt_wq_M_arithmetic_40
    | with_reducible refine Dt2.ite ?_ ?_
    | with_reducible refine Dt2.and ?_
    | with_reducible refine Dt2.ex (fun _ _ => ?_)
theorem dc_wp_M_arithmetic {P R : Type} {ev : P → R → Prop} {B C : P → StM → Prop} {S : StM} {a0 : Int32} (h : ∀ S1 : StM, Dt2 ev (fun p => B p S1) (fun p => C p S1)) : Dt2 ev (fun p => wp_M_arithmetic (B p) S a0) (fun p => wp_M_arithmetic (C p) S a0) := fun p q hp hq => by
  obtain ⟨x, h1, h1q, h2⟩ := dt_wp_M_arithmetic (B p) (C q) hp hq
  obtain ⟨y, h3, h3q, h4⟩ := h x p q h1 h1q
  exact ⟨y, h3, h3q, fun q hq => h2 (B q) (h4 q hq)⟩
theorem dt_wp_M_rotate {S : StM} : Dt2 evV (fun p => wp_M_rotate p S) (fun p => wp_M_rotate p S) := by
  unfold wp_M_rotate
  repeat' first
    | with_reducible exact Dt2.noL
    | with_reducible exact Dt2.noR
    | with_reducible exact Dt2.v
    | with_reducible exact Dt2.i
    | with_reducible exact Dt2.l
    | with_reducible refine dc_wp_M_push (fun _ => ?_)
    | with_reducible refine dc_wp_M_pop (fun _ _ => ?_)
    | with_reducible refine Dt2.ite ?_ ?_
    | with_reducible refine Dt2.and ?_
    | with_reducible refine Dt2.ex (fun _ _ => ?_)
theorem dc_wp_M_rotate {P R : Type} {ev : P → R → Prop} {B C : P → StM → Prop} {S : StM} (h : ∀ S1 : StM, Dt2 ev (fun p => B p S1) (fun p => C p S1)) : Dt2 ev (fun p => wp_M_rotate (B p) S) (fun p => wp_M_rotate (C p) S) := fun p q hp hq => by
  obtain ⟨x, h1, h1q, h2⟩ := dt_wp_M_rotate (B p) (C q) hp hq
  obtain ⟨y, h3, h3q, h4⟩ := h x p q h1 h1q
  exact ⟨y, h3, h3q, fun q hq => h2 (B q) (h4 q hq)⟩
theorem dt_wq_M_shuffle_212 {S : StM} : Dt2 evV (fun p => wq_M_shuffle_212 p S) (fun p => wq_M_shuffle_212 p S) := by
  unfold wq_M_shuffle_212
  repeat' first
    | with_reducible exact Dt2.noL
    | with_reducible exact Dt2.noR
    | with_reducible exact Dt2.v
    | with_reducible exact Dt2.i
    | with_reducible exact Dt2.l
    | with_reducible refine Dt2.ite ?_ ?_
    | with_reducible refine Dt2.and ?_
    | with_reducible refine Dt2.ex (fun _ _ => ?_)
theorem dt_wq_M_shuffle_202 {S : StM} : Dt2 evV (fun p => wq_M_shuffle_202 p S) (fun p => wq_M_shuffle_202 p S) := by
  unfold wq_M_shuffle_202
  repeat' first
    | with_reducible exact Dt2.noL
    | with_reducible exact Dt2.noR
    | with_reducible exact Dt2.v
    | with_reducible exact Dt2.i
    | with_reducible exact Dt2.l
    | with_reducible refine dt_wq_M_shuffle_212
    | with_reducible refine Dt2.ite ?_ ?_
    | with_reducible refine Dt2.and ?_
    | with_reducible refine Dt2.ex (fun _ _ => ?_)
theorem dt_wq_M_shuffle_172 {S : StM} {x1 : Int32} : Dt2 evV (fun p => wq_M_shuffle_172 p S x1) (fun p => wq_M_shuffle_172 p S x1) := by
  unfold wq_M_shuffle_172
  repeat' first
    | with_reducible exact Dt2.noL
    | with_reducible exact Dt2.noR
    | with_reducible exact Dt2.v
    | with_reducible exact Dt2.i
    | with_reducible exact Dt2.l
    | with_reducible refine dc_wp_M_pop (fun _ _ => ?_)
    | with_reducible refine dt_wq_M_shuffle_212
    | with_reducible refine dt_wq_M_shuffle_202
    | with_reducible refine Dt2.ite ?_ ?_
    | with_reducible refine Dt2.and ?_
    | with_reducible refine Dt2.ex (fun _ _ => ?_)
theorem dt_wq_M_shuffle_146 {S : StM} {x1 : Int32} : Dt2 evV (fun p => wq_M_shuffle_146 p S x1) (fun p => wq_M_shuffle_146 p S x1) := by
  unfold wq_M_shuffle_146
  repeat' first
    | with_reducible exact Dt2.noL
    | with_reducible exact Dt2.noR
    | with_reducible exact Dt2.v
    | with_reducible exact Dt2.i
    | with_reducible exact Dt2.l
    | with_reducible refine dc_wp_M_push (fun _ => ?_)
    | with_reducible refine dc_wp_M_pop (fun _ _ => ?_)
    | with_reducible refine dt_wq_M_shuffle_172
    | with_reducible refine Dt2.ite ?_ ?_
    | with_reducible refine Dt2.and ?_
    | with_reducible refine Dt2.ex (fun _ _ => ?_)
theorem dt_wq_M_shuffle_132 {S : StM} {x1 : Int32} : Dt2 evV (fun p => wq_M_shuffle_132 p S x1) (fun p => wq_M_shuffle_132 p S x1) := by
  unfold wq_M_shuffle_132
  repeat' first
    | with_reducible exact Dt2.noL
    | with_reducible exact Dt2.noR
    | with_reducible exact Dt2.v
    | with_reducible exact Dt2.i
    | with_reducible exact Dt2.l
    | with_reducible refine dc_wp_M_push (fun _ => ?_)
    | with_reducible refine dt_wq_M_shuffle_146
    | with_reducible refine Dt2.ite ?_ ?_
    | with_reducible refine Dt2.and ?_
    | with_reducible refine Dt2.ex (fun _ _ => ?_)
theorem dt_wq_M_shuffle_122 {S : StM} {x1 : Int32} : Dt2 evV (fun p => wq_M_shuffle_122 p S x1) (fun p => wq_M_shuffle_122 p S x1) := by
  unfold wq_M_shuffle_122
  repeat' first
    | with_reducible exact Dt2.noL
    | with_reducible exact Dt2.noR
    | with_reducible exact Dt2.v
    | with_reducible exact Dt2.i
    | with_reducible exact Dt2.l
    | with_reducible refine dc_wp_M_rotate (fun _ => ?_)
    | with_reducible refine dt_wq_M_shuffle_132
    | with_reducible refine Dt2.ite ?_ ?_
    | with_reducible refine Dt2.and ?_
    | with_reducible refine Dt2.ex (fun _ _ => ?_)
theorem dt_wq_M_shuffle_107 {S : StM} {x1 : Int32} : Dt2 evV (fun p => wq_M_shuffle_107 p S x1) (fun p => wq_M_shuffle_107 p S x1) := by
  unfold wq_M_shuffle_107
  repeat' first
    | with_reducible exact Dt2.noL
    | with_reducible exact Dt2.noR
    | with_reducible exact Dt2.v
    | with_reducible exact Dt2.i
    | with_reducible exact Dt2.l
    | with_reducible refine dc_wp_M_push (fun _ => ?_)
    | with_reducible refine dc_wp_M_top (fun _ _ => ?_)
    | with_reducible refine dt_wq_M_shuffle_122
    | with_reducible refine Dt2.ite ?_ ?_
    | with_reducible refine Dt2.and ?_
    | with_reducible refine Dt2.ex (fun _ _ => ?_)
theorem dt_wq_M_shuffle_96 {S : StM} {x1 : Int32} : Dt2 evV (fun p => wq_M_shuffle_96 p S x1) (fun p => wq_M_shuffle_96 p S x1) := by
  unfold wq_M_shuffle_96
  repeat' first
    | with_reducible exact Dt2.noL
    | with_reducible exact Dt2.noR
    | with_reducible exact Dt2.v
    | with_reducible exact Dt2.i
    | with_reducible exact Dt2.l
    | with_reducible refine dc_wp_M_pop (fun _ _ => ?_)
    | with_reducible refine dt_wq_M_shuffle_107
    | with_reducible refine Dt2.ite ?_ ?_
    | with_reducible refine Dt2.and ?_
    | with_reducible refine Dt2.ex (fun _ _ => ?_)
theorem dt_wq_M_shuffle_81 {S : StM} {x1 : Int32} : Dt2 evV (fun p => wq_M_shuffle_81 p S x1) (fun p => wq_M_shuffle_81 p S x1) := by
  unfold wq_M_shuffle_81
  repeat' first
    | with_reducible exact Dt2.noL
    | with_reducible exact Dt2.noR
    | with_reducible exact Dt2.v
    | with_reducible exact Dt2.i
    | with_reducible exact Dt2.l
    | with_reducible refine dc_wp_M_push (fun _ => ?_)
    | with_reducible refine dc_wp_M_top (fun _ _ => ?_)
    | with_reducible refine dt_wq_M_shuffle_96
    | with_reducible refine Dt2.ite ?_ ?_
    | with_reducible refine Dt2.and ?_
    | with_reducible refine Dt2.ex (fun _ _ => ?_)
theorem dt_wq_M_shuffle_66 {S : StM} {x1 : Int32} : Dt2 evV (fun p => wq_M_shuffle_66 p S x1) (fun p => wq_M_shuffle_66 p S x1) := by
  unfold wq_M_shuffle_66
  repeat' first
    | with_reducible exact Dt2.noL
    | with_reducible exact Dt2.noR
    | with_reducible exact Dt2.v
    | with_reducible exact Dt2.i
    | with_reducible exact Dt2.l
    | with_reducible refine dc_wp_M_push (fun _ => ?_)
    | with_reducible refine dc_wp_M_pop (fun _ _ => ?_)
    | with_reducible refine dt_wq_M_shuffle_81
    | with_reducible refine Dt2.ite ?_ ?_
    | with_reducible refine Dt2.and ?_
    | with_reducible refine Dt2.ex (fun _ _ => ?_)
theorem dt_wq_M_shuffle_63 {S : StM} {x1 : Int32} {t0 : Int32} : Dt2 evV (fun p => wq_M_shuffle_63 p S x1 t0) (fun p => wq_M_shuffle_63 p S x1 t0) := by
  unfold wq_M_shuffle_63
  repeat' first
    | with_reducible exact Dt2.noL
    | with_reducible exact Dt2.noR
    | with_reducible exact Dt2.v
    | with_reducible exact Dt2.i
    | with_reducible exact Dt2.l
    | with_reducible refine dc_wp_M_push (fun _ => ?_)
    | with_reducible refine dt_wq_M_shuffle_66
    | with_reducible refine Dt2.ite ?_ ?_
    | with_reducible refine Dt2.and ?_
    | with_reducible refine Dt2.ex (fun _ _ => ?_)
theorem dt_wq_M_shuffle_37 {S : StM} {x1 : Int32} {t0 : Int32} : Dt2 evV (fun p => wq_M_shuffle_37 p S x1 t0) (fun p => wq_M_shuffle_37 p S x1 t0) := by
  unfold wq_M_shuffle_37
  repeat' first
    | with_reducible exact Dt2.noL
    | with_reducible exact Dt2.noR
    | with_reducible exact Dt2.v
    | with_reducible exact Dt2.i
    | with_reducible exact Dt2.l
    | with_reducible refine dc_wp_M_needs (fun _ _ => ?_)
    | with_reducible refine dc_wp_M_pop (fun _ _ => ?_)
    | with_reducible refine dt_wq_M_shuffle_66
    | with_reducible refine dt_wq_M_shuffle_63
    | with_reducible refine Dt2.ite ?_ ?_
    | with_reducible refine Dt2.and ?_
    | with_reducible refine Dt2.ex (fun _ _ => ?_)
theorem dt_wp_M_shuffle {S : StM} {a0 : Int32} : Dt2 evV (fun p => wp_M_shuffle p S a0) (fun p => wp_M_shuffle p S a0) := by
  unfold wp_M_shuffle
  repeat' first
    | with_reducible exact Dt2.noL
    | with_reducible exact Dt2.noR
    | with_reducible exact Dt2.v
    | with_reducible exact Dt2.i
    | with_reducible exact Dt2.l
    | with_reducible refine dc_wp_M_in (fun _ _ => ?_)
    | with_reducible refine dt_wq_M_shuffle_37
    | with_reducible refine Dt2.ite ?_ ?_
    | with_reducible refine Dt2.and ?_
    | with_reducible refine Dt2.ex (fun _ _ => ?_)
theorem dc_wp_M_shuffle {P R : Type} {ev : P → R → Prop} {B C : P → StM → Prop} {S : StM} {a0 : Int32} (h : ∀ S1 : StM, Dt2 ev (fun p => B p S1) (fun p => C p S1)) : Dt2 ev (fun p => wp_M_shuffle (B p) S a0) (fun p => wp_M_shuffle (C p) S a0) := fun p q hp hq => by
  obtain ⟨x, h1, h1q, h2⟩ := dt_wp_M_shuffle (B p) (C q) hp hq
  obtain ⟨y, h3, h3q, h4⟩ := h x p q h1 h1q
  exact ⟨y, h3, h3q, fun q hq => h2 (B q) (h4 q hq)⟩
theorem dt_wq_M_store_247 {S : StM} : Dt2 evV (fun p => wq_M_store_247 p S) (fun p => wq_M_store_247 p S) := by
  unfold wq_M_store_247
  repeat' first
    | with_reducible exact Dt2.noL
    | with_reducible exact Dt2.noR
    | with_reducible exact Dt2.v
    | with_reducible exact Dt2.i
    | with_reducible exact Dt2.l
    | with_reducible refine Dt2.ite ?_ ?_
    | with_reducible refine Dt2.and ?_
    | with_reducible refine Dt2.ex (fun _ _ => ?_)
theorem dt_wq_M_store_133 {S : StM} {t0 : Int32} {t1 : Int32} : Dt2 evV (fun p => wq_M_store_133 p S t0 t1) (fun p => wq_M_store_133 p S t0 t1) := by
  unfold wq_M_store_133
  repeat' first
    | with_reducible exact Dt2.noL
    | with_reducible exact Dt2.noR
    | with_reducible exact Dt2.v
    | with_reducible exact Dt2.i
    | with_reducible exact Dt2.l
    | with_reducible refine dt_wq_M_store_247
    | with_reducible refine Dt2.ite ?_ ?_
    | with_reducible refine Dt2.and ?_
    | with_reducible refine Dt2.ex (fun _ _ => ?_)
theorem dt_wq_M_store_67 {S : StM} {x1 : Int32} : Dt2 evV (fun p => wq_M_store_67 p S x1) (fun p => wq_M_store_67 p S x1) := by
  unfold wq_M_store_67
  repeat' first
    | with_reducible exact Dt2.noL
    | with_reducible exact Dt2.noR
    | with_reducible exact Dt2.v
    | with_reducible exact Dt2.i
    | with_reducible exact Dt2.l
    | with_reducible refine dc_wp_M_in (fun _ _ => ?_)
    | with_reducible refine dc_wp_M_fail (fun _ => ?_)
    | with_reducible refine dc_wp_M_push (fun _ => ?_)
    | with_reducible refine dc_wp_M_pop (fun _ _ => ?_)
    | with_reducible refine dc_wp_M_top (fun _ _ => ?_)
    | with_reducible refine dt_wq_M_store_247
    | with_reducible refine dt_wq_M_store_133
    | with_reducible refine Dt2.ite ?_ ?_
    | with_reducible refine Dt2.and ?_
    | with_reducible refine Dt2.ex (fun _ _ => ?_)
theorem dt_wq_M_store_27 {S : StM} {x1 : Int32} {t0 : Int32} : Dt2 evV (fun p => wq_M_store_27 p S x1 t0) (fun p => wq_M_store_27 p S x1 t0) := by
  unfold wq_M_store_27
  repeat' first
    | with_reducible exact Dt2.noL
    | with_reducible exact Dt2.noR
    | with_reducible exact Dt2.v
    | with_reducible exact Dt2.i
    | with_reducible exact Dt2.l
    | with_reducible refine dc_wp_M_in (fun _ _ => ?_)
    | with_reducible refine dc_wp_M_fail (fun _ => ?_)
    | with_reducible refine dc_wp_M_needs (fun _ _ => ?_)
    | with_reducible refine dc_wp_M_top (fun _ _ => ?_)
    | with_reducible refine dt_wq_M_store_247
    | with_reducible refine dt_wq_M_store_67
    | with_reducible refine Dt2.ite ?_ ?_
    | with_reducible refine Dt2.and ?_
    | with_reducible refine Dt2.ex (fun _ _ => ?_)
theorem dt_wp_M_store {S : StM} {a0 : Int32} : Dt2 evV (fun p => wp_M_store p S a0) (fun p => wp_M_store p S a0) := by
  unfold wp_M_store
  repeat' first
    | with_reducible exact Dt2.noL
    | with_reducible exact Dt2.noR
    | with_reducible exact Dt2.v
    | with_reducible exact Dt2.i
    | with_reducible exact Dt2.l
    | with_reducible refine dc_wp_M_in (fun _ _ => ?_)
    | with_reducible refine dt_wq_M_store_27
    | with_reducible refine Dt2.ite ?_ ?_
    | with_reducible refine Dt2.and ?_
    | with_reducible refine Dt2.ex (fun _ _ => ?_)
theorem dc_wp_M_store {P R : Type} {ev : P → R → Prop} {B C : P → StM → Prop} {S : StM} {a0 : Int32} (h : ∀ S1 : StM, Dt2 ev (fun p => B p S1) (fun p => C p S1)) : Dt2 ev (fun p => wp_M_store (B p) S a0) (fun p => wp_M_store (C p) S a0) := fun p q hp hq => by
  obtain ⟨x, h1, h1q, h2⟩ := dt_wp_M_store (B p) (C q) hp hq
  obtain ⟨y, h3, h3q, h4⟩ := h x p q h1 h1q
  exact ⟨y, h3, h3q, fun q hq => h2 (B q) (h4 q hq)⟩
theorem dt_wq_M_returns_194 {S : StM} : Dt2 evV (fun p => wq_M_returns_194 p S) (fun p => wq_M_returns_194 p S) := by
  unfold wq_M_returns_194
  repeat' first
    | with_reducible exact Dt2.noL
    | with_reducible exact Dt2.noR
    | with_reducible exact Dt2.v
    | with_reducible exact Dt2.i
    | with_reducible exact Dt2.l
    | with_reducible refine Dt2.ite ?_ ?_
    | with_reducible refine Dt2.and ?_
    | with_reducible refine Dt2.ex (fun _ _ => ?_)
theorem dt_wq_M_returns_154 {S : StM} : Dt2 evV (fun p => wq_M_returns_154 p S) (fun p => wq_M_returns_154 p S) := by
  unfold wq_M_returns_154
  repeat' first
    | with_reducible exact Dt2.noL
    | with_reducible exact Dt2.noR
    | with_reducible exact Dt2.v
    | with_reducible exact Dt2.i
    | with_reducible exact Dt2.l
    | with_reducible refine dc_wp_M_fail (fun _ => ?_)
    | with_reducible refine dt_wq_M_returns_194
    | with_reducible refine Dt2.ite ?_ ?_
    | with_reducible refine Dt2.and ?_
    | with_reducible refine Dt2.ex (fun _ _ => ?_)
theorem dt_wq_M_returns_121 {S : StM} {t0 : Int32} : Dt2 evV (fun p => wq_M_returns_121 p S t0) (fun p => wq_M_returns_121 p S t0) := by
  unfold wq_M_returns_121
  repeat' first
    | with_reducible exact Dt2.noL
    | with_reducible exact Dt2.noR
    | with_reducible exact Dt2.v
    | with_reducible exact Dt2.i
    | with_reducible exact Dt2.l
    | with_reducible refine dt_wq_M_returns_194
    | with_reducible refine Dt2.ite ?_ ?_
    | with_reducible refine Dt2.and ?_
    | with_reducible refine Dt2.ex (fun _ _ => ?_)
theorem dt_wq_M_returns_117 {S : StM} : Dt2 evV (fun p => wq_M_returns_117 p S) (fun p => wq_M_returns_117 p S) := by
  unfold wq_M_returns_117
  repeat' first
    | with_reducible exact Dt2.noL
    | with_reducible exact Dt2.noR
    | with_reducible exact Dt2.v
    | with_reducible exact Dt2.i
    | with_reducible exact Dt2.l
    | with_reducible refine dt_wq_M_returns_121
    | with_reducible refine Dt2.ite ?_ ?_
    | with_reducible refine Dt2.and ?_
    | with_reducible refine Dt2.ex (fun _ _ => ?_)
theorem dt_wp_M_returns {S : StM} {a0 : Int32} : Dt2 evV (fun p => wp_M_returns p S a0) (fun p => wp_M_returns p S a0) := by
  unfold wp_M_returns
  repeat' first
    | with_reducible exact Dt2.noL
    | with_reducible exact Dt2.noR
    | with_reducible exact Dt2.v
    | with_reducible exact Dt2.i
    | with_reducible exact Dt2.l
    | with_reducible refine dc_wp_M_fail (fun _ => ?_)
    | with_reducible refine dc_wp_M_needs (fun _ _ => ?_)
    | with_reducible refine dc_wp_M_push (fun _ => ?_)
    | with_reducible refine dc_wp_M_pop (fun _ _ => ?_)
    | with_reducible refine dt_wq_M_returns_194
    | with_reducible refine dt_wq_M_returns_154
    | with_reducible refine dt_wq_M_returns_121
    | with_reducible refine dt_wq_M_returns_117
    | with_reducible refine Dt2.ite ?_ ?_
    | with_reducible refine Dt2.and ?_
    | with_reducible refine Dt2.ex (fun _ _ => ?_)
theorem dc_wp_M_returns {P R : Type} {ev : P → R → Prop} {B C : P → StM → Prop} {S : StM} {a0 : Int32} (h : ∀ S1 : StM, Dt2 ev (fun p => B p S1) (fun p => C p S1)) : Dt2 ev (fun p => wp_M_returns (B p) S a0) (fun p => wp_M_returns (C p) S a0) := fun p q hp hq => by
  obtain ⟨x, h1, h1q, h2⟩ := dt_wp_M_returns (B p) (C q) hp hq
  obtain ⟨y, h3, h3q, h4⟩ := h x p q h1 h1q
  exact ⟨y, h3, h3q, fun q hq => h2 (B q) (h4 q hq)⟩
theorem dt_wp_M_open {S : StM} : Dt2 evV (fun p => wp_M_open p S) (fun p => wp_M_open p S) := by
  unfold wp_M_open
  repeat' first
    | with_reducible exact Dt2.noL
    | with_reducible exact Dt2.noR
    | with_reducible exact Dt2.v
    | with_reducible exact Dt2.i
    | with_reducible exact Dt2.l
    | with_reducible refine dc_wp_M_key (fun _ _ => ?_)
    | with_reducible refine Dt2.ite ?_ ?_
    | with_reducible refine Dt2.and ?_
    | with_reducible refine Dt2.ex (fun _ _ => ?_)
theorem dc_wp_M_open {P R : Type} {ev : P → R → Prop} {B C : P → StM → Prop} {S : StM} (h : ∀ S1 : StM, Dt2 ev (fun p => B p S1) (fun p => C p S1)) : Dt2 ev (fun p => wp_M_open (B p) S) (fun p => wp_M_open (C p) S) := fun p q hp hq => by
  obtain ⟨x, h1, h1q, h2⟩ := dt_wp_M_open (B p) (C q) hp hq
  obtain ⟨y, h3, h3q, h4⟩ := h x p q h1 h1q
  exact ⟨y, h3, h3q, fun q hq => h2 (B q) (h4 q hq)⟩
theorem dt_wq_M_compile_88 {S : StM} : Dt2 evV (fun p => wq_M_compile_88 p S) (fun p => wq_M_compile_88 p S) := by
  unfold wq_M_compile_88
  repeat' first
    | with_reducible exact Dt2.noL
    | with_reducible exact Dt2.noR
    | with_reducible exact Dt2.v
    | with_reducible exact Dt2.i
    | with_reducible exact Dt2.l
    | with_reducible refine Dt2.ite ?_ ?_
    | with_reducible refine Dt2.and ?_
    | with_reducible refine Dt2.ex (fun _ _ => ?_)
theorem dt_wp_M_compile {S : StM} {a0 : Int32} {a1 : Int32} : Dt2 evV (fun p => wp_M_compile p S a0 a1) (fun p => wp_M_compile p S a0 a1) := by
  unfold wp_M_compile
  repeat' first
    | with_reducible exact Dt2.noL
    | with_reducible exact Dt2.noR
    | with_reducible exact Dt2.v
    | with_reducible exact Dt2.i
    | with_reducible exact Dt2.l
    | with_reducible refine dc_wp_M_fail (fun _ => ?_)
    | with_reducible refine dt_wq_M_compile_88
    | with_reducible refine Dt2.ite ?_ ?_
    | with_reducible refine Dt2.and ?_
    | with_reducible refine Dt2.ex (fun _ _ => ?_)
theorem dc_wp_M_compile {P R : Type} {ev : P → R → Prop} {B C : P → StM → Prop} {S : StM} {a0 : Int32} {a1 : Int32} (h : ∀ S1 : StM, Dt2 ev (fun p => B p S1) (fun p => C p S1)) : Dt2 ev (fun p => wp_M_compile (B p) S a0 a1) (fun p => wp_M_compile (C p) S a0 a1) := fun p q hp hq => by
  obtain ⟨x, h1, h1q, h2⟩ := dt_wp_M_compile (B p) (C q) hp hq
  obtain ⟨y, h3, h3q, h4⟩ := h x p q h1 h1q
  exact ⟨y, h3, h3q, fun q hq => h2 (B q) (h4 q hq)⟩
theorem dt_wq_M_begin_75 {S : StM} : Dt2 evV (fun p => wq_M_begin_75 p S) (fun p => wq_M_begin_75 p S) := by
  unfold wq_M_begin_75
  repeat' first
    | with_reducible exact Dt2.noL
    | with_reducible exact Dt2.noR
    | with_reducible exact Dt2.v
    | with_reducible exact Dt2.i
    | with_reducible exact Dt2.l
    | with_reducible refine Dt2.ite ?_ ?_
    | with_reducible refine Dt2.and ?_
    | with_reducible refine Dt2.ex (fun _ _ => ?_)
theorem dt_wq_M_begin_36 {S : StM} {x1 : Int32} {t0 : Int32} {t1 : Int32} : Dt2 evV (fun p => wq_M_begin_36 p S x1 t0 t1) (fun p => wq_M_begin_36 p S x1 t0 t1) := by
  unfold wq_M_begin_36
  repeat' first
    | with_reducible exact Dt2.noL
    | with_reducible exact Dt2.noR
    | with_reducible exact Dt2.v
    | with_reducible exact Dt2.i
    | with_reducible exact Dt2.l
    | with_reducible refine dc_wp_M_compile (fun _ => ?_)
    | with_reducible refine dt_wq_M_begin_75
    | with_reducible refine Dt2.ite ?_ ?_
    | with_reducible refine Dt2.and ?_
    | with_reducible refine Dt2.ex (fun _ _ => ?_)
theorem dt_wp_M_begin {S : StM} {a0 : Int32} : Dt2 evV (fun p => wp_M_begin p S a0) (fun p => wp_M_begin p S a0) := by
  unfold wp_M_begin
  repeat' first
    | with_reducible exact Dt2.noL
    | with_reducible exact Dt2.noR
    | with_reducible exact Dt2.v
    | with_reducible exact Dt2.i
    | with_reducible exact Dt2.l
    | with_reducible refine dc_wp_M_pop (fun _ _ => ?_)
    | with_reducible refine dt_wq_M_begin_36
    | with_reducible refine Dt2.ite ?_ ?_
    | with_reducible refine Dt2.and ?_
    | with_reducible refine Dt2.ex (fun _ _ => ?_)
theorem dc_wp_M_begin {P R : Type} {ev : P → R → Prop} {B C : P → StM → Prop} {S : StM} {a0 : Int32} (h : ∀ S1 : StM, Dt2 ev (fun p => B p S1) (fun p => C p S1)) : Dt2 ev (fun p => wp_M_begin (B p) S a0) (fun p => wp_M_begin (C p) S a0) := fun p q hp hq => by
  obtain ⟨x, h1, h1q, h2⟩ := dt_wp_M_begin (B p) (C q) hp hq
  obtain ⟨y, h3, h3q, h4⟩ := h x p q h1 h1q
  exact ⟨y, h3, h3q, fun q hq => h2 (B q) (h4 q hq)⟩
theorem dt_wq_M_parsing_181 {S : StM} : Dt2 evV (fun p => wq_M_parsing_181 p S) (fun p => wq_M_parsing_181 p S) := by
  unfold wq_M_parsing_181
  repeat' first
    | with_reducible exact Dt2.noL
    | with_reducible exact Dt2.noR
    | with_reducible exact Dt2.v
    | with_reducible exact Dt2.i
    | with_reducible exact Dt2.l
    | with_reducible refine Dt2.ite ?_ ?_
    | with_reducible refine Dt2.and ?_
    | with_reducible refine Dt2.ex (fun _ _ => ?_)
theorem dt_wq_M_parsing_176 {S : StM} {x2 : Int32} : Dt2 evV (fun p => wq_M_parsing_176 p S x2) (fun p => wq_M_parsing_176 p S x2) := by
  unfold wq_M_parsing_176
  repeat' first
    | with_reducible exact Dt2.noL
    | with_reducible exact Dt2.noR
    | with_reducible exact Dt2.v
    | with_reducible exact Dt2.i
    | with_reducible exact Dt2.l
    | with_reducible refine dt_wq_M_parsing_181
    | with_reducible refine Dt2.ite ?_ ?_
    | with_reducible refine Dt2.and ?_
    | with_reducible refine Dt2.ex (fun _ _ => ?_)
theorem dt_wq_M_parsing_167 {S : StM} {x1 : Int32} {x2 : Int32} : Dt2 evV (fun p => wq_M_parsing_167 p S x1 x2) (fun p => wq_M_parsing_167 p S x1 x2) := by
  unfold wq_M_parsing_167
  repeat' first
    | with_reducible exact Dt2.noL
    | with_reducible exact Dt2.noR
    | with_reducible exact Dt2.v
    | with_reducible exact Dt2.i
    | with_reducible exact Dt2.l
    | with_reducible refine dc_wp_M_open (fun _ => ?_)
    | with_reducible refine dc_wp_M_begin (fun _ => ?_)
    | with_reducible refine dt_wq_M_parsing_176
    | with_reducible refine Dt2.ite ?_ ?_
    | with_reducible refine Dt2.and ?_
    | with_reducible refine Dt2.ex (fun _ _ => ?_)
theorem dt_wq_M_parsing_159 {S : StM} {x2 : Int32} : Dt2 evV (fun p => wq_M_parsing_159 p S x2) (fun p => wq_M_parsing_159 p S x2) := by
  unfold wq_M_parsing_159
  repeat' first
    | with_reducible exact Dt2.noL
    | with_reducible exact Dt2.noR
    | with_reducible exact Dt2.v
    | with_reducible exact Dt2.i
    | with_reducible exact Dt2.l
    | with_reducible refine dc_wp_M_fail (fun _ => ?_)
    | with_reducible refine dt_wq_M_parsing_176
    | with_reducible refine Dt2.ite ?_ ?_
    | with_reducible refine Dt2.and ?_
    | with_reducible refine Dt2.ex (fun _ _ => ?_)
theorem dt_wq_M_parsing_135 {S : StM} {x1 : Int32} {x2 : Int32} : Dt2 evV (fun p => wq_M_parsing_135 p S x1 x2) (fun p => wq_M_parsing_135 p S x1 x2) := by
  unfold wq_M_parsing_135
  repeat' first
    | with_reducible exact Dt2.noL
    | with_reducible exact Dt2.noR
    | with_reducible exact Dt2.v
    | with_reducible exact Dt2.i
    | with_reducible exact Dt2.l
    | with_reducible refine dt_wq_M_parsing_167
    | with_reducible refine dt_wq_M_parsing_159
    | with_reducible refine Dt2.ite ?_ ?_
    | with_reducible refine Dt2.and ?_
    | with_reducible refine Dt2.ex (fun _ _ => ?_)
theorem dt_wq_M_parsing_99 {S : StM} {x1 : Int32} {x2 : Int32} {x3 : Int32} : Dt2 evV (fun p => wq_M_parsing_99 p S x1 x2 x3) (fun p => wq_M_parsing_99 p S x1 x2 x3) := by
  unfold wq_M_parsing_99
  repeat' first
    | with_reducible exact Dt2.noL
    | with_reducible exact Dt2.noR
    | with_reducible exact Dt2.v
    | with_reducible exact Dt2.i
    | with_reducible exact Dt2.l
    | with_reducible refine dc_wp_M_needs (fun _ _ => ?_)
    | with_reducible refine dc_wp_M_push (fun _ => ?_)
    | with_reducible refine dt_wq_M_parsing_176
    | with_reducible refine dt_wq_M_parsing_135
    | with_reducible refine Dt2.ite ?_ ?_
    | with_reducible refine Dt2.and ?_
    | with_reducible refine Dt2.ex (fun _ _ => ?_)
theorem dt_wq_M_parsing_34 {S : StM} {x1 : Int32} {x2 : Int32} : Dt2 evV (fun p => wq_M_parsing_34 p S x1 x2) (fun p => wq_M_parsing_34 p S x1 x2) := by
  unfold wq_M_parsing_34
  repeat' first
    | with_reducible exact Dt2.noL
    | with_reducible exact Dt2.noR
    | with_reducible exact Dt2.v
    | with_reducible exact Dt2.i
    | with_reducible exact Dt2.l
    | with_reducible refine dc_wp_M_fail (fun _ => ?_)
    | with_reducible refine dc_wp_M_nextToken (fun _ _ => ?_)
    | with_reducible refine dc_wp_M_isName (fun _ _ => ?_)
    | with_reducible refine dc_wp_M_find (fun _ _ => ?_)
    | with_reducible refine dt_wq_M_parsing_181
    | with_reducible refine dt_wq_M_parsing_176
    | with_reducible refine dt_wq_M_parsing_99
    | with_reducible refine Dt2.ite ?_ ?_
    | with_reducible refine Dt2.and ?_
    | with_reducible refine Dt2.ex (fun _ _ => ?_)
theorem dt_wq_M_parsing_25 {S : StM} : Dt2 evV (fun p => wq_M_parsing_25 p S) (fun p => wq_M_parsing_25 p S) := by
  unfold wq_M_parsing_25
  repeat' first
    | with_reducible exact Dt2.noL
    | with_reducible exact Dt2.noR
    | with_reducible exact Dt2.v
    | with_reducible exact Dt2.i
    | with_reducible exact Dt2.l
    | with_reducible refine dc_wp_M_fail (fun _ => ?_)
    | with_reducible refine dt_wq_M_parsing_181
    | with_reducible refine Dt2.ite ?_ ?_
    | with_reducible refine Dt2.and ?_
    | with_reducible refine Dt2.ex (fun _ _ => ?_)
theorem dt_wp_M_parsing {S : StM} {a0 : Int32} : Dt2 evV (fun p => wp_M_parsing p S a0) (fun p => wp_M_parsing p S a0) := by
  unfold wp_M_parsing
  repeat' first
    | with_reducible exact Dt2.noL
    | with_reducible exact Dt2.noR
    | with_reducible exact Dt2.v
    | with_reducible exact Dt2.i
    | with_reducible exact Dt2.l
    | with_reducible refine dt_wq_M_parsing_34
    | with_reducible refine dt_wq_M_parsing_25
    | with_reducible refine Dt2.ite ?_ ?_
    | with_reducible refine Dt2.and ?_
    | with_reducible refine Dt2.ex (fun _ _ => ?_)
theorem dc_wp_M_parsing {P R : Type} {ev : P → R → Prop} {B C : P → StM → Prop} {S : StM} {a0 : Int32} (h : ∀ S1 : StM, Dt2 ev (fun p => B p S1) (fun p => C p S1)) : Dt2 ev (fun p => wp_M_parsing (B p) S a0) (fun p => wp_M_parsing (C p) S a0) := fun p q hp hq => by
  obtain ⟨x, h1, h1q, h2⟩ := dt_wp_M_parsing (B p) (C q) hp hq
  obtain ⟨y, h3, h3q, h4⟩ := h x p q h1 h1q
  exact ⟨y, h3, h3q, fun q hq => h2 (B q) (h4 q hq)⟩
theorem dt_wp_M_settle {S : StM} : Dt2 evV (fun p => wp_M_settle p S) (fun p => wp_M_settle p S) := by
  unfold wp_M_settle
  repeat' first
    | with_reducible exact Dt2.noL
    | with_reducible exact Dt2.noR
    | with_reducible exact Dt2.v
    | with_reducible exact Dt2.i
    | with_reducible exact Dt2.l
    | with_reducible refine Dt2.ite ?_ ?_
    | with_reducible refine Dt2.and ?_
    | with_reducible refine Dt2.ex (fun _ _ => ?_)
theorem dc_wp_M_settle {P R : Type} {ev : P → R → Prop} {B C : P → StM → Prop} {S : StM} (h : ∀ S1 : StM, Dt2 ev (fun p => B p S1) (fun p => C p S1)) : Dt2 ev (fun p => wp_M_settle (B p) S) (fun p => wp_M_settle (C p) S) := fun p q hp hq => by
  obtain ⟨x, h1, h1q, h2⟩ := dt_wp_M_settle (B p) (C q) hp hq
  obtain ⟨y, h3, h3q, h4⟩ := h x p q h1 h1q
  exact ⟨y, h3, h3q, fun q hq => h2 (B q) (h4 q hq)⟩
theorem dt_wp_M_openOne {S : StM} {a0 : Int32} {a1 : Int32} : Dt2 evV (fun p => wp_M_openOne p S a0 a1) (fun p => wp_M_openOne p S a0 a1) := by
  unfold wp_M_openOne
  repeat' first
    | with_reducible exact Dt2.noL
    | with_reducible exact Dt2.noR
    | with_reducible exact Dt2.v
    | with_reducible exact Dt2.i
    | with_reducible exact Dt2.l
    | with_reducible refine Dt2.ite ?_ ?_
    | with_reducible refine Dt2.and ?_
    | with_reducible refine Dt2.ex (fun _ _ => ?_)
theorem dc_wp_M_openOne {P R : Type} {ev : P → R → Prop} {B C : P → StM → Prop} {S : StM} {a0 : Int32} {a1 : Int32} (h : ∀ S1 : StM, Dt2 ev (fun p => B p S1) (fun p => C p S1)) : Dt2 ev (fun p => wp_M_openOne (B p) S a0 a1) (fun p => wp_M_openOne (C p) S a0 a1) := fun p q hp hq => by
  obtain ⟨x, h1, h1q, h2⟩ := dt_wp_M_openOne (B p) (C q) hp hq
  obtain ⟨y, h3, h3q, h4⟩ := h x p q h1 h1q
  exact ⟨y, h3, h3q, fun q hq => h2 (B q) (h4 q hq)⟩
theorem dt_wq_M_fits_144 {S : StM} {t0 : Int32} : Dt2 evI (fun p => wq_M_fits_144 p S t0) (fun p => wq_M_fits_144 p S t0) := by
  unfold wq_M_fits_144
  repeat' first
    | with_reducible exact Dt2.noL
    | with_reducible exact Dt2.noR
    | with_reducible exact Dt2.v
    | with_reducible exact Dt2.i
    | with_reducible exact Dt2.l
    | with_reducible refine Dt2.ite ?_ ?_
    | with_reducible refine Dt2.and ?_
    | with_reducible refine Dt2.ex (fun _ _ => ?_)
theorem dt_wq_M_fits_139 {S : StM} : Dt2 evI (fun p => wq_M_fits_139 p S) (fun p => wq_M_fits_139 p S) := by
  unfold wq_M_fits_139
  repeat' first
    | with_reducible exact Dt2.noL
    | with_reducible exact Dt2.noR
    | with_reducible exact Dt2.v
    | with_reducible exact Dt2.i
    | with_reducible exact Dt2.l
    | with_reducible refine dt_wq_M_fits_144
    | with_reducible refine Dt2.ite ?_ ?_
    | with_reducible refine Dt2.and ?_
    | with_reducible refine Dt2.ex (fun _ _ => ?_)
theorem dt_wq_M_fits_106 {S : StM} {t0 : Int32} : Dt2 evI (fun p => wq_M_fits_106 p S t0) (fun p => wq_M_fits_106 p S t0) := by
  unfold wq_M_fits_106
  repeat' first
    | with_reducible exact Dt2.noL
    | with_reducible exact Dt2.noR
    | with_reducible exact Dt2.v
    | with_reducible exact Dt2.i
    | with_reducible exact Dt2.l
    | with_reducible refine Dt2.ite ?_ ?_
    | with_reducible refine Dt2.and ?_
    | with_reducible refine Dt2.ex (fun _ _ => ?_)
theorem dt_wq_M_fits_83 {S : StM} {t0 : Int32} : Dt2 evI (fun p => wq_M_fits_83 p S t0) (fun p => wq_M_fits_83 p S t0) := by
  unfold wq_M_fits_83
  repeat' first
    | with_reducible exact Dt2.noL
    | with_reducible exact Dt2.noR
    | with_reducible exact Dt2.v
    | with_reducible exact Dt2.i
    | with_reducible exact Dt2.l
    | with_reducible refine Dt2.ite ?_ ?_
    | with_reducible refine Dt2.and ?_
    | with_reducible refine Dt2.ex (fun _ _ => ?_)
theorem dt_wq_M_fits_65 {S : StM} {t0 : Int32} : Dt2 evI (fun p => wq_M_fits_65 p S t0) (fun p => wq_M_fits_65 p S t0) := by
  unfold wq_M_fits_65
  repeat' first
    | with_reducible exact Dt2.noL
    | with_reducible exact Dt2.noR
    | with_reducible exact Dt2.v
    | with_reducible exact Dt2.i
    | with_reducible exact Dt2.l
    | with_reducible refine Dt2.ite ?_ ?_
    | with_reducible refine Dt2.and ?_
    | with_reducible refine Dt2.ex (fun _ _ => ?_)
theorem dt_wq_M_fits_60 {S : StM} : Dt2 evI (fun p => wq_M_fits_60 p S) (fun p => wq_M_fits_60 p S) := by
  unfold wq_M_fits_60
  repeat' first
    | with_reducible exact Dt2.noL
    | with_reducible exact Dt2.noR
    | with_reducible exact Dt2.v
    | with_reducible exact Dt2.i
    | with_reducible exact Dt2.l
    | with_reducible refine dt_wq_M_fits_65
    | with_reducible refine Dt2.ite ?_ ?_
    | with_reducible refine Dt2.and ?_
    | with_reducible refine Dt2.ex (fun _ _ => ?_)
theorem dt_wq_M_fits_41 {S : StM} {t0 : Int32} : Dt2 evI (fun p => wq_M_fits_41 p S t0) (fun p => wq_M_fits_41 p S t0) := by
  unfold wq_M_fits_41
  repeat' first
    | with_reducible exact Dt2.noL
    | with_reducible exact Dt2.noR
    | with_reducible exact Dt2.v
    | with_reducible exact Dt2.i
    | with_reducible exact Dt2.l
    | with_reducible refine Dt2.ite ?_ ?_
    | with_reducible refine Dt2.and ?_
    | with_reducible refine Dt2.ex (fun _ _ => ?_)
theorem dt_wq_M_fits_22 {S : StM} {x1 : Int32} {t0 : Int32} : Dt2 evI (fun p => wq_M_fits_22 p S x1 t0) (fun p => wq_M_fits_22 p S x1 t0) := by
  unfold wq_M_fits_22
  repeat' first
    | with_reducible exact Dt2.noL
    | with_reducible exact Dt2.noR
    | with_reducible exact Dt2.v
    | with_reducible exact Dt2.i
    | with_reducible exact Dt2.l
    | with_reducible refine dc_wp_M_in (fun _ _ => ?_)
    | with_reducible refine dt_wq_M_fits_144
    | with_reducible refine dt_wq_M_fits_139
    | with_reducible refine dt_wq_M_fits_106
    | with_reducible refine dt_wq_M_fits_83
    | with_reducible refine dt_wq_M_fits_65
    | with_reducible refine dt_wq_M_fits_60
    | with_reducible refine dt_wq_M_fits_41
    | with_reducible refine Dt2.ite ?_ ?_
    | with_reducible refine Dt2.and ?_
    | with_reducible refine Dt2.ex (fun _ _ => ?_)
theorem dt_wp_M_fits {S : StM} {a0 : Int32} : Dt2 evI (fun p => wp_M_fits p S a0) (fun p => wp_M_fits p S a0) := by
  unfold wp_M_fits
  repeat' first
    | with_reducible exact Dt2.noL
    | with_reducible exact Dt2.noR
    | with_reducible exact Dt2.v
    | with_reducible exact Dt2.i
    | with_reducible exact Dt2.l
    | with_reducible refine dt_wq_M_fits_22
    | with_reducible refine Dt2.ite ?_ ?_
    | with_reducible refine Dt2.and ?_
    | with_reducible refine Dt2.ex (fun _ _ => ?_)
theorem dc_wp_M_fits {P R : Type} {ev : P → R → Prop} {B C : P → Int32 → StM → Prop} {S : StM} {a0 : Int32} (h : ∀ (r1 : Int32) (S1 : StM), Dt2 ev (fun p => B p r1 S1) (fun p => C p r1 S1)) : Dt2 ev (fun p => wp_M_fits (B p) S a0) (fun p => wp_M_fits (C p) S a0) := fun p q hp hq => by
  obtain ⟨x, h1, h1q, h2⟩ := dt_wp_M_fits (B p) (C q) hp hq
  obtain ⟨y, h3, h3q, h4⟩ := h x.1 x.2 p q h1 h1q
  exact ⟨y, h3, h3q, fun q hq => h2 (B q) (h4 q hq)⟩
theorem dt_wq_M_after_104 {S : StM} : Dt2 evV (fun p => wq_M_after_104 p S) (fun p => wq_M_after_104 p S) := by
  unfold wq_M_after_104
  repeat' first
    | with_reducible exact Dt2.noL
    | with_reducible exact Dt2.noR
    | with_reducible exact Dt2.v
    | with_reducible exact Dt2.i
    | with_reducible exact Dt2.l
    | with_reducible refine Dt2.ite ?_ ?_
    | with_reducible refine Dt2.and ?_
    | with_reducible refine Dt2.ex (fun _ _ => ?_)
theorem dt_wq_M_after_101 {S : StM} {t0 : Int32} {t1 : Int32} : Dt2 evV (fun p => wq_M_after_101 p S t0 t1) (fun p => wq_M_after_101 p S t0 t1) := by
  unfold wq_M_after_101
  repeat' first
    | with_reducible exact Dt2.noL
    | with_reducible exact Dt2.noR
    | with_reducible exact Dt2.v
    | with_reducible exact Dt2.i
    | with_reducible exact Dt2.l
    | with_reducible refine dc_wp_M_openOne (fun _ => ?_)
    | with_reducible refine dt_wq_M_after_104
    | with_reducible refine Dt2.ite ?_ ?_
    | with_reducible refine Dt2.and ?_
    | with_reducible refine Dt2.ex (fun _ _ => ?_)
theorem dt_wq_M_after_86 {S : StM} {x1 : Int32} {x2 : Int32} : Dt2 evV (fun p => wq_M_after_86 p S x1 x2) (fun p => wq_M_after_86 p S x1 x2) := by
  unfold wq_M_after_86
  repeat' first
    | with_reducible exact Dt2.noL
    | with_reducible exact Dt2.noR
    | with_reducible exact Dt2.v
    | with_reducible exact Dt2.i
    | with_reducible exact Dt2.l
    | with_reducible refine dt_wq_M_after_101
    | with_reducible refine Dt2.ite ?_ ?_
    | with_reducible refine Dt2.and ?_
    | with_reducible refine Dt2.ex (fun _ _ => ?_)
theorem dt_wq_M_after_56 {S : StM} {x1 : Int32} {x2 : Int32} : Dt2 evV (fun p => wq_M_after_56 p S x1 x2) (fun p => wq_M_after_56 p S x1 x2) := by
  unfold wq_M_after_56
  repeat' first
    | with_reducible exact Dt2.noL
    | with_reducible exact Dt2.noR
    | with_reducible exact Dt2.v
    | with_reducible exact Dt2.i
    | with_reducible exact Dt2.l
    | with_reducible refine dt_wq_M_after_104
    | with_reducible refine dt_wq_M_after_86
    | with_reducible refine Dt2.ite ?_ ?_
    | with_reducible refine Dt2.and ?_
    | with_reducible refine Dt2.ex (fun _ _ => ?_)
theorem dt_wq_M_after_46 {S : StM} {x1 : Int32} {x2 : Int32} : Dt2 evV (fun p => wq_M_after_46 p S x1 x2) (fun p => wq_M_after_46 p S x1 x2) := by
  unfold wq_M_after_46
  repeat' first
    | with_reducible exact Dt2.noL
    | with_reducible exact Dt2.noR
    | with_reducible exact Dt2.v
    | with_reducible exact Dt2.i
    | with_reducible exact Dt2.l
    | with_reducible refine dt_wq_M_after_56
    | with_reducible refine Dt2.ite ?_ ?_
    | with_reducible refine Dt2.and ?_
    | with_reducible refine Dt2.ex (fun _ _ => ?_)
theorem dt_wq_M_after_22 {S : StM} {x1 : Int32} {x2 : Int32} : Dt2 evV (fun p => wq_M_after_22 p S x1 x2) (fun p => wq_M_after_22 p S x1 x2) := by
  unfold wq_M_after_22
  repeat' first
    | with_reducible exact Dt2.noL
    | with_reducible exact Dt2.noR
    | with_reducible exact Dt2.v
    | with_reducible exact Dt2.i
    | with_reducible exact Dt2.l
    | with_reducible refine dt_wq_M_after_56
    | with_reducible refine dt_wq_M_after_46
    | with_reducible refine Dt2.ite ?_ ?_
    | with_reducible refine Dt2.and ?_
    | with_reducible refine Dt2.ex (fun _ _ => ?_)
theorem dt_wq_M_after_18 {S : StM} {x1 : Int32} {x2 : Int32} : Dt2 evV (fun p => wq_M_after_18 p S x1 x2) (fun p => wq_M_after_18 p S x1 x2) := by
  unfold wq_M_after_18
  repeat' first
    | with_reducible exact Dt2.noL
    | with_reducible exact Dt2.noR
    | with_reducible exact Dt2.v
    | with_reducible exact Dt2.i
    | with_reducible exact Dt2.l
    | with_reducible refine dc_wp_M_settle (fun _ => ?_)
    | with_reducible refine dt_wq_M_after_22
    | with_reducible refine Dt2.ite ?_ ?_
    | with_reducible refine Dt2.and ?_
    | with_reducible refine Dt2.ex (fun _ _ => ?_)
theorem dt_wp_M_after {S : StM} {a0 : Int32} {a1 : Int32} : Dt2 evV (fun p => wp_M_after p S a0 a1) (fun p => wp_M_after p S a0 a1) := by
  unfold wp_M_after
  repeat' first
    | with_reducible exact Dt2.noL
    | with_reducible exact Dt2.noR
    | with_reducible exact Dt2.v
    | with_reducible exact Dt2.i
    | with_reducible exact Dt2.l
    | with_reducible refine dt_wq_M_after_22
    | with_reducible refine dt_wq_M_after_18
    | with_reducible refine Dt2.ite ?_ ?_
    | with_reducible refine Dt2.and ?_
    | with_reducible refine Dt2.ex (fun _ _ => ?_)
theorem dc_wp_M_after {P R : Type} {ev : P → R → Prop} {B C : P → StM → Prop} {S : StM} {a0 : Int32} {a1 : Int32} (h : ∀ S1 : StM, Dt2 ev (fun p => B p S1) (fun p => C p S1)) : Dt2 ev (fun p => wp_M_after (B p) S a0 a1) (fun p => wp_M_after (C p) S a0 a1) := fun p q hp hq => by
  obtain ⟨x, h1, h1q, h2⟩ := dt_wp_M_after (B p) (C q) hp hq
  obtain ⟨y, h3, h3q, h4⟩ := h x p q h1 h1q
  exact ⟨y, h3, h3q, fun q hq => h2 (B q) (h4 q hq)⟩
theorem dt_wq_M_control_264 {S : StM} : Dt2 evV (fun p => wq_M_control_264 p S) (fun p => wq_M_control_264 p S) := by
  unfold wq_M_control_264
  repeat' first
    | with_reducible exact Dt2.noL
    | with_reducible exact Dt2.noR
    | with_reducible exact Dt2.v
    | with_reducible exact Dt2.i
    | with_reducible exact Dt2.l
    | with_reducible refine Dt2.ite ?_ ?_
    | with_reducible refine Dt2.and ?_
    | with_reducible refine Dt2.ex (fun _ _ => ?_)
theorem dt_wq_M_control_251 {S : StM} {x1 : Int32} {x2 : Int32} : Dt2 evV (fun p => wq_M_control_251 p S x1 x2) (fun p => wq_M_control_251 p S x1 x2) := by
  unfold wq_M_control_251
  repeat' first
    | with_reducible exact Dt2.noL
    | with_reducible exact Dt2.noR
    | with_reducible exact Dt2.v
    | with_reducible exact Dt2.i
    | with_reducible exact Dt2.l
    | with_reducible refine dc_wp_M_after (fun _ => ?_)
    | with_reducible refine dt_wq_M_control_264
    | with_reducible refine Dt2.ite ?_ ?_
    | with_reducible refine Dt2.and ?_
    | with_reducible refine Dt2.ex (fun _ _ => ?_)
theorem dt_wq_M_control_248 {S : StM} {x1 : Int32} {x2 : Int32} {t0 : Int32} {t1 : Int32} : Dt2 evV (fun p => wq_M_control_248 p S x1 x2 t0 t1) (fun p => wq_M_control_248 p S x1 x2 t0 t1) := by
  unfold wq_M_control_248
  repeat' first
    | with_reducible exact Dt2.noL
    | with_reducible exact Dt2.noR
    | with_reducible exact Dt2.v
    | with_reducible exact Dt2.i
    | with_reducible exact Dt2.l
    | with_reducible refine dc_wp_M_compile (fun _ => ?_)
    | with_reducible refine dt_wq_M_control_251
    | with_reducible refine Dt2.ite ?_ ?_
    | with_reducible refine Dt2.and ?_
    | with_reducible refine Dt2.ex (fun _ _ => ?_)
theorem dt_wq_M_control_230 {S : StM} {x1 : Int32} {x2 : Int32} {x4 : Int32} {t0 : Int32} : Dt2 evV (fun p => wq_M_control_230 p S x1 x2 x4 t0) (fun p => wq_M_control_230 p S x1 x2 x4 t0) := by
  unfold wq_M_control_230
  repeat' first
    | with_reducible exact Dt2.noL
    | with_reducible exact Dt2.noR
    | with_reducible exact Dt2.v
    | with_reducible exact Dt2.i
    | with_reducible exact Dt2.l
    | with_reducible refine dt_wq_M_control_248
    | with_reducible refine Dt2.ite ?_ ?_
    | with_reducible refine Dt2.and ?_
    | with_reducible refine Dt2.ex (fun _ _ => ?_)
theorem dt_wq_M_control_195 {S : StM} {x1 : Int32} {x2 : Int32} {x4 : Int32} : Dt2 evV (fun p => wq_M_control_195 p S x1 x2 x4) (fun p => wq_M_control_195 p S x1 x2 x4) := by
  unfold wq_M_control_195
  repeat' first
    | with_reducible exact Dt2.noL
    | with_reducible exact Dt2.noR
    | with_reducible exact Dt2.v
    | with_reducible exact Dt2.i
    | with_reducible exact Dt2.l
    | with_reducible refine dt_wq_M_control_230
    | with_reducible refine Dt2.ite ?_ ?_
    | with_reducible refine Dt2.and ?_
    | with_reducible refine Dt2.ex (fun _ _ => ?_)
theorem dt_wq_M_control_162 {S : StM} {x1 : Int32} {x2 : Int32} {t0 : Int32} : Dt2 evV (fun p => wq_M_control_162 p S x1 x2 t0) (fun p => wq_M_control_162 p S x1 x2 t0) := by
  unfold wq_M_control_162
  repeat' first
    | with_reducible exact Dt2.noL
    | with_reducible exact Dt2.noR
    | with_reducible exact Dt2.v
    | with_reducible exact Dt2.i
    | with_reducible exact Dt2.l
    | with_reducible refine dt_wq_M_control_251
    | with_reducible refine dt_wq_M_control_230
    | with_reducible refine dt_wq_M_control_195
    | with_reducible refine Dt2.ite ?_ ?_
    | with_reducible refine Dt2.and ?_
    | with_reducible refine Dt2.ex (fun _ _ => ?_)
theorem dt_wq_M_control_147 {S : StM} {x1 : Int32} {x2 : Int32} : Dt2 evV (fun p => wq_M_control_147 p S x1 x2) (fun p => wq_M_control_147 p S x1 x2) := by
  unfold wq_M_control_147
  repeat' first
    | with_reducible exact Dt2.noL
    | with_reducible exact Dt2.noR
    | with_reducible exact Dt2.v
    | with_reducible exact Dt2.i
    | with_reducible exact Dt2.l
    | with_reducible refine dt_wq_M_control_162
    | with_reducible refine Dt2.ite ?_ ?_
    | with_reducible refine Dt2.and ?_
    | with_reducible refine Dt2.ex (fun _ _ => ?_)
theorem dt_wq_M_control_109 {S : StM} {x1 : Int32} {x2 : Int32} : Dt2 evV (fun p => wq_M_control_109 p S x1 x2) (fun p => wq_M_control_109 p S x1 x2) := by
  unfold wq_M_control_109
  repeat' first
    | with_reducible exact Dt2.noL
    | with_reducible exact Dt2.noR
    | with_reducible exact Dt2.v
    | with_reducible exact Dt2.i
    | with_reducible exact Dt2.l
    | with_reducible refine dt_wq_M_control_162
    | with_reducible refine dt_wq_M_control_147
    | with_reducible refine Dt2.ite ?_ ?_
    | with_reducible refine Dt2.and ?_
    | with_reducible refine Dt2.ex (fun _ _ => ?_)
theorem dt_wq_M_control_55 {S : StM} : Dt2 evV (fun p => wq_M_control_55 p S) (fun p => wq_M_control_55 p S) := by
  unfold wq_M_control_55
  repeat' first
    | with_reducible exact Dt2.noL
    | with_reducible exact Dt2.noR
    | with_reducible exact Dt2.v
    | with_reducible exact Dt2.i
    | with_reducible exact Dt2.l
    | with_reducible refine dc_wp_M_fail (fun _ => ?_)
    | with_reducible refine dt_wq_M_control_264
    | with_reducible refine Dt2.ite ?_ ?_
    | with_reducible refine Dt2.and ?_
    | with_reducible refine Dt2.ex (fun _ _ => ?_)
theorem dt_wq_M_control_39 {S : StM} {x1 : Int32} {x2 : Int32} {t0 : Int32} : Dt2 evV (fun p => wq_M_control_39 p S x1 x2 t0) (fun p => wq_M_control_39 p S x1 x2 t0) := by
  unfold wq_M_control_39
  repeat' first
    | with_reducible exact Dt2.noL
    | with_reducible exact Dt2.noR
    | with_reducible exact Dt2.v
    | with_reducible exact Dt2.i
    | with_reducible exact Dt2.l
    | with_reducible refine dc_wp_M_fail (fun _ => ?_)
    | with_reducible refine dc_wp_M_fits (fun _ _ => ?_)
    | with_reducible refine dt_wq_M_control_264
    | with_reducible refine dt_wq_M_control_109
    | with_reducible refine dt_wq_M_control_55
    | with_reducible refine Dt2.ite ?_ ?_
    | with_reducible refine Dt2.and ?_
    | with_reducible refine Dt2.ex (fun _ _ => ?_)
theorem dt_wq_M_control_34 {S : StM} {x1 : Int32} {x2 : Int32} : Dt2 evV (fun p => wq_M_control_34 p S x1 x2) (fun p => wq_M_control_34 p S x1 x2) := by
  unfold wq_M_control_34
  repeat' first
    | with_reducible exact Dt2.noL
    | with_reducible exact Dt2.noR
    | with_reducible exact Dt2.v
    | with_reducible exact Dt2.i
    | with_reducible exact Dt2.l
    | with_reducible refine dt_wq_M_control_39
    | with_reducible refine Dt2.ite ?_ ?_
    | with_reducible refine Dt2.and ?_
    | with_reducible refine Dt2.ex (fun _ _ => ?_)
theorem dt_wp_M_control {S : StM} {a0 : Int32} : Dt2 evV (fun p => wp_M_control p S a0) (fun p => wp_M_control p S a0) := by
  unfold wp_M_control
  repeat' first
    | with_reducible exact Dt2.noL
    | with_reducible exact Dt2.noR
    | with_reducible exact Dt2.v
    | with_reducible exact Dt2.i
    | with_reducible exact Dt2.l
    | with_reducible refine dt_wq_M_control_39
    | with_reducible refine dt_wq_M_control_34
    | with_reducible refine Dt2.ite ?_ ?_
    | with_reducible refine Dt2.and ?_
    | with_reducible refine Dt2.ex (fun _ _ => ?_)
theorem dc_wp_M_control {P R : Type} {ev : P → R → Prop} {B C : P → StM → Prop} {S : StM} {a0 : Int32} (h : ∀ S1 : StM, Dt2 ev (fun p => B p S1) (fun p => C p S1)) : Dt2 ev (fun p => wp_M_control (B p) S a0) (fun p => wp_M_control (C p) S a0) := fun p q hp hq => by
  obtain ⟨x, h1, h1q, h2⟩ := dt_wp_M_control (B p) (C q) hp hq
  obtain ⟨y, h3, h3q, h4⟩ := h x p q h1 h1q
  exact ⟨y, h3, h3q, fun q hq => h2 (B q) (h4 q hq)⟩
theorem dt_wq_M_write_53 {S : StM} {x1 : Int32} : Dt2 evV (fun p => wq_M_write_53 p S x1) (fun p => wq_M_write_53 p S x1) := by
  unfold wq_M_write_53
  repeat' first
    | with_reducible exact Dt2.noL
    | with_reducible exact Dt2.noR
    | with_reducible exact Dt2.v
    | with_reducible exact Dt2.i
    | with_reducible exact Dt2.l
    | with_reducible refine Dt2.ite ?_ ?_
    | with_reducible refine Dt2.and ?_
    | with_reducible refine Dt2.ex (fun _ _ => ?_)
theorem dt_wq_M_write_2 : ∀ (n m : Nat) (z0 : StM) (z1 : Int32) (z2 : Int32), Dt2 evV (fun p => wq_M_write_2 p n z0 z1 z2) (fun p => wq_M_write_2 p m z0 z1 z2) := by
  intro n
  induction n with
  | zero => intros; exact Dt2.noL
  | succ n ih =>
  intro m
  cases m with
  | zero => intros; exact Dt2.noR
  | succ m =>
  intros
  unfold wq_M_write_2
  repeat' first
    | with_reducible exact Dt2.noL
    | with_reducible exact Dt2.noR
    | with_reducible exact Dt2.v
    | with_reducible exact Dt2.i
    | with_reducible exact Dt2.l
    | with_reducible exact ih _ _ _ _
    | with_reducible refine dt_wq_M_write_53
    | with_reducible refine Dt2.ite ?_ ?_
    | with_reducible refine Dt2.and ?_
    | with_reducible refine Dt2.ex (fun _ _ => ?_)
theorem dt_wp_M_write {S : StM} {a0 : Int32} : Dt2 evV (fun p => wp_M_write p S a0) (fun p => wp_M_write p S a0) := by
  unfold wp_M_write
  repeat' first
    | with_reducible exact Dt2.noL
    | with_reducible exact Dt2.noR
    | with_reducible exact Dt2.v
    | with_reducible exact Dt2.i
    | with_reducible exact Dt2.l
    | with_reducible exact dt_wq_M_write_2 _ _ _ _ _
    | with_reducible refine Dt2.ite ?_ ?_
    | with_reducible refine Dt2.and ?_
    | with_reducible refine Dt2.ex (fun _ _ => ?_)
theorem dc_wp_M_write {P R : Type} {ev : P → R → Prop} {B C : P → StM → Prop} {S : StM} {a0 : Int32} (h : ∀ S1 : StM, Dt2 ev (fun p => B p S1) (fun p => C p S1)) : Dt2 ev (fun p => wp_M_write (B p) S a0) (fun p => wp_M_write (C p) S a0) := fun p q hp hq => by
  obtain ⟨x, h1, h1q, h2⟩ := dt_wp_M_write (B p) (C q) hp hq
  obtain ⟨y, h3, h3q, h4⟩ := h x p q h1 h1q
  exact ⟨y, h3, h3q, fun q hq => h2 (B q) (h4 q hq)⟩
theorem dt_wq_M_block_132 {S : StM} {x2 : Int32} : Dt2 evV (fun p => wq_M_block_132 p S x2) (fun p => wq_M_block_132 p S x2) := by
  unfold wq_M_block_132
  repeat' first
    | with_reducible exact Dt2.noL
    | with_reducible exact Dt2.noR
    | with_reducible exact Dt2.v
    | with_reducible exact Dt2.i
    | with_reducible exact Dt2.l
    | with_reducible refine dc_wp_M_push (fun _ => ?_)
    | with_reducible refine dc_wp_M_pop (fun _ _ => ?_)
    | with_reducible refine Dt2.ite ?_ ?_
    | with_reducible refine Dt2.and ?_
    | with_reducible refine Dt2.ex (fun _ _ => ?_)
theorem dt_wq_M_block_95 : ∀ (n m : Nat) (z0 : StM) (z1 : Int32) (z2 : Int32) (z3 : Int32), Dt2 evV (fun p => wq_M_block_95 p n z0 z1 z2 z3) (fun p => wq_M_block_95 p m z0 z1 z2 z3) := by
  intro n
  induction n with
  | zero => intros; exact Dt2.noL
  | succ n ih =>
  intro m
  cases m with
  | zero => intros; exact Dt2.noR
  | succ m =>
  intros
  unfold wq_M_block_95
  repeat' first
    | with_reducible exact Dt2.noL
    | with_reducible exact Dt2.noR
    | with_reducible exact Dt2.v
    | with_reducible exact Dt2.i
    | with_reducible exact Dt2.l
    | with_reducible exact ih _ _ _ _ _
    | with_reducible refine dt_wq_M_block_132
    | with_reducible refine Dt2.ite ?_ ?_
    | with_reducible refine Dt2.and ?_
    | with_reducible refine Dt2.ex (fun _ _ => ?_)
theorem dt_wq_M_block_70 {S : StM} {x1 : Int32} {t0 : Int32} : Dt2 evV (fun p => wq_M_block_70 p S x1 t0) (fun p => wq_M_block_70 p S x1 t0) := by
  unfold wq_M_block_70
  repeat' first
    | with_reducible exact Dt2.noL
    | with_reducible exact Dt2.noR
    | with_reducible exact Dt2.v
    | with_reducible exact Dt2.i
    | with_reducible exact Dt2.l
    | with_reducible refine dc_wp_M_write (fun _ => ?_)
    | with_reducible refine dt_wq_M_block_132
    | with_reducible exact dt_wq_M_block_95 _ _ _ _ _ _
    | with_reducible refine Dt2.ite ?_ ?_
    | with_reducible refine Dt2.and ?_
    | with_reducible refine Dt2.ex (fun _ _ => ?_)
theorem dt_wp_M_block {S : StM} : Dt2 evV (fun p => wp_M_block p S) (fun p => wp_M_block p S) := by
  unfold wp_M_block
  repeat' first
    | with_reducible exact Dt2.noL
    | with_reducible exact Dt2.noR
    | with_reducible exact Dt2.v
    | with_reducible exact Dt2.i
    | with_reducible exact Dt2.l
    | with_reducible refine dc_wp_M_in (fun _ _ => ?_)
    | with_reducible refine dc_wp_M_fail (fun _ => ?_)
    | with_reducible refine dc_wp_M_needs (fun _ _ => ?_)
    | with_reducible refine dc_wp_M_top (fun _ _ => ?_)
    | with_reducible refine dt_wq_M_block_70
    | with_reducible refine Dt2.ite ?_ ?_
    | with_reducible refine Dt2.and ?_
    | with_reducible refine Dt2.ex (fun _ _ => ?_)
theorem dc_wp_M_block {P R : Type} {ev : P → R → Prop} {B C : P → StM → Prop} {S : StM} (h : ∀ S1 : StM, Dt2 ev (fun p => B p S1) (fun p => C p S1)) : Dt2 ev (fun p => wp_M_block (B p) S) (fun p => wp_M_block (C p) S) := fun p q hp hq => by
  obtain ⟨x, h1, h1q, h2⟩ := dt_wp_M_block (B p) (C q) hp hq
  obtain ⟨y, h3, h3q, h4⟩ := h x p q h1 h1q
  exact ⟨y, h3, h3q, fun q hq => h2 (B q) (h4 q hq)⟩
theorem dt_wq_M_target_60 {S : StM} : Dt2 evI (fun p => wq_M_target_60 p S) (fun p => wq_M_target_60 p S) := by
  unfold wq_M_target_60
  repeat' first
    | with_reducible exact Dt2.noL
    | with_reducible exact Dt2.noR
    | with_reducible exact Dt2.v
    | with_reducible exact Dt2.i
    | with_reducible exact Dt2.l
    | with_reducible refine dc_wp_M_pop (fun _ _ => ?_)
    | with_reducible refine Dt2.ite ?_ ?_
    | with_reducible refine Dt2.and ?_
    | with_reducible refine Dt2.ex (fun _ _ => ?_)
theorem dt_wp_M_target {S : StM} : Dt2 evI (fun p => wp_M_target p S) (fun p => wp_M_target p S) := by
  unfold wp_M_target
  repeat' first
    | with_reducible exact Dt2.noL
    | with_reducible exact Dt2.noR
    | with_reducible exact Dt2.v
    | with_reducible exact Dt2.i
    | with_reducible exact Dt2.l
    | with_reducible refine dc_wp_M_in (fun _ _ => ?_)
    | with_reducible refine dc_wp_M_fail (fun _ => ?_)
    | with_reducible refine dc_wp_M_needs (fun _ _ => ?_)
    | with_reducible refine dc_wp_M_top (fun _ _ => ?_)
    | with_reducible refine dt_wq_M_target_60
    | with_reducible refine Dt2.ite ?_ ?_
    | with_reducible refine Dt2.and ?_
    | with_reducible refine Dt2.ex (fun _ _ => ?_)
theorem dc_wp_M_target {P R : Type} {ev : P → R → Prop} {B C : P → Int32 → StM → Prop} {S : StM} (h : ∀ (r1 : Int32) (S1 : StM), Dt2 ev (fun p => B p r1 S1) (fun p => C p r1 S1)) : Dt2 ev (fun p => wp_M_target (B p) S) (fun p => wp_M_target (C p) S) := fun p q hp hq => by
  obtain ⟨x, h1, h1q, h2⟩ := dt_wp_M_target (B p) (C q) hp hq
  obtain ⟨y, h3, h3q, h4⟩ := h x.1 x.2 p q h1 h1q
  exact ⟨y, h3, h3q, fun q hq => h2 (B q) (h4 q hq)⟩
theorem dt_wq_M_enter_57 {S : StM} : Dt2 evV (fun p => wq_M_enter_57 p S) (fun p => wq_M_enter_57 p S) := by
  unfold wq_M_enter_57
  repeat' first
    | with_reducible exact Dt2.noL
    | with_reducible exact Dt2.noR
    | with_reducible exact Dt2.v
    | with_reducible exact Dt2.i
    | with_reducible exact Dt2.l
    | with_reducible refine Dt2.ite ?_ ?_
    | with_reducible refine Dt2.and ?_
    | with_reducible refine Dt2.ex (fun _ _ => ?_)
theorem dt_wp_M_enter {S : StM} {a0 : Int32} : Dt2 evV (fun p => wp_M_enter p S a0) (fun p => wp_M_enter p S a0) := by
  unfold wp_M_enter
  repeat' first
    | with_reducible exact Dt2.noL
    | with_reducible exact Dt2.noR
    | with_reducible exact Dt2.v
    | with_reducible exact Dt2.i
    | with_reducible exact Dt2.l
    | with_reducible refine dc_wp_M_fail (fun _ => ?_)
    | with_reducible refine dt_wq_M_enter_57
    | with_reducible refine Dt2.ite ?_ ?_
    | with_reducible refine Dt2.and ?_
    | with_reducible refine Dt2.ex (fun _ _ => ?_)
theorem dc_wp_M_enter {P R : Type} {ev : P → R → Prop} {B C : P → StM → Prop} {S : StM} {a0 : Int32} (h : ∀ S1 : StM, Dt2 ev (fun p => B p S1) (fun p => C p S1)) : Dt2 ev (fun p => wp_M_enter (B p) S a0) (fun p => wp_M_enter (C p) S a0) := fun p q hp hq => by
  obtain ⟨x, h1, h1q, h2⟩ := dt_wp_M_enter (B p) (C q) hp hq
  obtain ⟨y, h3, h3q, h4⟩ := h x p q h1 h1q
  exact ⟨y, h3, h3q, fun q hq => h2 (B q) (h4 q hq)⟩
theorem dt_wq_M_perform_224 {S : StM} : Dt2 evV (fun p => wq_M_perform_224 p S) (fun p => wq_M_perform_224 p S) := by
  unfold wq_M_perform_224
  repeat' first
    | with_reducible exact Dt2.noL
    | with_reducible exact Dt2.noR
    | with_reducible exact Dt2.v
    | with_reducible exact Dt2.i
    | with_reducible exact Dt2.l
    | with_reducible refine Dt2.ite ?_ ?_
    | with_reducible refine Dt2.and ?_
    | with_reducible refine Dt2.ex (fun _ _ => ?_)
theorem dt_wq_M_perform_141 {S : StM} {t0 : Int32} : Dt2 evV (fun p => wq_M_perform_141 p S t0) (fun p => wq_M_perform_141 p S t0) := by
  unfold wq_M_perform_141
  repeat' first
    | with_reducible exact Dt2.noL
    | with_reducible exact Dt2.noR
    | with_reducible exact Dt2.v
    | with_reducible exact Dt2.i
    | with_reducible exact Dt2.l
    | with_reducible refine dt_wq_M_perform_224
    | with_reducible refine Dt2.ite ?_ ?_
    | with_reducible refine Dt2.and ?_
    | with_reducible refine Dt2.ex (fun _ _ => ?_)
theorem dt_wq_M_perform_123 {S : StM} : Dt2 evV (fun p => wq_M_perform_123 p S) (fun p => wq_M_perform_123 p S) := by
  unfold wq_M_perform_123
  repeat' first
    | with_reducible exact Dt2.noL
    | with_reducible exact Dt2.noR
    | with_reducible exact Dt2.v
    | with_reducible exact Dt2.i
    | with_reducible exact Dt2.l
    | with_reducible refine dt_wq_M_perform_141
    | with_reducible refine Dt2.ite ?_ ?_
    | with_reducible refine Dt2.and ?_
    | with_reducible refine Dt2.ex (fun _ _ => ?_)
theorem dt_wq_M_perform_23 {S : StM} {x2 : Int32} : Dt2 evV (fun p => wq_M_perform_23 p S x2) (fun p => wq_M_perform_23 p S x2) := by
  unfold wq_M_perform_23
  repeat' first
    | with_reducible exact Dt2.noL
    | with_reducible exact Dt2.noR
    | with_reducible exact Dt2.v
    | with_reducible exact Dt2.i
    | with_reducible exact Dt2.l
    | with_reducible refine dc_wp_M_fail (fun _ => ?_)
    | with_reducible refine dc_wp_M_arithmetic (fun _ => ?_)
    | with_reducible refine dc_wp_M_shuffle (fun _ => ?_)
    | with_reducible refine dc_wp_M_store (fun _ => ?_)
    | with_reducible refine dc_wp_M_returns (fun _ => ?_)
    | with_reducible refine dc_wp_M_parsing (fun _ => ?_)
    | with_reducible refine dc_wp_M_control (fun _ => ?_)
    | with_reducible refine dc_wp_M_write (fun _ => ?_)
    | with_reducible refine dc_wp_M_block (fun _ => ?_)
    | with_reducible refine dc_wp_M_enter (fun _ => ?_)
    | with_reducible refine dt_wq_M_perform_224
    | with_reducible refine dt_wq_M_perform_123
    | with_reducible refine Dt2.ite ?_ ?_
    | with_reducible refine Dt2.and ?_
    | with_reducible refine Dt2.ex (fun _ _ => ?_)
theorem dt_wq_M_perform_2 : ∀ (n m : Nat) (z0 : StM) (z1 : Int32), Dt2 evV (fun p => wq_M_perform_2 p n z0 z1) (fun p => wq_M_perform_2 p m z0 z1) := by
  intro n
  induction n with
  | zero => intros; exact Dt2.noL
  | succ n ih =>
  intro m
  cases m with
  | zero => intros; exact Dt2.noR
  | succ m =>
  intros
  unfold wq_M_perform_2
  repeat' first
    | with_reducible exact Dt2.noL
    | with_reducible exact Dt2.noR
    | with_reducible exact Dt2.v
    | with_reducible exact Dt2.i
    | with_reducible exact Dt2.l
    | with_reducible exact ih _ _ _
    | with_reducible refine dc_wp_M_target (fun _ _ => ?_)
    | with_reducible refine dt_wq_M_perform_23
    | with_reducible refine Dt2.ite ?_ ?_
    | with_reducible refine Dt2.and ?_
    | with_reducible refine Dt2.ex (fun _ _ => ?_)
theorem dt_wp_M_perform {S : StM} {a0 : Int32} : Dt2 evV (fun p => wp_M_perform p S a0) (fun p => wp_M_perform p S a0) := by
  unfold wp_M_perform
  repeat' first
    | with_reducible exact Dt2.noL
    | with_reducible exact Dt2.noR
    | with_reducible exact Dt2.v
    | with_reducible exact Dt2.i
    | with_reducible exact Dt2.l
    | with_reducible exact dt_wq_M_perform_2 _ _ _ _
    | with_reducible refine Dt2.ite ?_ ?_
    | with_reducible refine Dt2.and ?_
    | with_reducible refine Dt2.ex (fun _ _ => ?_)
theorem dc_wp_M_perform {P R : Type} {ev : P → R → Prop} {B C : P → StM → Prop} {S : StM} {a0 : Int32} (h : ∀ S1 : StM, Dt2 ev (fun p => B p S1) (fun p => C p S1)) : Dt2 ev (fun p => wp_M_perform (B p) S a0) (fun p => wp_M_perform (C p) S a0) := fun p q hp hq => by
  obtain ⟨x, h1, h1q, h2⟩ := dt_wp_M_perform (B p) (C q) hp hq
  obtain ⟨y, h3, h3q, h4⟩ := h x p q h1 h1q
  exact ⟨y, h3, h3q, fun q hq => h2 (B q) (h4 q hq)⟩
theorem dt_wq_M_burn_31 {S : StM} {t0 : Int32} : Dt2 evV (fun p => wq_M_burn_31 p S t0) (fun p => wq_M_burn_31 p S t0) := by
  unfold wq_M_burn_31
  repeat' first
    | with_reducible exact Dt2.noL
    | with_reducible exact Dt2.noR
    | with_reducible exact Dt2.v
    | with_reducible exact Dt2.i
    | with_reducible exact Dt2.l
    | with_reducible refine Dt2.ite ?_ ?_
    | with_reducible refine Dt2.and ?_
    | with_reducible refine Dt2.ex (fun _ _ => ?_)
theorem dt_wq_M_burn_13 {S : StM} : Dt2 evV (fun p => wq_M_burn_13 p S) (fun p => wq_M_burn_13 p S) := by
  unfold wq_M_burn_13
  repeat' first
    | with_reducible exact Dt2.noL
    | with_reducible exact Dt2.noR
    | with_reducible exact Dt2.v
    | with_reducible exact Dt2.i
    | with_reducible exact Dt2.l
    | with_reducible refine dt_wq_M_burn_31
    | with_reducible refine Dt2.ite ?_ ?_
    | with_reducible refine Dt2.and ?_
    | with_reducible refine Dt2.ex (fun _ _ => ?_)
theorem dt_wp_M_burn {S : StM} : Dt2 evV (fun p => wp_M_burn p S) (fun p => wp_M_burn p S) := by
  unfold wp_M_burn
  repeat' first
    | with_reducible exact Dt2.noL
    | with_reducible exact Dt2.noR
    | with_reducible exact Dt2.v
    | with_reducible exact Dt2.i
    | with_reducible exact Dt2.l
    | with_reducible refine dc_wp_M_fail (fun _ => ?_)
    | with_reducible refine dt_wq_M_burn_13
    | with_reducible refine Dt2.ite ?_ ?_
    | with_reducible refine Dt2.and ?_
    | with_reducible refine Dt2.ex (fun _ _ => ?_)
theorem dc_wp_M_burn {P R : Type} {ev : P → R → Prop} {B C : P → StM → Prop} {S : StM} (h : ∀ S1 : StM, Dt2 ev (fun p => B p S1) (fun p => C p S1)) : Dt2 ev (fun p => wp_M_burn (B p) S) (fun p => wp_M_burn (C p) S) := fun p q hp hq => by
  obtain ⟨x, h1, h1q, h2⟩ := dt_wp_M_burn (B p) (C q) hp hq
  obtain ⟨y, h3, h3q, h4⟩ := h x p q h1 h1q
  exact ⟨y, h3, h3q, fun q hq => h2 (B q) (h4 q hq)⟩
theorem dt_wp_M_beginLoop {S : StM} {a0 : Int32} : Dt2 evV (fun p => wp_M_beginLoop p S a0) (fun p => wp_M_beginLoop p S a0) := by
  unfold wp_M_beginLoop
  repeat' first
    | with_reducible exact Dt2.noL
    | with_reducible exact Dt2.noR
    | with_reducible exact Dt2.v
    | with_reducible exact Dt2.i
    | with_reducible exact Dt2.l
    | with_reducible refine dc_wp_M_fail (fun _ => ?_)
    | with_reducible refine dc_wp_M_needs (fun _ _ => ?_)
    | with_reducible refine dc_wp_M_pop (fun _ _ => ?_)
    | with_reducible refine Dt2.ite ?_ ?_
    | with_reducible refine Dt2.and ?_
    | with_reducible refine Dt2.ex (fun _ _ => ?_)
theorem dc_wp_M_beginLoop {P R : Type} {ev : P → R → Prop} {B C : P → StM → Prop} {S : StM} {a0 : Int32} (h : ∀ S1 : StM, Dt2 ev (fun p => B p S1) (fun p => C p S1)) : Dt2 ev (fun p => wp_M_beginLoop (B p) S a0) (fun p => wp_M_beginLoop (C p) S a0) := fun p q hp hq => by
  obtain ⟨x, h1, h1q, h2⟩ := dt_wp_M_beginLoop (B p) (C q) hp hq
  obtain ⟨y, h3, h3q, h4⟩ := h x p q h1 h1q
  exact ⟨y, h3, h3q, fun q hq => h2 (B q) (h4 q hq)⟩
theorem dt_wq_M_step_287 {S : StM} : Dt2 evV (fun p => wq_M_step_287 p S) (fun p => wq_M_step_287 p S) := by
  unfold wq_M_step_287
  repeat' first
    | with_reducible exact Dt2.noL
    | with_reducible exact Dt2.noR
    | with_reducible exact Dt2.v
    | with_reducible exact Dt2.i
    | with_reducible exact Dt2.l
    | with_reducible refine Dt2.ite ?_ ?_
    | with_reducible refine Dt2.and ?_
    | with_reducible refine Dt2.ex (fun _ _ => ?_)
theorem dt_wq_M_step_286 {S : StM} {t0 : Int32} {t1 : Int32} : Dt2 evV (fun p => wq_M_step_286 p S t0 t1) (fun p => wq_M_step_286 p S t0 t1) := by
  unfold wq_M_step_286
  repeat' first
    | with_reducible exact Dt2.noL
    | with_reducible exact Dt2.noR
    | with_reducible exact Dt2.v
    | with_reducible exact Dt2.i
    | with_reducible exact Dt2.l
    | with_reducible refine dt_wq_M_step_287
    | with_reducible refine Dt2.ite ?_ ?_
    | with_reducible refine Dt2.and ?_
    | with_reducible refine Dt2.ex (fun _ _ => ?_)
theorem dt_wq_M_step_258 {S : StM} {x1 : Int32} {x6 : Int32} {t0 : Int32} {t1 : Int32} : Dt2 evV (fun p => wq_M_step_258 p S x1 x6 t0 t1) (fun p => wq_M_step_258 p S x1 x6 t0 t1) := by
  unfold wq_M_step_258
  repeat' first
    | with_reducible exact Dt2.noL
    | with_reducible exact Dt2.noR
    | with_reducible exact Dt2.v
    | with_reducible exact Dt2.i
    | with_reducible exact Dt2.l
    | with_reducible refine dt_wq_M_step_286
    | with_reducible refine Dt2.ite ?_ ?_
    | with_reducible refine Dt2.and ?_
    | with_reducible refine Dt2.ex (fun _ _ => ?_)
theorem dt_wq_M_step_235 {S : StM} {x1 : Int32} {x4 : Int32} {t0 : Int32} : Dt2 evV (fun p => wq_M_step_235 p S x1 x4 t0) (fun p => wq_M_step_235 p S x1 x4 t0) := by
  unfold wq_M_step_235
  repeat' first
    | with_reducible exact Dt2.noL
    | with_reducible exact Dt2.noR
    | with_reducible exact Dt2.v
    | with_reducible exact Dt2.i
    | with_reducible exact Dt2.l
    | with_reducible refine dt_wq_M_step_258
    | with_reducible refine Dt2.ite ?_ ?_
    | with_reducible refine Dt2.and ?_
    | with_reducible refine Dt2.ex (fun _ _ => ?_)
theorem dt_wp_M_step {S : StM} : Dt2 evV (fun p => wp_M_step p S) (fun p => wp_M_step p S) := by
  unfold wp_M_step
  repeat' first
    | with_reducible exact Dt2.noL
    | with_reducible exact Dt2.noR
    | with_reducible exact Dt2.v
    | with_reducible exact Dt2.i
    | with_reducible exact Dt2.l
    | with_reducible refine dc_wp_M_needs (fun _ _ => ?_)
    | with_reducible refine dc_wp_M_push (fun _ => ?_)
    | with_reducible refine dc_wp_M_pop (fun _ _ => ?_)
    | with_reducible refine dc_wp_M_perform (fun _ => ?_)
    | with_reducible refine dc_wp_M_burn (fun _ => ?_)
    | with_reducible refine dc_wp_M_beginLoop (fun _ => ?_)
    | with_reducible refine dt_wq_M_step_287
    | with_reducible refine dt_wq_M_step_235
    | with_reducible refine Dt2.ite ?_ ?_
    | with_reducible refine Dt2.and ?_
    | with_reducible refine Dt2.ex (fun _ _ => ?_)
theorem dc_wp_M_step {P R : Type} {ev : P → R → Prop} {B C : P → StM → Prop} {S : StM} (h : ∀ S1 : StM, Dt2 ev (fun p => B p S1) (fun p => C p S1)) : Dt2 ev (fun p => wp_M_step (B p) S) (fun p => wp_M_step (C p) S) := fun p q hp hq => by
  obtain ⟨x, h1, h1q, h2⟩ := dt_wp_M_step (B p) (C q) hp hq
  obtain ⟨y, h3, h3q, h4⟩ := h x p q h1 h1q
  exact ⟨y, h3, h3q, fun q hq => h2 (B q) (h4 q hq)⟩
theorem dt_wq_M_read_148 {S : StM} : Dt2 evV (fun p => wq_M_read_148 p S) (fun p => wq_M_read_148 p S) := by
  unfold wq_M_read_148
  repeat' first
    | with_reducible exact Dt2.noL
    | with_reducible exact Dt2.noR
    | with_reducible exact Dt2.v
    | with_reducible exact Dt2.i
    | with_reducible exact Dt2.l
    | with_reducible refine Dt2.ite ?_ ?_
    | with_reducible refine Dt2.and ?_
    | with_reducible refine Dt2.ex (fun _ _ => ?_)
theorem dt_wq_M_read_127 : ∀ (n m : Nat) (z0 : StM), Dt2 evV (fun p => wq_M_read_127 p n z0) (fun p => wq_M_read_127 p m z0) := by
  intro n
  induction n with
  | zero => intros; exact Dt2.noL
  | succ n ih =>
  intro m
  cases m with
  | zero => intros; exact Dt2.noR
  | succ m =>
  intros
  unfold wq_M_read_127
  repeat' first
    | with_reducible exact Dt2.noL
    | with_reducible exact Dt2.noR
    | with_reducible exact Dt2.v
    | with_reducible exact Dt2.i
    | with_reducible exact Dt2.l
    | with_reducible exact ih _ _
    | with_reducible refine dc_wp_M_step (fun _ => ?_)
    | with_reducible refine dt_wq_M_read_148
    | with_reducible refine Dt2.ite ?_ ?_
    | with_reducible refine Dt2.and ?_
    | with_reducible refine Dt2.ex (fun _ _ => ?_)
theorem dt_wq_M_read_122 {S : StM} {x1 : Int32} : Dt2 evV (fun p => wq_M_read_122 p S x1) (fun p => wq_M_read_122 p S x1) := by
  unfold wq_M_read_122
  repeat' first
    | with_reducible exact Dt2.noL
    | with_reducible exact Dt2.noR
    | with_reducible exact Dt2.v
    | with_reducible exact Dt2.i
    | with_reducible exact Dt2.l
    | with_reducible refine dc_wp_M_perform (fun _ => ?_)
    | with_reducible exact dt_wq_M_read_127 _ _ _
    | with_reducible refine Dt2.ite ?_ ?_
    | with_reducible refine Dt2.and ?_
    | with_reducible refine Dt2.ex (fun _ _ => ?_)
theorem dt_wq_M_read_113 {S : StM} {x1 : Int32} : Dt2 evV (fun p => wq_M_read_113 p S x1) (fun p => wq_M_read_113 p S x1) := by
  unfold wq_M_read_113
  repeat' first
    | with_reducible exact Dt2.noL
    | with_reducible exact Dt2.noR
    | with_reducible exact Dt2.v
    | with_reducible exact Dt2.i
    | with_reducible exact Dt2.l
    | with_reducible refine dc_wp_M_compile (fun _ => ?_)
    | with_reducible refine dt_wq_M_read_148
    | with_reducible refine Dt2.ite ?_ ?_
    | with_reducible refine Dt2.and ?_
    | with_reducible refine Dt2.ex (fun _ _ => ?_)
theorem dt_wp_M_read {S : StM} : Dt2 evV (fun p => wp_M_read p S) (fun p => wp_M_read p S) := by
  unfold wp_M_read
  repeat' first
    | with_reducible exact Dt2.noL
    | with_reducible exact Dt2.noR
    | with_reducible exact Dt2.v
    | with_reducible exact Dt2.i
    | with_reducible exact Dt2.l
    | with_reducible refine dc_wp_M_in (fun _ _ => ?_)
    | with_reducible refine dc_wp_M_fail (fun _ => ?_)
    | with_reducible refine dc_wp_M_push (fun _ => ?_)
    | with_reducible refine dc_wp_M_isNumber (fun _ _ => ?_)
    | with_reducible refine dc_wp_M_number (fun _ _ => ?_)
    | with_reducible refine dc_wp_M_find (fun _ _ => ?_)
    | with_reducible refine dc_wp_M_compile (fun _ => ?_)
    | with_reducible refine dc_wp_M_burn (fun _ => ?_)
    | with_reducible refine dt_wq_M_read_148
    | with_reducible refine dt_wq_M_read_122
    | with_reducible refine dt_wq_M_read_113
    | with_reducible refine Dt2.ite ?_ ?_
    | with_reducible refine Dt2.and ?_
    | with_reducible refine Dt2.ex (fun _ _ => ?_)
theorem dc_wp_M_read {P R : Type} {ev : P → R → Prop} {B C : P → StM → Prop} {S : StM} (h : ∀ S1 : StM, Dt2 ev (fun p => B p S1) (fun p => C p S1)) : Dt2 ev (fun p => wp_M_read (B p) S) (fun p => wp_M_read (C p) S) := fun p q hp hq => by
  obtain ⟨x, h1, h1q, h2⟩ := dt_wp_M_read (B p) (C q) hp hq
  obtain ⟨y, h3, h3q, h4⟩ := h x p q h1 h1q
  exact ⟨y, h3, h3q, fun q hq => h2 (B q) (h4 q hq)⟩
theorem dt_wq_M_type_114 {S : StM} {x3 : Int32} : Dt2 evI (fun p => wq_M_type_114 p S x3) (fun p => wq_M_type_114 p S x3) := by
  unfold wq_M_type_114
  repeat' first
    | with_reducible exact Dt2.noL
    | with_reducible exact Dt2.noR
    | with_reducible exact Dt2.v
    | with_reducible exact Dt2.i
    | with_reducible exact Dt2.l
    | with_reducible refine Dt2.ite ?_ ?_
    | with_reducible refine Dt2.and ?_
    | with_reducible refine Dt2.ex (fun _ _ => ?_)
theorem dt_wq_M_type_69 : ∀ (n m : Nat) (z0 : StM) (z1 : Int32) (z2 : Int32) (z3 : Int32), Dt2 evI (fun p => wq_M_type_69 p n z0 z1 z2 z3) (fun p => wq_M_type_69 p m z0 z1 z2 z3) := by
  intro n
  induction n with
  | zero => intros; exact Dt2.noL
  | succ n ih =>
  intro m
  cases m with
  | zero => intros; exact Dt2.noR
  | succ m =>
  intros
  unfold wq_M_type_69
  repeat' first
    | with_reducible exact Dt2.noL
    | with_reducible exact Dt2.noR
    | with_reducible exact Dt2.v
    | with_reducible exact Dt2.i
    | with_reducible exact Dt2.l
    | with_reducible exact ih _ _ _ _ _
    | with_reducible refine dt_wq_M_type_114
    | with_reducible refine Dt2.ite ?_ ?_
    | with_reducible refine Dt2.and ?_
    | with_reducible refine Dt2.ex (fun _ _ => ?_)
theorem dt_wq_M_type_64 {S : StM} {x1 : Int32} {x2 : Int32} {x3 : Int32} : Dt2 evI (fun p => wq_M_type_64 p S x1 x2 x3) (fun p => wq_M_type_64 p S x1 x2 x3) := by
  unfold wq_M_type_64
  repeat' first
    | with_reducible exact Dt2.noL
    | with_reducible exact Dt2.noR
    | with_reducible exact Dt2.v
    | with_reducible exact Dt2.i
    | with_reducible exact Dt2.l
    | with_reducible exact dt_wq_M_type_69 _ _ _ _ _ _
    | with_reducible refine Dt2.ite ?_ ?_
    | with_reducible refine Dt2.and ?_
    | with_reducible refine Dt2.ex (fun _ _ => ?_)
theorem dt_wq_M_type_29 : ∀ (n m : Nat) (z0 : StM) (z1 : Int32) (z2 : Int32) (z3 : Int32) (z4 : Int32), Dt2 evI (fun p => wq_M_type_29 p n z0 z1 z2 z3 z4) (fun p => wq_M_type_29 p m z0 z1 z2 z3 z4) := by
  intro n
  induction n with
  | zero => intros; exact Dt2.noL
  | succ n ih =>
  intro m
  cases m with
  | zero => intros; exact Dt2.noR
  | succ m =>
  intros
  unfold wq_M_type_29
  repeat' first
    | with_reducible exact Dt2.noL
    | with_reducible exact Dt2.noR
    | with_reducible exact Dt2.v
    | with_reducible exact Dt2.i
    | with_reducible exact Dt2.l
    | with_reducible exact ih _ _ _ _ _ _
    | with_reducible refine dc_wp_M_in (fun _ _ => ?_)
    | with_reducible refine dt_wq_M_type_64
    | with_reducible refine Dt2.ite ?_ ?_
    | with_reducible refine Dt2.and ?_
    | with_reducible refine Dt2.ex (fun _ _ => ?_)
theorem dt_wq_M_type_25 {S : StM} {x1 : Int32} {x2 : Int32} {t0 : Int32} : Dt2 evI (fun p => wq_M_type_25 p S x1 x2 t0) (fun p => wq_M_type_25 p S x1 x2 t0) := by
  unfold wq_M_type_25
  repeat' first
    | with_reducible exact Dt2.noL
    | with_reducible exact Dt2.noR
    | with_reducible exact Dt2.v
    | with_reducible exact Dt2.i
    | with_reducible exact Dt2.l
    | with_reducible exact dt_wq_M_type_29 _ _ _ _ _ _ _
    | with_reducible refine Dt2.ite ?_ ?_
    | with_reducible refine Dt2.and ?_
    | with_reducible refine Dt2.ex (fun _ _ => ?_)
theorem dt_wq_M_type_24 {S : StM} {x1 : Int32} {x2 : Int32} : Dt2 evI (fun p => wq_M_type_24 p S x1 x2) (fun p => wq_M_type_24 p S x1 x2) := by
  unfold wq_M_type_24
  repeat' first
    | with_reducible exact Dt2.noL
    | with_reducible exact Dt2.noR
    | with_reducible exact Dt2.v
    | with_reducible exact Dt2.i
    | with_reducible exact Dt2.l
    | with_reducible refine dt_wq_M_type_25
    | with_reducible refine Dt2.ite ?_ ?_
    | with_reducible refine Dt2.and ?_
    | with_reducible refine Dt2.ex (fun _ _ => ?_)
theorem dt_wp_M_type {S : StM} {a0 : Int32} {a1 : Int32} : Dt2 evI (fun p => wp_M_type p S a0 a1) (fun p => wp_M_type p S a0 a1) := by
  unfold wp_M_type
  repeat' first
    | with_reducible exact Dt2.noL
    | with_reducible exact Dt2.noR
    | with_reducible exact Dt2.v
    | with_reducible exact Dt2.i
    | with_reducible exact Dt2.l
    | with_reducible refine dc_wp_M_in (fun _ _ => ?_)
    | with_reducible refine dt_wq_M_type_25
    | with_reducible refine dt_wq_M_type_24
    | with_reducible refine Dt2.ite ?_ ?_
    | with_reducible refine Dt2.and ?_
    | with_reducible refine Dt2.ex (fun _ _ => ?_)
theorem dc_wp_M_type {P R : Type} {ev : P → R → Prop} {B C : P → Int32 → StM → Prop} {S : StM} {a0 : Int32} {a1 : Int32} (h : ∀ (r1 : Int32) (S1 : StM), Dt2 ev (fun p => B p r1 S1) (fun p => C p r1 S1)) : Dt2 ev (fun p => wp_M_type (B p) S a0 a1) (fun p => wp_M_type (C p) S a0 a1) := fun p q hp hq => by
  obtain ⟨x, h1, h1q, h2⟩ := dt_wp_M_type (B p) (C q) hp hq
  obtain ⟨y, h3, h3q, h4⟩ := h x.1 x.2 p q h1 h1q
  exact ⟨y, h3, h3q, fun q hq => h2 (B q) (h4 q hq)⟩
theorem dt_wq_M_run_38 {S : StM} : Dt2 evI (fun p => wq_M_run_38 p S) (fun p => wq_M_run_38 p S) := by
  unfold wq_M_run_38
  repeat' first
    | with_reducible exact Dt2.noL
    | with_reducible exact Dt2.noR
    | with_reducible exact Dt2.v
    | with_reducible exact Dt2.i
    | with_reducible exact Dt2.l
    | with_reducible refine Dt2.ite ?_ ?_
    | with_reducible refine Dt2.and ?_
    | with_reducible refine Dt2.ex (fun _ _ => ?_)
theorem dt_wq_M_run_17 : ∀ (n m : Nat) (z0 : StM), Dt2 evI (fun p => wq_M_run_17 p n z0) (fun p => wq_M_run_17 p m z0) := by
  intro n
  induction n with
  | zero => intros; exact Dt2.noL
  | succ n ih =>
  intro m
  cases m with
  | zero => intros; exact Dt2.noR
  | succ m =>
  intros
  unfold wq_M_run_17
  repeat' first
    | with_reducible exact Dt2.noL
    | with_reducible exact Dt2.noR
    | with_reducible exact Dt2.v
    | with_reducible exact Dt2.i
    | with_reducible exact Dt2.l
    | with_reducible exact ih _ _
    | with_reducible refine dc_wp_M_nextToken (fun _ _ => ?_)
    | with_reducible refine dc_wp_M_read (fun _ => ?_)
    | with_reducible refine dt_wq_M_run_38
    | with_reducible refine Dt2.ite ?_ ?_
    | with_reducible refine Dt2.and ?_
    | with_reducible refine Dt2.ex (fun _ _ => ?_)
theorem dt_wp_M_run {S : StM} : Dt2 evI (fun p => wp_M_run p S) (fun p => wp_M_run p S) := by
  unfold wp_M_run
  repeat' first
    | with_reducible exact Dt2.noL
    | with_reducible exact Dt2.noR
    | with_reducible exact Dt2.v
    | with_reducible exact Dt2.i
    | with_reducible exact Dt2.l
    | with_reducible exact dt_wq_M_run_17 _ _ _
    | with_reducible refine Dt2.ite ?_ ?_
    | with_reducible refine Dt2.and ?_
    | with_reducible refine Dt2.ex (fun _ _ => ?_)
theorem dc_wp_M_run {P R : Type} {ev : P → R → Prop} {B C : P → Int32 → StM → Prop} {S : StM} (h : ∀ (r1 : Int32) (S1 : StM), Dt2 ev (fun p => B p r1 S1) (fun p => C p r1 S1)) : Dt2 ev (fun p => wp_M_run (B p) S) (fun p => wp_M_run (C p) S) := fun p q hp hq => by
  obtain ⟨x, h1, h1q, h2⟩ := dt_wp_M_run (B p) (C q) hp hq
  obtain ⟨y, h3, h3q, h4⟩ := h x.1 x.2 p q h1 h1q
  exact ⟨y, h3, h3q, fun q hq => h2 (B q) (h4 q hq)⟩
theorem dt_wq_M_count_100 {S : StM} {t0 : Int32} : Dt2 evI (fun p => wq_M_count_100 p S t0) (fun p => wq_M_count_100 p S t0) := by
  unfold wq_M_count_100
  repeat' first
    | with_reducible exact Dt2.noL
    | with_reducible exact Dt2.noR
    | with_reducible exact Dt2.v
    | with_reducible exact Dt2.i
    | with_reducible exact Dt2.l
    | with_reducible refine Dt2.ite ?_ ?_
    | with_reducible refine Dt2.and ?_
    | with_reducible refine Dt2.ex (fun _ _ => ?_)
theorem dt_wq_M_count_53 {S : StM} {t0 : Int32} : Dt2 evI (fun p => wq_M_count_53 p S t0) (fun p => wq_M_count_53 p S t0) := by
  unfold wq_M_count_53
  repeat' first
    | with_reducible exact Dt2.noL
    | with_reducible exact Dt2.noR
    | with_reducible exact Dt2.v
    | with_reducible exact Dt2.i
    | with_reducible exact Dt2.l
    | with_reducible refine Dt2.ite ?_ ?_
    | with_reducible refine Dt2.and ?_
    | with_reducible refine Dt2.ex (fun _ _ => ?_)
theorem dt_wp_M_count {S : StM} {a0 : Int32} : Dt2 evI (fun p => wp_M_count p S a0) (fun p => wp_M_count p S a0) := by
  unfold wp_M_count
  repeat' first
    | with_reducible exact Dt2.noL
    | with_reducible exact Dt2.noR
    | with_reducible exact Dt2.v
    | with_reducible exact Dt2.i
    | with_reducible exact Dt2.l
    | with_reducible refine dt_wq_M_count_100
    | with_reducible refine dt_wq_M_count_53
    | with_reducible refine Dt2.ite ?_ ?_
    | with_reducible refine Dt2.and ?_
    | with_reducible refine Dt2.ex (fun _ _ => ?_)
theorem dc_wp_M_count {P R : Type} {ev : P → R → Prop} {B C : P → Int32 → StM → Prop} {S : StM} {a0 : Int32} (h : ∀ (r1 : Int32) (S1 : StM), Dt2 ev (fun p => B p r1 S1) (fun p => C p r1 S1)) : Dt2 ev (fun p => wp_M_count (B p) S a0) (fun p => wp_M_count (C p) S a0) := fun p q hp hq => by
  obtain ⟨x, h1, h1q, h2⟩ := dt_wp_M_count (B p) (C q) hp hq
  obtain ⟨y, h3, h3q, h4⟩ := h x.1 x.2 p q h1 h1q
  exact ⟨y, h3, h3q, fun q hq => h2 (B q) (h4 q hq)⟩
theorem dt_wq_M_stack_23 {S : StM} {t0 : Int32} : Dt2 evI (fun p => wq_M_stack_23 p S t0) (fun p => wq_M_stack_23 p S t0) := by
  unfold wq_M_stack_23
  repeat' first
    | with_reducible exact Dt2.noL
    | with_reducible exact Dt2.noR
    | with_reducible exact Dt2.v
    | with_reducible exact Dt2.i
    | with_reducible exact Dt2.l
    | with_reducible refine Dt2.ite ?_ ?_
    | with_reducible refine Dt2.and ?_
    | with_reducible refine Dt2.ex (fun _ _ => ?_)
theorem dt_wp_M_stack {S : StM} {a0 : Int32} : Dt2 evI (fun p => wp_M_stack p S a0) (fun p => wp_M_stack p S a0) := by
  unfold wp_M_stack
  repeat' first
    | with_reducible exact Dt2.noL
    | with_reducible exact Dt2.noR
    | with_reducible exact Dt2.v
    | with_reducible exact Dt2.i
    | with_reducible exact Dt2.l
    | with_reducible refine dc_wp_M_in (fun _ _ => ?_)
    | with_reducible refine dc_wp_M_top (fun _ _ => ?_)
    | with_reducible refine dt_wq_M_stack_23
    | with_reducible refine Dt2.ite ?_ ?_
    | with_reducible refine Dt2.and ?_
    | with_reducible refine Dt2.ex (fun _ _ => ?_)
theorem dc_wp_M_stack {P R : Type} {ev : P → R → Prop} {B C : P → Int32 → StM → Prop} {S : StM} {a0 : Int32} (h : ∀ (r1 : Int32) (S1 : StM), Dt2 ev (fun p => B p r1 S1) (fun p => C p r1 S1)) : Dt2 ev (fun p => wp_M_stack (B p) S a0) (fun p => wp_M_stack (C p) S a0) := fun p q hp hq => by
  obtain ⟨x, h1, h1q, h2⟩ := dt_wp_M_stack (B p) (C q) hp hq
  obtain ⟨y, h3, h3q, h4⟩ := h x.1 x.2 p q h1 h1q
  exact ⟨y, h3, h3q, fun q hq => h2 (B q) (h4 q hq)⟩
theorem dt_wq_M_out_28 {S : StM} {t0 : Int32} : Dt2 evI (fun p => wq_M_out_28 p S t0) (fun p => wq_M_out_28 p S t0) := by
  unfold wq_M_out_28
  repeat' first
    | with_reducible exact Dt2.noL
    | with_reducible exact Dt2.noR
    | with_reducible exact Dt2.v
    | with_reducible exact Dt2.i
    | with_reducible exact Dt2.l
    | with_reducible refine Dt2.ite ?_ ?_
    | with_reducible refine Dt2.and ?_
    | with_reducible refine Dt2.ex (fun _ _ => ?_)
theorem dt_wq_M_out_27 {S : StM} : Dt2 evI (fun p => wq_M_out_27 p S) (fun p => wq_M_out_27 p S) := by
  unfold wq_M_out_27
  repeat' first
    | with_reducible exact Dt2.noL
    | with_reducible exact Dt2.noR
    | with_reducible exact Dt2.v
    | with_reducible exact Dt2.i
    | with_reducible exact Dt2.l
    | with_reducible refine dt_wq_M_out_28
    | with_reducible refine Dt2.ite ?_ ?_
    | with_reducible refine Dt2.and ?_
    | with_reducible refine Dt2.ex (fun _ _ => ?_)
theorem dt_wp_M_out {S : StM} {a0 : Int32} : Dt2 evI (fun p => wp_M_out p S a0) (fun p => wp_M_out p S a0) := by
  unfold wp_M_out
  repeat' first
    | with_reducible exact Dt2.noL
    | with_reducible exact Dt2.noR
    | with_reducible exact Dt2.v
    | with_reducible exact Dt2.i
    | with_reducible exact Dt2.l
    | with_reducible refine dc_wp_M_in (fun _ _ => ?_)
    | with_reducible refine dt_wq_M_out_28
    | with_reducible refine dt_wq_M_out_27
    | with_reducible refine Dt2.ite ?_ ?_
    | with_reducible refine Dt2.and ?_
    | with_reducible refine Dt2.ex (fun _ _ => ?_)
theorem dc_wp_M_out {P R : Type} {ev : P → R → Prop} {B C : P → Int32 → StM → Prop} {S : StM} {a0 : Int32} (h : ∀ (r1 : Int32) (S1 : StM), Dt2 ev (fun p => B p r1 S1) (fun p => C p r1 S1)) : Dt2 ev (fun p => wp_M_out (B p) S a0) (fun p => wp_M_out (C p) S a0) := fun p q hp hq => by
  obtain ⟨x, h1, h1q, h2⟩ := dt_wp_M_out (B p) (C q) hp hq
  obtain ⟨y, h3, h3q, h4⟩ := h x.1 x.2 p q h1 h1q
  exact ⟨y, h3, h3q, fun q hq => h2 (B q) (h4 q hq)⟩
theorem dt_wq_M_cell_20 {S : StM} {t0 : Int32} : Dt2 evI (fun p => wq_M_cell_20 p S t0) (fun p => wq_M_cell_20 p S t0) := by
  unfold wq_M_cell_20
  repeat' first
    | with_reducible exact Dt2.noL
    | with_reducible exact Dt2.noR
    | with_reducible exact Dt2.v
    | with_reducible exact Dt2.i
    | with_reducible exact Dt2.l
    | with_reducible refine Dt2.ite ?_ ?_
    | with_reducible refine Dt2.and ?_
    | with_reducible refine Dt2.ex (fun _ _ => ?_)
theorem dt_wp_M_cell {S : StM} {a0 : Int32} : Dt2 evI (fun p => wp_M_cell p S a0) (fun p => wp_M_cell p S a0) := by
  unfold wp_M_cell
  repeat' first
    | with_reducible exact Dt2.noL
    | with_reducible exact Dt2.noR
    | with_reducible exact Dt2.v
    | with_reducible exact Dt2.i
    | with_reducible exact Dt2.l
    | with_reducible refine dc_wp_M_in (fun _ _ => ?_)
    | with_reducible refine dt_wq_M_cell_20
    | with_reducible refine Dt2.ite ?_ ?_
    | with_reducible refine Dt2.and ?_
    | with_reducible refine Dt2.ex (fun _ _ => ?_)
theorem dc_wp_M_cell {P R : Type} {ev : P → R → Prop} {B C : P → Int32 → StM → Prop} {S : StM} {a0 : Int32} (h : ∀ (r1 : Int32) (S1 : StM), Dt2 ev (fun p => B p r1 S1) (fun p => C p r1 S1)) : Dt2 ev (fun p => wp_M_cell (B p) S a0) (fun p => wp_M_cell (C p) S a0) := fun p q hp hq => by
  obtain ⟨x, h1, h1q, h2⟩ := dt_wp_M_cell (B p) (C q) hp hq
  obtain ⟨y, h3, h3q, h4⟩ := h x.1 x.2 p q h1 h1q
  exact ⟨y, h3, h3q, fun q hq => h2 (B q) (h4 q hq)⟩
theorem dt_wq_M_disk_34 {S : StM} {t0 : Int32} : Dt2 evI (fun p => wq_M_disk_34 p S t0) (fun p => wq_M_disk_34 p S t0) := by
  unfold wq_M_disk_34
  repeat' first
    | with_reducible exact Dt2.noL
    | with_reducible exact Dt2.noR
    | with_reducible exact Dt2.v
    | with_reducible exact Dt2.i
    | with_reducible exact Dt2.l
    | with_reducible refine Dt2.ite ?_ ?_
    | with_reducible refine Dt2.and ?_
    | with_reducible refine Dt2.ex (fun _ _ => ?_)
theorem dt_wq_M_disk_33 {S : StM} : Dt2 evI (fun p => wq_M_disk_33 p S) (fun p => wq_M_disk_33 p S) := by
  unfold wq_M_disk_33
  repeat' first
    | with_reducible exact Dt2.noL
    | with_reducible exact Dt2.noR
    | with_reducible exact Dt2.v
    | with_reducible exact Dt2.i
    | with_reducible exact Dt2.l
    | with_reducible refine dt_wq_M_disk_34
    | with_reducible refine Dt2.ite ?_ ?_
    | with_reducible refine Dt2.and ?_
    | with_reducible refine Dt2.ex (fun _ _ => ?_)
theorem dt_wp_M_disk {S : StM} {a0 : Int32} {a1 : Int32} : Dt2 evI (fun p => wp_M_disk p S a0 a1) (fun p => wp_M_disk p S a0 a1) := by
  unfold wp_M_disk
  repeat' first
    | with_reducible exact Dt2.noL
    | with_reducible exact Dt2.noR
    | with_reducible exact Dt2.v
    | with_reducible exact Dt2.i
    | with_reducible exact Dt2.l
    | with_reducible refine dc_wp_M_in (fun _ _ => ?_)
    | with_reducible refine dt_wq_M_disk_34
    | with_reducible refine dt_wq_M_disk_33
    | with_reducible refine Dt2.ite ?_ ?_
    | with_reducible refine Dt2.and ?_
    | with_reducible refine Dt2.ex (fun _ _ => ?_)
theorem dc_wp_M_disk {P R : Type} {ev : P → R → Prop} {B C : P → Int32 → StM → Prop} {S : StM} {a0 : Int32} {a1 : Int32} (h : ∀ (r1 : Int32) (S1 : StM), Dt2 ev (fun p => B p r1 S1) (fun p => C p r1 S1)) : Dt2 ev (fun p => wp_M_disk (B p) S a0 a1) (fun p => wp_M_disk (C p) S a0 a1) := fun p q hp hq => by
  obtain ⟨x, h1, h1q, h2⟩ := dt_wp_M_disk (B p) (C q) hp hq
  obtain ⟨y, h3, h3q, h4⟩ := h x.1 x.2 p q h1 h1q
  exact ⟨y, h3, h3q, fun q hq => h2 (B q) (h4 q hq)⟩
theorem dt_wq_M_items_29 {S : StM} {t0 : Int32} : Dt2 evI (fun p => wq_M_items_29 p S t0) (fun p => wq_M_items_29 p S t0) := by
  unfold wq_M_items_29
  repeat' first
    | with_reducible exact Dt2.noL
    | with_reducible exact Dt2.noR
    | with_reducible exact Dt2.v
    | with_reducible exact Dt2.i
    | with_reducible exact Dt2.l
    | with_reducible refine Dt2.ite ?_ ?_
    | with_reducible refine Dt2.and ?_
    | with_reducible refine Dt2.ex (fun _ _ => ?_)
theorem dt_wp_M_items {S : StM} {a0 : Int32} : Dt2 evI (fun p => wp_M_items p S a0) (fun p => wp_M_items p S a0) := by
  unfold wp_M_items
  repeat' first
    | with_reducible exact Dt2.noL
    | with_reducible exact Dt2.noR
    | with_reducible exact Dt2.v
    | with_reducible exact Dt2.i
    | with_reducible exact Dt2.l
    | with_reducible refine dc_wp_M_in (fun _ _ => ?_)
    | with_reducible refine dt_wq_M_items_29
    | with_reducible refine Dt2.ite ?_ ?_
    | with_reducible refine Dt2.and ?_
    | with_reducible refine Dt2.ex (fun _ _ => ?_)
theorem dc_wp_M_items {P R : Type} {ev : P → R → Prop} {B C : P → Int32 → StM → Prop} {S : StM} {a0 : Int32} (h : ∀ (r1 : Int32) (S1 : StM), Dt2 ev (fun p => B p r1 S1) (fun p => C p r1 S1)) : Dt2 ev (fun p => wp_M_items (B p) S a0) (fun p => wp_M_items (C p) S a0) := fun p q hp hq => by
  obtain ⟨x, h1, h1q, h2⟩ := dt_wp_M_items (B p) (C q) hp hq
  obtain ⟨y, h3, h3q, h4⟩ := h x.1 x.2 p q h1 h1q
  exact ⟨y, h3, h3q, fun q hq => h2 (B q) (h4 q hq)⟩
theorem dt_wq_M_buffer_46 {S : StM} {t0 : Int32} : Dt2 evI (fun p => wq_M_buffer_46 p S t0) (fun p => wq_M_buffer_46 p S t0) := by
  unfold wq_M_buffer_46
  repeat' first
    | with_reducible exact Dt2.noL
    | with_reducible exact Dt2.noR
    | with_reducible exact Dt2.v
    | with_reducible exact Dt2.i
    | with_reducible exact Dt2.l
    | with_reducible refine Dt2.ite ?_ ?_
    | with_reducible refine Dt2.and ?_
    | with_reducible refine Dt2.ex (fun _ _ => ?_)
theorem dt_wq_M_buffer_45 {S : StM} : Dt2 evI (fun p => wq_M_buffer_45 p S) (fun p => wq_M_buffer_45 p S) := by
  unfold wq_M_buffer_45
  repeat' first
    | with_reducible exact Dt2.noL
    | with_reducible exact Dt2.noR
    | with_reducible exact Dt2.v
    | with_reducible exact Dt2.i
    | with_reducible exact Dt2.l
    | with_reducible refine dt_wq_M_buffer_46
    | with_reducible refine Dt2.ite ?_ ?_
    | with_reducible refine Dt2.and ?_
    | with_reducible refine Dt2.ex (fun _ _ => ?_)
theorem dt_wq_M_buffer_41 {S : StM} {t0 : Int32} {t1 : Int32} : Dt2 evI (fun p => wq_M_buffer_41 p S t0 t1) (fun p => wq_M_buffer_41 p S t0 t1) := by
  unfold wq_M_buffer_41
  repeat' first
    | with_reducible exact Dt2.noL
    | with_reducible exact Dt2.noR
    | with_reducible exact Dt2.v
    | with_reducible exact Dt2.i
    | with_reducible exact Dt2.l
    | with_reducible refine dt_wq_M_buffer_46
    | with_reducible refine Dt2.ite ?_ ?_
    | with_reducible refine Dt2.and ?_
    | with_reducible refine Dt2.ex (fun _ _ => ?_)
theorem dt_wp_M_buffer {S : StM} {a0 : Int32} : Dt2 evI (fun p => wp_M_buffer p S a0) (fun p => wp_M_buffer p S a0) := by
  unfold wp_M_buffer
  repeat' first
    | with_reducible exact Dt2.noL
    | with_reducible exact Dt2.noR
    | with_reducible exact Dt2.v
    | with_reducible exact Dt2.i
    | with_reducible exact Dt2.l
    | with_reducible refine dc_wp_M_in (fun _ _ => ?_)
    | with_reducible refine dt_wq_M_buffer_45
    | with_reducible refine dt_wq_M_buffer_41
    | with_reducible refine Dt2.ite ?_ ?_
    | with_reducible refine Dt2.and ?_
    | with_reducible refine Dt2.ex (fun _ _ => ?_)
theorem dc_wp_M_buffer {P R : Type} {ev : P → R → Prop} {B C : P → Int32 → StM → Prop} {S : StM} {a0 : Int32} (h : ∀ (r1 : Int32) (S1 : StM), Dt2 ev (fun p => B p r1 S1) (fun p => C p r1 S1)) : Dt2 ev (fun p => wp_M_buffer (B p) S a0) (fun p => wp_M_buffer (C p) S a0) := fun p q hp hq => by
  obtain ⟨x, h1, h1q, h2⟩ := dt_wp_M_buffer (B p) (C q) hp hq
  obtain ⟨y, h3, h3q, h4⟩ := h x.1 x.2 p q h1 h1q
  exact ⟨y, h3, h3q, fun q hq => h2 (B q) (h4 q hq)⟩
