/-! making words -/
theorem c_init {g : Gm} {S : StC} {post : StC → Prop} {q1 a0 : Nat} (hq1 : q1 ∉ S.2.2.2.2.2.1) (k : ∀ (q2 q3 : Nat) (F' : Nat → va_E), q2 ∉ S.2.2.2.2.2.1 → q3 ∉ S.2.2.2.2.2.1 → q1 ≠ q2 → q1 ≠ q3 → q2 ≠ q3 → F' q1 = .inr (11, [.ref a0, .ref q2, .ref q3, .int 0, .int 0]) → F' q2 = .inl (g.2.1 0, 60, .inl (fun _ => 0)) → F' q3 = .inl (g.2.1 0, 60, .inl (fun _ => 0)) → (∀ a, a ∈ S.2.2.2.2.2.1 → F' a = S.2.2.2.2.2.2 a) → post (S.1, S.2.1, S.2.2.1, S.2.2.2.1, S.2.2.2.2.1, ((S.2.2.2.2.2.1 ++ [q1]) ++ [q2]) ++ [q3], F')) : wp_Mw_init g post 2 120 (S.1, S.2.1, S.2.2.1, S.2.2.2.1, S.2.2.2.2.1, S.2.2.2.2.2.1 ++ [q1], va_up S.2.2.2.2.2.2 q1 (.inr (11, [.null, .null, .null, .int 0, .int 0]))) q1 a0 := by
  have e60 : Int32.toNatClampNeg 60 = 60 := rfl
  have m1 : q1 ∈ S.2.2.2.2.2.1 ++ [q1] := List.mem_append_right _ (List.mem_singleton.mpr rfl)
  unfold wp_Mw_init
  rw [e60]
  refine ⟨by decide, by omega, by omega, by omega, fun q2 hq2 => ?_⟩
  have h2L : q2 ∉ S.2.2.2.2.2.1 := fun z => hq2 (List.mem_append_left _ z)
  have n12 : q1 ≠ q2 := fun z => hq2 (z ▸ m1)
  have m2 : q1 ∈ (S.2.2.2.2.2.1 ++ [q1]) ++ [q2] := List.mem_append_left _ m1
  have g2 : va_up (va_up S.2.2.2.2.2.2 q1 (.inr (11, [.null, .null, .null, .int 0, .int 0]))) q2 (.inl (g.2.1 0, 60, .inl (fun _ => 0))) q1 = .inr (11, [.null, .null, .null, .int 0, .int 0]) := by rw [va_up_ne _ _ n12, va_up_self]
  refine ⟨[.null, .null, .null, .int 0, .int 0], m2, g2, (show 1 < 5 by decide), by decide, by omega, by omega, by omega, fun q3 hq3 => ?_⟩
  have h3L : q3 ∉ S.2.2.2.2.2.1 := fun z => hq3 (List.mem_append_left _ (List.mem_append_left _ z))
  have n13 : q1 ≠ q3 := fun z => hq3 (z ▸ m2)
  have n23 : q2 ≠ q3 := fun z => hq3 (z ▸ List.mem_append_right _ (List.mem_singleton.mpr rfl))
  have m3 : q1 ∈ ((S.2.2.2.2.2.1 ++ [q1]) ++ [q2]) ++ [q3] := List.mem_append_left _ m2
  have g3 : va_up (va_up (va_up (va_up S.2.2.2.2.2.2 q1 (.inr (11, [.null, .null, .null, .int 0, .int 0]))) q2 (.inl (g.2.1 0, 60, .inl (fun _ => 0)))) q1 (.inr (11, [.null, .ref q2, .null, .int 0, .int 0]))) q3 (.inl (g.2.1 0, 60, .inl (fun _ => 0))) q1 = .inr (11, [.null, .ref q2, .null, .int 0, .int 0]) := by rw [va_up_ne _ _ n13, va_up_self]
  refine ⟨[.null, .ref q2, .null, .int 0, .int 0], m3, g3, (show 2 < 5 by decide), [.null, .ref q2, .ref q3, .int 0, .int 0], m3, va_up_self _ _ _, (show 0 < 5 by decide), ?_⟩
  · refine k q2 q3 _ h2L h3L n12 n13 n23 (va_up_self _ _ _) ?_ ?_ (fun a ha => ?_)
    · rw [va_up_ne _ _ n12.symm, va_up_ne _ _ n12.symm, va_up_ne _ _ n23, va_up_ne _ _ n12.symm, va_up_self]
    · rw [va_up_ne _ _ n13.symm, va_up_ne _ _ n13.symm, va_up_self]
    · have a1 : a ≠ q1 := fun z => hq1 (z ▸ ha)
      have a2 : a ≠ q2 := fun z => h2L (z ▸ ha)
      have a3 : a ≠ q3 := fun z => h3L (z ▸ ha)
      rw [va_up_ne _ _ a1, va_up_ne _ _ a1, va_up_ne _ _ a3, va_up_ne _ _ a1, va_up_ne _ _ a2]
      exact va_up_ne _ _ a1
def ro3 (ρ : Nat → Nat × Nat) (q1 q2 q3 m : Nat) : Nat → Nat × Nat := va_up (va_up (va_up ρ q1 (4, m)) q2 (5, m)) q3 (6, m)
theorem ext3 {L : List Nat} {F F' : Nat → va_E} {ρ : Nat → Nat × Nat} {q1 q2 q3 m : Nat} (h1 : q1 ∉ L) (h2 : q2 ∉ L) (h3 : q3 ∉ L) (hF : ∀ a, a ∈ L → F' a = F a) : Ext L F ρ (((L ++ [q1]) ++ [q2]) ++ [q3]) F' (ro3 ρ q1 q2 q3 m) := fun a ha => by
  have a1 : a ≠ q1 := fun z => h1 (z ▸ ha)
  have a2 : a ≠ q2 := fun z => h2 (z ▸ ha)
  have a3 : a ≠ q3 := fun z => h3 (z ▸ ha)
  refine ⟨List.mem_append_left _ (List.mem_append_left _ (List.mem_append_left _ ha)), hF a ha, ?_⟩
  rw [ro3, va_up_ne _ _ a3, va_up_ne _ _ a2, va_up_ne _ _ a1]
theorem pa3 {L : List Nat} {F' : Nat → va_E} {ρ : Nat → Nat × Nat} {q1 q2 q3 m : Nat} {e1 e2 e3 : va_E} (n12 : q1 ≠ q2) (n13 : q1 ≠ q3) (n23 : q2 ≠ q3) (f1 : F' q1 = e1) (f2 : F' q2 = e2) (f3 : F' q3 = e3) : PA (((L ++ [q1]) ++ [q2]) ++ [q3]) F' (ro3 ρ q1 q2 q3 m) q1 (4, m) e1 ∧ PA (((L ++ [q1]) ++ [q2]) ++ [q3]) F' (ro3 ρ q1 q2 q3 m) q2 (5, m) e2 ∧ PA (((L ++ [q1]) ++ [q2]) ++ [q3]) F' (ro3 ρ q1 q2 q3 m) q3 (6, m) e3 := by
  refine ⟨⟨List.mem_append_left _ (List.mem_append_left _ (List.mem_append_right _ (List.mem_singleton.mpr rfl))), ?_, f1⟩, ⟨List.mem_append_left _ (List.mem_append_right _ (List.mem_singleton.mpr rfl)), ?_, f2⟩, ⟨List.mem_append_right _ (List.mem_singleton.mpr rfl), ?_, f3⟩⟩
  · rw [ro3, va_up_ne _ _ n13, va_up_ne _ _ n12, va_up_self]
  · rw [ro3, va_up_ne _ _ n23, va_up_self]
  · rw [ro3, va_up_self]
/-- a new draft -/
theorem c_cobegin {g : Gm} {ρ : Nat → Nat × Nat} {A : Ab} {S : StC} {post : StC → Prop} {a0 : Nat} {l : List Int32} (h : RC g ρ A S) (ha : StrAt g S.2.2.2.2.2.1 S.2.2.2.2.2.2 ρ a0 l) (hm : A.ws.length < 24) (k : ∀ ρ' S', RC g ρ' (Ab.set_op (Ab.set_dr A (some (wd0 l))) ([])) S' → post S') : wp_Co_begin g post 3 125 S a0 := by
  refine ⟨by omega, by omega, fun q1 hq1 => ⟨2, 120, by omega, by omega, c_init hq1 (fun q2 q3 F' h2 h3 n12 n13 n23 f1 f2 f3 hF => ?_)⟩⟩
  have hx := ext3 (ρ := ρ) (m := A.ws.length) hq1 h2 h3 hF
  obtain ⟨p1, p2, p3⟩ := pa3 (L := S.2.2.2.2.2.1) (ρ := ρ) (m := A.ws.length) n12 n13 n23 f1 f2 f3
  have h1 := h.ext hx
  refine k (ro3 ρ q1 q2 q3 A.ws.length) _ (RC.mk (h1.kHere) (h1.kHereB) (h1.kMem) (h1.kPr) (h1.kPrB) (h1.kPbB) (h1.kOut) (h1.kFu) (h1.kHas) (h1.kHasB) (h1.kUp) (h1.kUpB) (h1.kTold) (h1.kToldB) (h1.kToldH) (h1.kMade) (h1.kMadeB) (h1.kWs) (h1.kRows) (h1.kLay) (h1.kPos) (h1.kTk) (h1.kTx) (h1.kBt) (h1.kG) (h1.kDs) (h1.kDsB) (h1.kDsS) (h1.kRs) (h1.kRsB) (h1.kRsS) (h1.kCs) (h1.kCsB) (h1.kCsS) (fun z => (by cases z)) (fun w hw => ?_) (fun _ => rfl) (Nat.zero_le _) (fun _ i x hx => (by cases hx)) (fun _ => trivial))
  cases hw
  exact ⟨hm, q1, rfl, a0, q2, q3, _, _, p1, p2, p3, ha.ext hx, Nat.zero_le _, fun i p hp => (by cases hp)⟩
/-- a new word that puts a number -/
theorem c_numword {g : Gm} {ρ : Nat → Nat × Nat} {A : Ab} {S : StC} {post : StC → Prop} {a0 : Nat} {l : List Int32} {v : Int32} (h : RC g ρ A S) (ha : StrAt g S.2.2.2.2.2.1 S.2.2.2.2.2.2 ρ a0 l) (hm : A.ws.length < 24) (hd : A.dr = none) (hcs : A.cs = []) (k : ∀ ρ' S', RC g ρ' (Ab.set_ws A (A.ws ++ [mkW l v])) S' → post S') : wp_Rd_makeNumberWord g post 3 125 S a0 v := by
  refine ⟨by omega, by omega, fun q1 hq1 => ⟨2, 120, by omega, by omega, c_init hq1 (fun q2 q3 F' h2 h3 n12 n13 n23 f1 f2 f3 hF => ?_)⟩⟩
  obtain ⟨p1, p2, p3⟩ := pa3 (L := S.2.2.2.2.2.1) (ρ := ρ) (m := A.ws.length) n12 n13 n23 f1 f2 f3
  refine ⟨_, p1.1, p1.2.2, ?_⟩
  have hin : vp_in 0 60 := n_in (a := 0) (by omega) (by omega)
  have u1 := p1.ne p2 (e2 := .inl (g.2.1 0, 60, .inl (upd (fun _ => 0) 0 0))) (n_pair (by decide))
  have u2 := p2.put (e' := .inl (g.2.1 0, 60, .inl (upd (fun _ => 0) 0 0)))
  have u3 := p3.ne p2 (e2 := .inl (g.2.1 0, 60, .inl (upd (fun _ => 0) 0 0))) (n_pair (by decide))
  have v1 := u1.ne u3 (e2 := .inl (g.2.1 0, 60, .inl (upd (fun _ => 0) 0 v))) (n_pair (by decide))
  have v2 := u2.ne u3 (e2 := .inl (g.2.1 0, 60, .inl (upd (fun _ => 0) 0 v))) (n_pair (by decide))
  have v3 := u3.put (e' := .inl (g.2.1 0, 60, .inl (upd (fun _ => 0) 0 v)))
  have w1' := v1.put (e' := .inr (11, [.ref a0, .ref q2, .ref q3, .int 1, .int 0]))
  have w2' := v2.ne v1 (e2 := .inr (11, [.ref a0, .ref q2, .ref q3, .int 1, .int 0])) (n_pair (by decide))
  have w3' := v3.ne v1 (e2 := .inr (11, [.ref a0, .ref q2, .ref q3, .int 1, .int 0])) (n_pair (by decide))
  unfold wp_Mw_add wq_Mw_add_39
  refine ⟨_, _, p1.1, p1.2.2, rfl, fun z => absurd z (by decide), fun _ => ⟨_, _, p1.1, p1.2.2, rfl, _, _, p1.1, p1.2.2, rfl, 60, _, p2.1, p2.2.2, hin, _, _, u1.1, u1.2.2, rfl, _, _, u1.1, u1.2.2, rfl, 60, _, u3.1, u3.2.2, hin, _, _, v1.1, v1.2.2, rfl, _, v1.1, v1.2.2, (show 3 < 5 by decide), ?_⟩⟩
  have hMB := h.kMadeB
  have eN : (S.1 12).toNatClampNeg = A.ws.length := by rw [h.kMade, n_cl (by omega)]
  refine ⟨fun z => (by cases z), fun y1 e => ?_⟩
  cases e
  refine ⟨fun z => ?_, fun _ => ⟨_, w1'.1, w1'.2.2, ?_, ?_⟩⟩
  · have z : 24 ≤ S.1 12 := z
    rw [h.kMade, r_le (by decide) (by omega)] at z
    omega
  · show vp_in (S.1 12) 24
    rw [h.kMade]
    exact n_in (by omega) (by omega)
  · have hx : Ext S.2.2.2.2.2.1 S.2.2.2.2.2.2 ρ (((S.2.2.2.2.2.1 ++ [q1]) ++ [q2]) ++ [q3]) (va_up (va_up (va_up F' q2 (.inl (g.2.1 0, 60, .inl (upd (fun _ => 0) 0 0)))) q3 (.inl (g.2.1 0, 60, .inl (upd (fun _ => 0) 0 v)))) q1 (.inr (11, [.ref a0, .ref q2, .ref q3, .int 1, .int 0]))) (ro3 ρ q1 q2 q3 A.ws.length) := (((ext3 hq1 h2 h3 hF).put h2).put h3).put hq1
    have h1 := h.ext hx
    have hW : WordAt g (((S.2.2.2.2.2.1 ++ [q1]) ++ [q2]) ++ [q3]) (va_up (va_up (va_up F' q2 (.inl (g.2.1 0, 60, .inl (upd (fun _ => 0) 0 0)))) q3 (.inl (g.2.1 0, 60, .inl (upd (fun _ => 0) 0 v)))) q1 (.inr (11, [.ref a0, .ref q2, .ref q3, .int 1, .int 0]))) (ro3 ρ q1 q2 q3 A.ws.length) A.ws.length q1 (mkW l v) := by
      refine ⟨a0, q2, q3, _, _, w1', w2', w3', ha.ext hx, (show 1 ≤ 60 by decide), fun i p hp => ?_⟩
      have hp : [(1, v)][i]? = some p := hp
      match i with
      | 0 =>
        simp at hp
        subst hp
        exact ⟨upd_at _ _ _, upd_at _ _ _⟩
      | i + 1 => simp at hp
    refine k (ro3 ρ q1 q2 q3 A.ws.length) _ (RC.mk (h1.kHere) (h1.kHereB) (h1.kMem) (h1.kPr) (h1.kPrB) (h1.kPbB) (h1.kOut) (h1.kFu) (h1.kHas) (h1.kHasB) (h1.kUp) (h1.kUpB) (h1.kTold) (h1.kToldB) (h1.kToldH) (?_) (?_) (fun j w hj => ?_) (h1.kRows) (h1.kLay) (h1.kPos) (h1.kTk) (h1.kTx) (h1.kBt) (h1.kG) (h1.kDs) (h1.kDsB) (h1.kDsS) (h1.kRs) (h1.kRsB) (h1.kRsS) (h1.kCs) (h1.kCsB) (?_) (h1.kDr0) (fun w hw => (by rw [show A.dr = some w from hw] at hd; cases hd)) (h1.kOp) (h1.kOpB) (h1.kOpK) (h1.kOpA))
    · show S.1 12 + 1 = Int32.ofNat (A.ws ++ [mkW l v]).length
      rw [h.kMade, of_succ]
      simp
    · show (A.ws ++ [mkW l v]).length ≤ 24
      simp
      omega
    · have hj : (A.ws ++ [mkW l v])[j]? = some w := hj
      show ∃ b, va_up (S.2.2.2.2.1 0) (S.1 12).toNatClampNeg (some q1) j = some b ∧ _
      rw [eN]
      by_cases e : j = A.ws.length
      · subst e
        rw [List.getElem?_append_right (Nat.le_refl _)] at hj
        simp at hj
        subst hj
        exact ⟨q1, va_up_self _ _ _, hW⟩
      · have hi : j < A.ws.length := by
          have := get_lt hj
          simp at this
          omega
        rw [List.getElem?_append_left hi] at hj
        rw [va_up_ne _ _ e]
        exact h1.kWs j w hj
    · show FrC g _ _ _ _ _ A.cs
      rw [hcs]
      trivial
