def nmA (ws : List Wd) (k : Nat) : List Int32 := if k < 52 then bytJ.getD k [] else match ws[k - 52]? with
  | some w => w.nm
  | none => []
/-- the last place below n whose name is l -/
def fd (f : Nat → List Int32) (l : List Int32) : Nat → Option Nat
  | 0 => none
  | j + 1 => if f j = l then some j else fd f l j
def numT (k : Nat) : Nat := if k < 52 then k else 48 + k
def fdE : Option Nat → Int32
  | none => -1
  | some k => Int32.ofNat (numT k)
def nmOK (l : List Int32) : Prop := 1 ≤ l.length ∧ l.length ≤ 9 ∧ ∀ c ∈ l, okB c
/-- the word that a token names -/
def findA (ws : List Wd) (l : List Int32) : Option Nat := if isNameL l = true then (fd (nmA ws) l (52 + ws.length)).map numT else none
def fE : Option Nat → Int32
  | none => -1
  | some t => Int32.ofNat t
theorem lg_cmp0 (x y : Int64) : (lg_cmp x y = 0) ↔ x = y := by
  unfold lg_cmp
  by_cases h : x > y
  · rw [if_pos h]
    refine ⟨fun z => absurd z (by decide), fun z => ?_⟩
    rw [z] at h
    exact absurd h (Int64.lt_irrefl)
  · rw [if_neg h]
    by_cases e : x = y
    · rw [if_pos e]
      exact ⟨fun _ => e, fun _ => rfl⟩
    · rw [if_neg e]
      exact ⟨fun z => absurd z (by decide), fun z => absurd z e⟩
theorem okB_dec (v : Int32) : okB v ↔ (¬ v < 32 ∧ ¬ 126 < v) := by
  constructor
  · intro h
    refine ⟨fun z => okB_no (Or.inl z) h, fun z => okB_no (Or.inr z) h⟩
  · intro h
    exact okB_iff h.1 h.2
theorem bytJ_ok : ∀ k, k < 52 → nmOK (bytJ.getD k []) := by
  have h : ∀ k, k < 52 → (1 ≤ (bytJ.getD k []).length ∧ (bytJ.getD k []).length ≤ 9 ∧ ∀ c ∈ bytJ.getD k [], (¬ c < 32 ∧ ¬ 126 < c)) := by decide +kernel
  intro k hk
  obtain ⟨h1, h2, h3⟩ := h k hk
  exact ⟨h1, h2, fun c hc => (okB_dec c).mpr (h3 c hc)⟩
theorem bytJ_key : ∀ k, k < 52 → nmL.getD k 0 = keyN (bytJ.getD k []) := by decide +kernel
theorem nm_at {A : Ab} {T : StM} (h : RM A T) (hw : ∀ w ∈ A.ws, nmOK w.nm) {k : Nat} (hk : k < 52 + A.ws.length) : T.2.2 k = keyN (nmA A.ws k) ∧ nmOK (nmA A.ws k) := by
  unfold nmA
  by_cases e : k < 52
  · rw [if_pos e, h.namE k e]
    exact ⟨bytJ_key k e, bytJ_ok k e⟩
  · rw [if_neg e]
    have hlt : k - 52 < A.ws.length := by omega
    rw [List.getElem?_eq_getElem hlt]
    have h1 := h.wsE (k - 52) _ (List.getElem?_eq_getElem hlt)
    have h2 := h1.nm
    rw [show 52 + (k - 52) = k by omega] at h2
    exact ⟨h2, hw _ (List.getElem_mem hlt)⟩
theorem m_find_loop {A : Ab} {T : StM} {Q : Int32 → StM → Prop} {l : List Int32} (h : RM A T) (hw : ∀ w ∈ A.ws, nmOK w.nm) (hl : nmOK l) (k : Q (fdE (fd (nmA A.ws) l (52 + A.ws.length))) T) : ∀ (d j : Nat), j + d = 52 + A.ws.length → wq_M_find_19 Q (d + 1) T (keyN l) (fdE (fd (nmA A.ws) l j)) (Int32.ofNat j)
  | 0, j, hj => by
    have hB := h.madeB
    have e52 : 52 + T.1 20 = Int32.ofNat (52 + A.ws.length) := by
      rw [h.madeE]
      exact n_add 52 A.ws.length
    have e : j = 52 + A.ws.length := by omega
    subst e
    refine ⟨fun _ => k, fun z => absurd ?_ z⟩
    rw [e52, n_le (by omega) (by omega)]
    exact Nat.le_refl _
  | d + 1, j, hj => by
    have hB := h.madeB
    have e52 : 52 + T.1 20 = Int32.ofNat (52 + A.ws.length) := by
      rw [h.madeE]
      exact n_add 52 A.ws.length
    have hlt : j < 52 + A.ws.length := by omega
    obtain ⟨hn, ho⟩ := nm_at h hw hlt
    refine ⟨fun z => ?_, fun _ => ⟨n_in (by omega) (by omega), fun z => ?_, fun z => ?_⟩⟩
    · rw [e52, n_le (by omega) (by omega)] at z
      omega
    · rw [n_cl (by omega), lg_cmp0, hn] at z
      have ee : nmA A.ws j = l := keyN_inj ho.2.2 hl.2.2 ho.2.1 hl.2.1 z
      have ef : fd (nmA A.ws) l (j + 1) = some j := by rw [fd, if_pos ee]
      have ih := m_find_loop h hw hl k d (j + 1) (by omega)
      rw [ef] at ih
      unfold wq_M_find_64
      rw [of_succ]
      refine ⟨fun y => ?_, fun y => ?_⟩
      · rw [r_le (by decide) (by omega)] at y
        have : fdE (some j) = 48 + Int32.ofNat j := by
          show Int32.ofNat (numT j) = _
          rw [numT, if_neg (by omega)]
          exact (n_add 48 j).symm
        rw [this] at ih
        exact ih
      · rw [r_le (by decide) (by omega)] at y
        have : fdE (some j) = Int32.ofNat j := by
          show Int32.ofNat (numT j) = _
          rw [numT, if_pos (by omega)]
        rw [this] at ih
        exact ih
    · rw [n_cl (by omega), lg_cmp0, hn] at z
      have ef : fd (nmA A.ws) l (j + 1) = fd (nmA A.ws) l j := by
        rw [fd, if_neg (fun q => z (by rw [q]))]
      have ih := m_find_loop h hw hl k d (j + 1) (by omega)
      rw [ef] at ih
      unfold wq_M_find_64
      rw [of_succ]
      exact ih
theorem isNameL_len {l : List Int32} (h : isNameL l = true) : 1 ≤ l.length ∧ l.length ≤ 9 ∧ isNumL l = false := by
  rw [isNameL, Bool.and_eq_true, decide_eq_true_eq] at h
  exact ⟨h.1.1, h.1.2, by simpa using h.2⟩
theorem m_find {A : Ab} {T : StM} {Q : Int32 → StM → Prop} {l : List Int32} (h : RM A T) (hw : ∀ w ∈ A.ws, nmOK w.nm) (ht : TkM T l) (hl : ∀ c ∈ l, okB c) (k : Q (fE (findA A.ws l)) T) : wp_M_find Q T := by
  unfold wp_M_find
  refine m_isName ht ?_
  cases e : isNameL l with
  | false =>
    refine ⟨fun _ => ?_, fun z => absurd rfl z⟩
    rw [findA, e] at k
    exact k
  | true =>
    refine ⟨fun z => absurd z (by decide), fun _ => m_key ht ⟨52 + A.ws.length + 1, ?_⟩⟩
    obtain ⟨h1, h2, -⟩ := isNameL_len e
    refine m_find_loop h hw ⟨h1, h2, hl⟩ ?_ (52 + A.ws.length) 0 (by omega)
    rw [findA, if_pos e] at k
    cases e2 : fd (nmA A.ws) l (52 + A.ws.length) with
    | none =>
      rw [e2] at k
      exact k
    | some j =>
      rw [e2] at k
      exact k
theorem fd_some {f : Nat → List Int32} {l : List Int32} : ∀ {n j : Nat}, fd f l n = some j → j < n ∧ f j = l
  | 0, j, h => by cases h
  | n + 1, j, h => by
    rw [fd] at h
    by_cases e : f n = l
    · rw [if_pos e] at h
      cases h
      exact ⟨Nat.lt_succ_self _, e⟩
    · rw [if_neg e] at h
      have := fd_some h
      exact ⟨by omega, this.2⟩
theorem findA_lt {ws : List Wd} {l : List Int32} {t : Nat} (h : findA ws l = some t) : t < 52 ∨ (100 ≤ t ∧ t < 100 + ws.length) := by
  rw [findA] at h
  split at h
  · cases e : fd (nmA ws) l (52 + ws.length) with
    | none => rw [e] at h; cases h
    | some j =>
      rw [e] at h
      have h : some (numT j) = some t := h
      cases h
      have := (fd_some e).1
      unfold numT
      split <;> omega
  · cases h
/-! going to the next token -/
def sk : List Int32 → Nat
  | [] => 0
  | c :: l => if c = 32 then sk l + 1 else 0
def nb : List Int32 → Nat
  | [] => 0
  | c :: l => if c = 32 then 0 else nb l + 1
theorem sk_le : ∀ l : List Int32, sk l ≤ l.length
  | [] => Nat.le_refl _
  | c :: l => by
    have := sk_le l
    rw [sk]
    split <;> simp <;> omega
theorem nb_le : ∀ l : List Int32, nb l ≤ l.length
  | [] => Nat.le_refl _
  | c :: l => by
    have := nb_le l
    rw [nb]
    split <;> simp <;> omega
def tkO (A : Ab) : Nat := A.pos + sk (A.tx.drop A.pos)
def tlO (A : Ab) : Nat := nb (A.tx.drop (tkO A))
def nextT (A : Ab) : Ab := (Ab.set_tl (Ab.set_tk (Ab.set_pos A (tkO A + tlO A)) (tkO A)) (tlO A))
def tokL (A : Ab) : List Int32 := (A.tx.drop A.tk).take A.tl
theorem tkO_le {A : Ab} (h : A.pos ≤ A.tx.length) : tkO A ≤ A.tx.length := by
  have := sk_le (A.tx.drop A.pos)
  unfold tkO
  simp at this
  omega
theorem nextT_le {A : Ab} (h : A.pos ≤ A.tx.length) : tkO A + tlO A ≤ A.tx.length := by
  have h1 := tkO_le h
  have h2 := nb_le (A.tx.drop (tkO A))
  unfold tlO
  simp at h2
  omega
theorem tok_tk {A : Ab} {T : StM} (h : RMw A T) (hB : A.tk + A.tl ≤ A.tx.length) : TkM T (tokL A) := by
  have hX := h.txB
  have hl : (tokL A).length = A.tl := by
    unfold tokL
    simp
    omega
  refine ⟨A.tk, h.tkE, by rw [hl]; omega, by rw [hl]; exact h.tlE, fun i c hc => h.txC _ c ?_⟩
  have hi : i < A.tl := by
    rcases Nat.lt_or_ge i A.tl with h' | h'
    · exact h'
    · rw [List.getElem?_eq_none (by omega)] at hc
      cases hc
  unfold tokL at hc
  rw [List.getElem?_take_of_lt hi, List.getElem?_drop] at hc
  exact hc
theorem tok_ok {A : Ab} {T : StM} (h : RMw A T) : ∀ c ∈ tokL A, okB c := fun c hc => h.txO c (List.mem_of_mem_drop (List.mem_of_mem_take hc))
theorem tok_len {A : Ab} (hB : A.tk + A.tl ≤ A.tx.length) : (tokL A).length = A.tl := by
  unfold tokL
  simp
  omega
theorem m_next_b {A : Ab} {Q : Int32 → StM → Prop} {p : Nat} : ∀ (l : List Int32) (T : StM) (q : Nat), RM (Ab.set_tk (Ab.set_pos A (q)) (p)) T → p ≤ q → A.tx.drop q = l → (∀ T', RM (Ab.set_tl (Ab.set_tk (Ab.set_pos A (q + nb l)) (p)) (q + nb l - p)) T' → Q (bE (decide (0 < q + nb l - p))) T') → wq_M_nextToken_46 Q (l.length + 1) T
  | l, T, q, h, hp, hl, k => by
    have hX := h.txB
    have hPB := h.posB
    have hX1 : A.tx.length ≤ 120 := hX
    have hPB1 : q ≤ A.tx.length := hPB
    have eP : T.1 2 = Int32.ofNat q := h.posE
    have eT : T.1 3 = Int32.ofNat p := h.tkE
    have eX : T.1 1 = Int32.ofNat A.tx.length := h.txE
    have hC : ∀ i c, A.tx[i]? = some c → T.2.1 0 i = c := h.txC
    have stop : nb l = 0 → wq_M_nextToken_84 Q T := by
      intro e0
      rw [e0] at k
      have es : T.1 2 - T.1 3 = Int32.ofNat (q - p) := by rw [eP, eT, n_sub hp]
      unfold wq_M_nextToken_84 wq_M_nextToken_109
      rw [es, l_le (by omega) (by decide)]
      have hr := k (upd T.1 4 (Int32.ofNat (q - p)), T.2) (RM.mk (h.hereE) (h.hereB) (h.memE) (h.prE) (h.prB) (h.pbB) (h.outE) (h.fuE) (h.blkE) (h.hasE) (h.hasB) (h.upE) (h.toldE) (h.toldB) (h.upB) (h.toldH) (h.madeE) (h.madeB) (h.wsE) (h.namE) (h.txE) (h.txB) (h.txC) (h.txO) (h.posE) (h.posB) (h.tkE) (rfl) (h.err) (h.dsE) (h.dsB) (h.dsS) (h.rsE) (h.rsB) (h.rsS) (h.csE) (h.csB) (h.csS) (h.csW) (h.drE) (h.drW) (h.opE) (h.opB) (h.opK) (h.opA))
      refine ⟨fun z => ⟨rfl, ?_⟩, fun z => ⟨rfl, ?_⟩⟩
      · rw [decide_eq_false (by omega)] at hr
        exact hr
      · rw [decide_eq_true (by omega)] at hr
        exact hr
    match l, hl with
    | [], hl =>
      have hq : A.tx.length ≤ q := List.drop_eq_nil_iff.mp hl
      refine ⟨fun _ => stop rfl, fun z => absurd ?_ z⟩
      rw [eX, eP, n_le (by omega) (by omega)]
      exact hq
    | c :: l, hl =>
      have hq : q < A.tx.length := by
        rcases Nat.lt_or_ge q A.tx.length with h' | h'
        · exact h'
        · rw [List.drop_eq_nil_of_le h'] at hl
          cases hl
      have hc : A.tx[q]? = some c := by
        have := congrArg (fun x => x[0]?) hl
        simpa using this
      have hd : A.tx.drop (q + 1) = l := by
        have := congrArg List.tail hl
        simpa using this
      have e0 : T.2.1 0 (T.1 2).toNatClampNeg = c := by rw [eP, n_cl (by omega)]; exact hC q c hc
      rw [show (c :: l).length + 1 = (l.length + 1) + 1 from rfl]
      refine ⟨fun z => ?_, fun _ => ⟨?_, fun z => ?_, fun z => ?_⟩⟩
      · rw [eX, eP, n_le (by omega) (by omega)] at z
        omega
      · rw [eP]
        exact n_in (by omega) (by omega)
      · rw [e0] at z
        exact stop (by rw [nb, if_pos z])
      · rw [e0] at z
        have en : nb (c :: l) = nb l + 1 := by rw [nb, if_neg z]
        rw [en] at k
        have e1 : T.1 2 + 1 = Int32.ofNat (q + 1) := by rw [eP, of_succ]
        rw [e1]
        refine m_next_b l _ (q + 1) (RM.mk (h.hereE) (h.hereB) (h.memE) (h.prE) (h.prB) (h.pbB) (h.outE) (h.fuE) (h.blkE) (h.hasE) (h.hasB) (h.upE) (h.toldE) (h.toldB) (h.upB) (h.toldH) (h.madeE) (h.madeB) (h.wsE) (h.namE) (h.txE) (h.txB) (h.txC) (h.txO) (rfl) (hq) (h.tkE) (h.tlE) (h.err) (h.dsE) (h.dsB) (h.dsS) (h.rsE) (h.rsB) (h.rsS) (h.csE) (h.csB) (h.csS) (h.csW) (h.drE) (h.drW) (h.opE) (h.opB) (h.opK) (h.opA)) (by omega) hd (fun T' h' => ?_)
        have := k T' (by
          rw [show q + (nb l + 1) = q + 1 + nb l by omega]
          exact h')
        rw [show q + (nb l + 1) = q + 1 + nb l by omega] at this
        exact this
theorem m_next_a {A : Ab} {Q : Int32 → StM → Prop} : ∀ (l : List Int32) (T : StM) (q : Nat), RM (Ab.set_pos A (q)) T → A.tx.drop q = l → (∀ T', RM (Ab.set_tl (Ab.set_tk (Ab.set_pos A (q + sk l + nb (A.tx.drop (q + sk l)))) (q + sk l)) (nb (A.tx.drop (q + sk l)))) T' → Q (bE (decide (0 < nb (A.tx.drop (q + sk l))))) T') → wq_M_nextToken_0 Q (l.length + 1) T
  | l, T, q, h, hl, k => by
    have hX1 : A.tx.length ≤ 120 := h.txB
    have hPB1 : q ≤ A.tx.length := h.posB
    have eP : T.1 2 = Int32.ofNat q := h.posE
    have eX : T.1 1 = Int32.ofNat A.tx.length := h.txE
    have hC : ∀ i c, A.tx[i]? = some c → T.2.1 0 i = c := h.txC
    have stop : sk l = 0 → wq_M_nextToken_38 Q T := by
      intro e0
      rw [e0, Nat.add_zero, hl] at k
      refine ⟨l.length + 1, m_next_b (A := A) (p := q) l _ q (RM.mk (h.hereE) (h.hereB) (h.memE) (h.prE) (h.prB) (h.pbB) (h.outE) (h.fuE) (h.blkE) (h.hasE) (h.hasB) (h.upE) (h.toldE) (h.toldB) (h.upB) (h.toldH) (h.madeE) (h.madeB) (h.wsE) (h.namE) (h.txE) (h.txB) (h.txC) (h.txO) (h.posE) (h.posB) (?_) (h.tlE) (h.err) (h.dsE) (h.dsB) (h.dsS) (h.rsE) (h.rsB) (h.rsS) (h.csE) (h.csB) (h.csS) (h.csW) (h.drE) (h.drW) (h.opE) (h.opB) (h.opK) (h.opA)) (Nat.le_refl _) hl (fun T' h' => ?_)⟩
      · exact eP
      · have : q + nb l - q = nb l := by omega
        rw [this] at h' ⊢
        exact k T' h'
    match l, hl with
    | [], hl =>
      have hq : A.tx.length ≤ q := List.drop_eq_nil_iff.mp hl
      refine ⟨fun _ => stop rfl, fun z => absurd ?_ z⟩
      rw [eX, eP, n_le (by omega) (by omega)]
      exact hq
    | c :: l, hl =>
      have hq : q < A.tx.length := by
        rcases Nat.lt_or_ge q A.tx.length with h' | h'
        · exact h'
        · rw [List.drop_eq_nil_of_le h'] at hl
          cases hl
      have hc : A.tx[q]? = some c := by
        have := congrArg (fun x => x[0]?) hl
        simpa using this
      have hd : A.tx.drop (q + 1) = l := by
        have := congrArg List.tail hl
        simpa using this
      have e0 : T.2.1 0 (T.1 2).toNatClampNeg = c := by rw [eP, n_cl (by omega)]; exact hC q c hc
      rw [show (c :: l).length + 1 = (l.length + 1) + 1 from rfl]
      refine ⟨fun z => ?_, fun _ => ⟨?_, fun z => ?_, fun z => ?_⟩⟩
      · rw [eX, eP, n_le (by omega) (by omega)] at z
        omega
      · rw [eP]
        exact n_in (by omega) (by omega)
      · rw [e0] at z
        have en : sk (c :: l) = sk l + 1 := by rw [sk, if_pos z]
        rw [en] at k
        have e1 : T.1 2 + 1 = Int32.ofNat (q + 1) := by rw [eP, of_succ]
        rw [e1]
        refine m_next_a l _ (q + 1) (RM.mk (h.hereE) (h.hereB) (h.memE) (h.prE) (h.prB) (h.pbB) (h.outE) (h.fuE) (h.blkE) (h.hasE) (h.hasB) (h.upE) (h.toldE) (h.toldB) (h.upB) (h.toldH) (h.madeE) (h.madeB) (h.wsE) (h.namE) (h.txE) (h.txB) (h.txC) (h.txO) (rfl) (hq) (h.tkE) (h.tlE) (h.err) (h.dsE) (h.dsB) (h.dsS) (h.rsE) (h.rsB) (h.rsS) (h.csE) (h.csB) (h.csS) (h.csW) (h.drE) (h.drW) (h.opE) (h.opB) (h.opK) (h.opA)) hd (fun T' h' => ?_)
        rw [show q + (sk l + 1) = q + 1 + sk l by omega] at k
        exact k T' h'
      · rw [e0] at z
        exact stop (by rw [sk, if_neg z])
theorem m_next {A : Ab} {T : StM} {Q : Int32 → StM → Prop} (h : RM A T) (k : ∀ T', RM (nextT A) T' → Q (bE (decide (0 < (nextT A).tl))) T') : wp_M_nextToken Q T :=
  ⟨(A.tx.drop A.pos).length + 1, m_next_a (A.tx.drop A.pos) T A.pos h rfl k⟩
