def isDig (c : Int32) : Bool := decide (¬ c < 48 ∧ ¬ 57 < c)
def sgn (l : List Int32) : Nat := if l.head? = some 45 then 1 else 0
def isNumL (l : List Int32) : Bool := decide (1 ≤ l.length - sgn l ∧ l.length - sgn l ≤ 6) && (l.drop (sgn l)).all isDig
def numV (l : List Int32) : Int32 := l.foldl (fun v c => if c = 45 then v else 10 * v + c - 48) 0
def numL (l : List Int32) : Int32 := if l.head? = some 45 then -numV l else numV l
def isNameL (l : List Int32) : Bool := decide (1 ≤ l.length ∧ l.length ≤ 9) && !isNumL l
/-- the reference's token is l -/
def TkM (T : StM) (l : List Int32) : Prop := (∃ tk, T.1 3 = Int32.ofNat tk ∧ tk + l.length ≤ 120 ∧ T.1 4 = Int32.ofNat l.length ∧ ∀ i c, l[i]? = some c → T.2.1 0 (tk + i) = c)
theorem TkM.h {T : StM} {l : List Int32} (h : TkM T l) : ∃ tk, T.1 3 = Int32.ofNat tk ∧ tk + l.length ≤ 120 ∧ T.1 4 = Int32.ofNat l.length ∧ ∀ i c, l[i]? = some c → T.2.1 0 (tk + i) = c := h
theorem TkM.mk {T : StM} {l : List Int32} (h0 : ∃ tk, T.1 3 = Int32.ofNat tk ∧ tk + l.length ≤ 120 ∧ T.1 4 = Int32.ofNat l.length ∧ ∀ i c, l[i]? = some c → T.2.1 0 (tk + i) = c) : TkM T l := h0
theorem m_dig {Q : Int32 → StM → Prop} {T : StM} {c : Int32} (k : Q (bE (isDig c)) T) : wp_M_in Q T c 48 57 := by
  refine wt_in (fun h => ?_) (fun h1 h2 => ?_)
  · have : isDig c = false := by
      rw [isDig, decide_eq_false_iff_not]
      exact fun q => h.elim q.1 q.2
    rw [this] at k
    exact k
  · have : isDig c = true := by
      rw [isDig, decide_eq_true_eq]
      exact ⟨h1, h2⟩
    rw [this] at k
    exact k
theorem bE_nar (b : Bool) : narrow .boolean (.int (bE b)) = .int (bE b) := by cases b <;> rfl
theorem m_isNum_loop {Q : Int32 → StM → Prop} {T : StM} {l : List Int32} (h : TkM T l) : ∀ (d j : Nat) (g : Bool), j + d = l.length → Q (bE (g && (l.drop j).all isDig)) T → wq_M_isNumber_42 Q (d + 1) T (bE g) (Int32.ofNat j)
  | 0, j, g, hj, k => by
    obtain ⟨tk, e3, hB, e4, hc⟩ := h.h
    have e : l.drop j = [] := List.drop_eq_nil_of_le (by omega)
    rw [e] at k
    simp at k
    refine ⟨fun _ => ⟨bE_nar g, k⟩, fun z => absurd ?_ z⟩
    rw [e4, n_le (by omega) (by omega)]
    omega
  | d + 1, j, g, hj, k => by
    obtain ⟨tk, e3, hB, e4, hc⟩ := h.h
    have hlt : j < l.length := by omega
    have ed : l.drop j = l[j] :: l.drop (j + 1) := List.drop_eq_getElem_cons hlt
    rw [ed] at k
    rw [List.all_cons] at k
    refine ⟨fun z => ?_, fun _ => ?_⟩
    · rw [e4, n_le (by omega) (by omega)] at z
      omega
    have ei : T.1 3 + Int32.ofNat j = Int32.ofNat (tk + j) := by rw [e3, n_add]
    cases g with
    | false =>
      refine ⟨fun _ => ?_, fun z => absurd rfl z⟩
      show wq_M_isNumber_42 Q (d + 1) T (bE false) (Int32.ofNat j + 1)
      rw [of_succ]
      exact m_isNum_loop h d (j + 1) false (by omega) k
    | true =>
      refine ⟨fun z => absurd z (by decide), fun _ => ?_⟩
      rw [ei, n_cl (by omega), hc j l[j] (List.getElem?_eq_getElem hlt)]
      refine ⟨n_in (by omega) (by omega), m_dig ?_⟩
      have go : ∀ g', isDig l[j] = g' → wq_M_isNumber_42 Q (d + 1) T (bE g') (Int32.ofNat j + 1) := by
        intro g' e
        rw [of_succ]
        refine m_isNum_loop h d (j + 1) g' (by omega) ?_
        rw [e] at k
        exact k
      cases e : isDig l[j] with
      | false => exact ⟨fun _ => go false e, fun z => absurd rfl z⟩
      | true => exact ⟨fun z => absurd z (by decide), fun _ => go true e⟩
theorem m_isNumber {Q : Int32 → StM → Prop} {T : StM} {l : List Int32} (h : TkM T l) (k : Q (bE (isNumL l)) T) : wp_M_isNumber Q T := by
  obtain ⟨tk, e3, hB, e4, hc⟩ := h.h
  have go : sgn l ≤ l.length → wq_M_isNumber_26 Q T (Int32.ofNat (sgn l)) := by
    intro hs
    have e : T.1 4 - Int32.ofNat (sgn l) = Int32.ofNat (l.length - sgn l) := by rw [e4, n_sub hs]
    unfold wq_M_isNumber_26
    rw [e]
    refine wt_in (fun z => ⟨l.length - sgn l + 1, m_isNum_loop h _ _ false (by omega) ?_⟩) (fun z1 z2 => ⟨l.length - sgn l + 1, m_isNum_loop h _ _ true (by omega) ?_⟩)
    · rw [l_lt (by omega) (by decide), r_lt (by decide) (by omega)] at z
      rw [isNumL, decide_eq_false (by omega)] at k
      exact k
    · rw [l_lt (by omega) (by decide)] at z1
      rw [r_lt (by decide) (by omega)] at z2
      rw [isNumL, decide_eq_true (by omega)] at k
      exact k
  refine ⟨fun z => ?_, fun z => ⟨?_, fun z1 => ?_, fun z1 => ?_⟩⟩
  · rw [e4, l_le (by omega) (by decide)] at z
    have e : l = [] := List.eq_nil_of_length_eq_zero (by omega)
    have es : sgn l = 0 := by rw [e]; rfl
    rw [es] at go
    exact go (by omega)
  · rw [e4, l_le (by omega) (by decide)] at z
    rw [e3]
    exact n_in (by omega) (by omega)
  · rw [e4, l_le (by omega) (by decide)] at z
    have hl : 0 < l.length := by omega
    rw [e3, n_cl (by omega), show tk = tk + 0 from rfl, hc 0 l[0] (List.getElem?_eq_getElem hl)] at z1
    have es : sgn l = 1 := by
      rw [sgn, List.head?_eq_getElem?, List.getElem?_eq_getElem hl, z1, if_pos rfl]
    rw [es] at go
    exact go (by omega)
  · rw [e4, l_le (by omega) (by decide)] at z
    have hl : 0 < l.length := by omega
    rw [e3, n_cl (by omega), show tk = tk + 0 from rfl, hc 0 l[0] (List.getElem?_eq_getElem hl)] at z1
    have es : sgn l = 0 := by
      rw [sgn, List.head?_eq_getElem?, List.getElem?_eq_getElem hl, if_neg (fun q => z1 (Option.some.inj q))]
    rw [es] at go
    exact go (by omega)
theorem m_num_loop {Q : Int32 → StM → Prop} {T : StM} {l : List Int32} (h : TkM T l) (hl : 0 < l.length) : ∀ (d j : Nat) (v : Int32), j + d = l.length → (let u := (l.drop j).foldl (fun v c => if c = 45 then v else 10 * v + c - 48) v; Q (if l.head? = some 45 then -u else u) T) → wq_M_number_4 Q (d + 1) T v (Int32.ofNat j)
  | 0, j, v, hj, k => by
    obtain ⟨tk, e3, hB, e4, hc⟩ := h.h
    have e : l.drop j = [] := List.drop_eq_nil_of_le (by omega)
    rw [e] at k
    have k : Q (if l.head? = some 45 then -v else v) T := k
    have eh : l.head? = some l[0] := by rw [List.head?_eq_getElem?, List.getElem?_eq_getElem hl]
    refine ⟨fun _ => ⟨?_, fun z => ?_, fun z => ?_⟩, fun z => absurd ?_ z⟩
    · rw [e3]
      exact n_in (by omega) (by omega)
    · rw [e3, n_cl (by omega), show tk = tk + 0 from rfl, hc 0 l[0] (List.getElem?_eq_getElem hl)] at z
      rw [eh, z, if_pos rfl] at k
      exact k
    · rw [e3, n_cl (by omega), show tk = tk + 0 from rfl, hc 0 l[0] (List.getElem?_eq_getElem hl)] at z
      rw [eh, if_neg (fun q => z (Option.some.inj q))] at k
      exact k
    · rw [e4, n_le (by omega) (by omega)]
      omega
  | d + 1, j, v, hj, k => by
    obtain ⟨tk, e3, hB, e4, hc⟩ := h.h
    have hlt : j < l.length := by omega
    have ed : l.drop j = l[j] :: l.drop (j + 1) := List.drop_eq_getElem_cons hlt
    rw [ed] at k
    rw [List.foldl_cons] at k
    have ei : T.1 3 + Int32.ofNat j = Int32.ofNat (tk + j) := by rw [e3, n_add]
    have hin : vp_in (Int32.ofNat (tk + j)) 120 := n_in (by omega) (by omega)
    refine ⟨fun z => ?_, fun _ => ?_⟩
    · rw [e4, n_le (by omega) (by omega)] at z
      omega
    rw [ei, n_cl (by omega), hc j l[j] (List.getElem?_eq_getElem hlt)]
    refine ⟨hin, fun z => ?_, fun z => ⟨hin, ?_⟩⟩
    · rw [if_pos z] at k
      show wq_M_number_4 Q (d + 1) T _ (Int32.ofNat j + 1)
      rw [of_succ]
      exact m_num_loop h hl d (j + 1) _ (by omega) k
    · rw [if_neg z] at k
      show wq_M_number_4 Q (d + 1) T _ (Int32.ofNat j + 1)
      rw [of_succ]
      exact m_num_loop h hl d (j + 1) _ (by omega) k
theorem m_number {Q : Int32 → StM → Prop} {T : StM} {l : List Int32} (h : TkM T l) (hl : 0 < l.length) (k : Q (numL l) T) : wp_M_number Q T :=
  ⟨l.length + 1, m_num_loop h hl l.length 0 0 (by omega) k⟩
theorem m_isName {Q : Int32 → StM → Prop} {T : StM} {l : List Int32} (h : TkM T l) (k : Q (bE (isNameL l)) T) : wp_M_isName Q T := by
  obtain ⟨tk, e3, hB, e4, hc⟩ := h.h
  unfold wp_M_isName
  rw [e4]
  refine wt_in (fun z => ⟨fun _ => ⟨rfl, ?_⟩, fun z => absurd rfl z⟩) (fun z1 z2 => ⟨fun z => absurd z (by decide), fun _ => m_isNumber h ?_⟩)
  · rw [l_lt (by omega) (by decide), r_lt (by decide) (by omega)] at z
    rw [isNameL, decide_eq_false (by omega)] at k
    exact k
  · rw [l_lt (by omega) (by decide)] at z1
    rw [r_lt (by decide) (by omega)] at z2
    rw [isNameL, decide_eq_true (by omega)] at k
    cases e : isNumL l with
    | false =>
      rw [e] at k
      exact ⟨fun _ => ⟨rfl, k⟩, fun z => absurd rfl z⟩
    | true =>
      rw [e] at k
      exact ⟨fun z => absurd z (by decide), fun _ => ⟨rfl, k⟩⟩
theorem m_key_loop {Q : Int64 → StM → Prop} {T : StM} {l : List Int32} (h : TkM T l) : ∀ (d j : Nat) (v : Int64), j + d = l.length → Q ((l.drop j).foldl (fun v c => v * 128 + c.toInt64) v) T → wq_M_key_4 Q (d + 1) T v (Int32.ofNat j)
  | 0, j, v, hj, k => by
    obtain ⟨tk, e3, hB, e4, hc⟩ := h.h
    have e : l.drop j = [] := List.drop_eq_nil_of_le (by omega)
    rw [e] at k
    refine ⟨fun _ => k, fun z => absurd ?_ z⟩
    rw [e4, n_le (by omega) (by omega)]
    omega
  | d + 1, j, v, hj, k => by
    obtain ⟨tk, e3, hB, e4, hc⟩ := h.h
    have hlt : j < l.length := by omega
    have ed : l.drop j = l[j] :: l.drop (j + 1) := List.drop_eq_getElem_cons hlt
    rw [ed] at k
    rw [List.foldl_cons] at k
    have ei : T.1 3 + Int32.ofNat j = Int32.ofNat (tk + j) := by rw [e3, n_add]
    refine ⟨fun z => ?_, fun _ => ?_⟩
    · rw [e4, n_le (by omega) (by omega)] at z
      omega
    rw [ei, n_cl (by omega), hc j l[j] (List.getElem?_eq_getElem hlt), of_succ]
    exact ⟨n_in (by omega) (by omega), m_key_loop h d (j + 1) _ (by omega) k⟩
theorem m_key {Q : Int64 → StM → Prop} {T : StM} {l : List Int32} (h : TkM T l) (k : Q (keyN l) T) : wp_M_key Q T :=
  ⟨l.length + 1, m_key_loop h l.length 0 0 (by omega) k⟩
/-! the key of a name is its own -/
def keyR : List Nat → Nat
  | [] => 0
  | c :: r => keyR r * 128 + c
theorem keyR_inj : ∀ (a b : List Nat), (∀ c ∈ a, 0 < c ∧ c < 128) → (∀ c ∈ b, 0 < c ∧ c < 128) → keyR a = keyR b → a = b
  | [], [], _, _, _ => rfl
  | [], c :: b, _, hb, h => by
    have := hb c (List.mem_cons_self ..)
    simp [keyR] at h
    omega
  | c :: a, [], ha, _, h => by
    have := ha c (List.mem_cons_self ..)
    simp [keyR] at h
    omega
  | c :: a, d :: b, ha, hb, h => by
    have h1 := ha c (List.mem_cons_self ..)
    have h2 := hb d (List.mem_cons_self ..)
    simp only [keyR] at h
    have e : c = d := by omega
    have e2 : keyR a = keyR b := by omega
    rw [e, keyR_inj a b (fun x hx => ha x (List.mem_cons_of_mem _ hx)) (fun x hx => hb x (List.mem_cons_of_mem _ hx)) e2]
theorem keyR_lt : ∀ (a : List Nat), (∀ c ∈ a, c < 128) → keyR a < 128 ^ a.length
  | [], _ => by simp [keyR]
  | c :: a, h => by
    have h1 := h c (List.mem_cons_self ..)
    have h2 := keyR_lt a (fun x hx => h x (List.mem_cons_of_mem _ hx))
    simp only [keyR, List.length_cons, Nat.pow_succ]
    omega
theorem keyN_fold : ∀ (r : List Int32), (∀ c ∈ r, okB c) → r.foldr (fun c v => v * 128 + c.toInt64) (0 : Int64) = Int64.ofNat (keyR (r.map (fun c => c.toNatClampNeg)))
  | [], _ => rfl
  | c :: r, h => by
    have h1 := h c (List.mem_cons_self ..)
    have e : c.toInt64 = Int64.ofNat c.toNatClampNeg := by
      apply Int64.toInt_inj.mp
      have : c.toNatClampNeg = c.toInt.toNat := rfl
      have h2 := h1.1
      have h3 := h1.2
      rw [Int32.toInt_toInt64, Int64.toInt_ofNat_of_lt (by omega)]
      omega
    rw [List.foldr_cons, keyN_fold r (fun x hx => h x (List.mem_cons_of_mem _ hx)), e]
    rw [show (128 : Int64) = Int64.ofNat 128 from rfl, ← Int64.ofNat_mul, ← Int64.ofNat_add]
    rfl
theorem keyN_inj {a b : List Int32} (ha : ∀ c ∈ a, okB c) (hb : ∀ c ∈ b, okB c) (la : a.length ≤ 9) (lb : b.length ≤ 9) (h : keyN a = keyN b) : a = b := by
  unfold keyN at h
  rw [List.foldl_eq_foldr_reverse, List.foldl_eq_foldr_reverse, keyN_fold _ (fun c hc => ha c (List.mem_reverse.mp hc)), keyN_fold _ (fun c hc => hb c (List.mem_reverse.mp hc))] at h
  have bd : ∀ (x : List Int32), (∀ c ∈ x, okB c) → ∀ n ∈ x.reverse.map (fun c => c.toNatClampNeg), 0 < n ∧ n < 128 := by
    intro x hx n hn
    obtain ⟨c, hc, e⟩ := List.mem_map.mp hn
    have := hx c (List.mem_reverse.mp hc)
    have e2 : c.toNatClampNeg = c.toInt.toNat := rfl
    have h1 := this.1
    have h2 := this.2
    omega
  have lt : ∀ (x : List Int32), (∀ c ∈ x, okB c) → x.length ≤ 9 → keyR (x.reverse.map (fun c => c.toNatClampNeg)) < 9223372036854775808 := by
    intro x hx hl
    have h1 := keyR_lt _ (fun n hn => (bd x hx n hn).2)
    have h2 : 128 ^ (x.reverse.map (fun c => c.toNatClampNeg)).length ≤ 128 ^ 9 := Nat.pow_le_pow_right (by omega) (by simp; exact hl)
    have h3 : 128 ^ 9 = 9223372036854775808 := by decide
    omega
  have h := congrArg Int64.toInt h
  rw [Int64.toInt_ofNat_of_lt (lt a ha la), Int64.toInt_ofNat_of_lt (lt b hb lb)] at h
  have h := keyR_inj _ _ (bd a ha) (bd b hb) (by omega)
  have inj : ∀ (x y : List Int32), (∀ c ∈ x, okB c) → (∀ c ∈ y, okB c) → x.map (fun c => c.toNatClampNeg) = y.map (fun c => c.toNatClampNeg) → x = y := by
    intro x
    induction x with
    | nil =>
      intro y _ _ e
      cases y with
      | nil => rfl
      | cons d y => cases e
    | cons c x ih =>
      intro y hx hy e
      cases y with
      | nil => cases e
      | cons d y =>
        simp only [List.map_cons, List.cons.injEq] at e
        have h1 := hx c (List.mem_cons_self ..)
        have h2 := hy d (List.mem_cons_self ..)
        have e1 : c = d := by
          apply Int32.toInt_inj.mp
          have a1 : c.toNatClampNeg = c.toInt.toNat := rfl
          have a2 : d.toNatClampNeg = d.toInt.toNat := rfl
          have := h1.1
          have := h2.1
          omega
        rw [e1, ih y (fun z hz => hx z (List.mem_cons_of_mem _ hz)) (fun z hz => hy z (List.mem_cons_of_mem _ hz)) e.2]
  have h := inj _ _ (fun c hc => ha c (List.mem_reverse.mp hc)) (fun c hc => hb c (List.mem_reverse.mp hc)) h
  exact List.reverse_inj.mp h
