def w1 (A : Ab) (f : Int32 → List Int32 → Int32 × Ab) : Int32 × Ab := match A.ds with
  | c :: r => f c r
  | [] => (2, A)
def w2 (A : Ab) (f : Int32 → Int32 → List Int32 → Int32 × Ab) : Int32 × Ab := match A.ds with
  | c :: b :: r => f c b r
  | _ => (2, A)
def w3 (A : Ab) (f : Int32 → Int32 → Int32 → List Int32 → Int32 × Ab) : Int32 × Ab := match A.ds with
  | c :: b :: a :: r => f c b a r
  | _ => (2, A)
def okD (A : Ab) (l : List Int32) : Int32 × Ab := (0, (Ab.set_ds A (l)))
def lpR (A : Ab) (i : Nat) : Int32 × Ab := match A.cs with
  | [] => (8, A)
  | fr :: _ => match fr.lp[i]? with
    | none => (8, A)
    | some p => pushR A p.1
abbrev inM (c : Int32) : Prop := ¬ c < 0 ∧ ¬ 95 < c
abbrev inH (h : Nat) (c : Int32) : Prop := ¬ c < -Int32.ofNat h ∧ ¬ 64 - Int32.ofNat h < c

def do0 (A : Ab) : Int32 × Ab := w2 A fun b a r => okD A ((a + b) :: r)
def do1 (A : Ab) : Int32 × Ab := w2 A fun b a r => okD A ((a - b) :: r)
def do2 (A : Ab) : Int32 × Ab := w2 A fun b a r => okD A ((a * b) :: r)
def do3 (A : Ab) : Int32 × Ab := w2 A fun b a r => if b = 0 then (4, A) else okD A ((a / b) :: r)
def do4 (A : Ab) : Int32 × Ab := w2 A fun b a r => if b = 0 then (4, A) else okD A ((a - a / b * b) :: r)
def do5 (A : Ab) : Int32 × Ab := w2 A fun b a r => okD A ((a &&& b) :: r)
def do6 (A : Ab) : Int32 × Ab := w2 A fun b a r => okD A ((a ||| b) :: r)
def do7 (A : Ab) : Int32 × Ab := w2 A fun b a r => okD A ((a ^^^ b) :: r)
def do8 (A : Ab) : Int32 × Ab := w2 A fun b a r => okD A ((if a = b then -1 else 0) :: r)
def do9 (A : Ab) : Int32 × Ab := w2 A fun b a r => okD A ((if a < b then -1 else 0) :: r)
def do10 (A : Ab) : Int32 × Ab := w1 A fun c r => okD A ((if c = 0 then -1 else 0) :: r)
def do11 (A : Ab) : Int32 × Ab := w1 A fun c r => okD A ((-c) :: r)
def do12 (A : Ab) : Int32 × Ab := w1 A fun c r => pushR A c
def do13 (A : Ab) : Int32 × Ab := w1 A fun c r => okD A r
def do14 (A : Ab) : Int32 × Ab := w2 A fun c b r => okD A (b :: c :: r)
def do15 (A : Ab) : Int32 × Ab := w2 A fun c b r => pushR A b
def do16 (A : Ab) : Int32 × Ab := w3 A fun c b a r => okD A (a :: c :: b :: r)
def do17 (A : Ab) : Int32 × Ab := pushR A (Int32.ofNat A.ds.length)
def do18 (A : Ab) : Int32 × Ab := w1 A fun c r => (0, (Ab.set_out (Ab.set_pr (Ab.set_ds A (r)) (A.pr + 1)) (if A.pr < 40 then upd A.out A.pr c else A.out)))
def do19 (A : Ab) : Int32 × Ab := w1 A fun c r => if inM c then okD A (A.mem c.toNatClampNeg :: r) else (5, A)
def do20 (A : Ab) : Int32 × Ab := w2 A fun c b r => if inM c then (0, (Ab.set_mem (Ab.set_ds A (r)) (upd A.mem c.toNatClampNeg b))) else (5, A)
def do21 (A : Ab) : Int32 × Ab := w2 A fun c b r => if inM c then (0, (Ab.set_mem (Ab.set_ds A (r)) (upd A.mem c.toNatClampNeg (A.mem c.toNatClampNeg + b)))) else (5, A)
def do22 (A : Ab) : Int32 × Ab := pushR A (Int32.ofNat A.here)
def do23 (A : Ab) : Int32 × Ab := w1 A fun c r => if A.here < 64 then (0, (Ab.set_here (Ab.set_mem (Ab.set_ds A (r)) (upd A.mem A.here c)) (A.here + 1))) else (3, A)
def do24 (A : Ab) : Int32 × Ab := w1 A fun c r => if inH A.here c then (0, (Ab.set_here (Ab.set_ds A (r)) ((Int32.ofNat A.here + c).toNatClampNeg))) else (3, A)
def do25 (A : Ab) : Int32 × Ab := w1 A fun c r => if A.rs.length < 24 then (0, (Ab.set_rs (Ab.set_ds A (r)) (c :: A.rs))) else (3, A)
def do26 (A : Ab) : Int32 × Ab := match A.rs with
  | [] => (2, A)
  | x :: l => if A.ds.length < 24 then (0, (Ab.set_rs (Ab.set_ds A (x :: A.ds)) (l))) else (3, A)
def do27 (A : Ab) : Int32 × Ab := match A.rs with
  | [] => (2, A)
  | x :: l => pushR A x
def do28 (A : Ab) : Int32 × Ab := lpR A 0
def do29 (A : Ab) : Int32 × Ab := lpR A 1
theorem m_push1 {A : Ab} {T : StM} {Q : StM → Prop} {v : Int32} (h : RM A T) (hn : A.ds.length < 24) (k : ∀ T', RM (Ab.set_ds A (v :: A.ds)) T' → Q T') : wp_M_push Q T v :=
  m_push h (fun T' h' => k T' (by
    rw [pushR, if_pos hn] at h'
    exact h'.1 rfl))
theorem m_nd1 {A : Ab} {T : StM} {Q : Int32 → StM → Prop} {P : StM → Prop} {f : Int32 → List Int32 → Int32 × Ab} (h : RM A T) (k : ∀ T', RMr (w1 A f) T' → P T') (k0 : ∀ T', P T' → Q 0 T') (k1 : ∀ c r, A.ds = c :: r → (∀ T', RMr (f c r) T' → P T') → Q 1 T) : wp_M_needs Q T 1 := by
  refine m_needs (n := 1) h (by decide) (fun hn => ?_) (fun hn T' h1 h2 => k0 _ (k _ ?_))
  · match hd : A.ds with
    | [] => rw [hd] at hn; simp at hn
    | c :: r =>
      refine k1 c r hd (fun T' h' => k T' ?_)
      rw [w1, hd]
      exact h'
  · match hd : A.ds with
    | [] =>
      rw [w1, hd]
      exact RMr.no (by decide) h1 h2
    | c :: r => rw [hd] at hn; simp at hn
theorem m_nd2 {A : Ab} {T : StM} {Q : Int32 → StM → Prop} {P : StM → Prop} {f : Int32 → Int32 → List Int32 → Int32 × Ab} (h : RM A T) (k : ∀ T', RMr (w2 A f) T' → P T') (k0 : ∀ T', P T' → Q 0 T') (k1 : ∀ c b r, A.ds = c :: b :: r → (∀ T', RMr (f c b r) T' → P T') → Q 1 T) : wp_M_needs Q T 2 := by
  refine m_needs (n := 2) h (by decide) (fun hn => ?_) (fun hn T' h1 h2 => k0 _ (k _ ?_))
  · match hd : A.ds with
    | [] => rw [hd] at hn; simp at hn
    | [_] => rw [hd] at hn; simp at hn
    | c :: b :: r =>
      refine k1 c b r hd (fun T' h' => k T' ?_)
      rw [w2, hd]
      exact h'
  · match hd : A.ds with
    | [] =>
      rw [w2, hd]
      exact RMr.no (by decide) h1 h2
    | [_] =>
      rw [w2, hd]
      exact RMr.no (by decide) h1 h2
    | c :: b :: r => rw [hd] at hn; simp at hn; omega
theorem m_nd3 {A : Ab} {T : StM} {Q : Int32 → StM → Prop} {P : StM → Prop} {f : Int32 → Int32 → Int32 → List Int32 → Int32 × Ab} (h : RM A T) (k : ∀ T', RMr (w3 A f) T' → P T') (k0 : ∀ T', P T' → Q 0 T') (k1 : ∀ c b a r, A.ds = c :: b :: a :: r → (∀ T', RMr (f c b a r) T' → P T') → Q 1 T) : wp_M_needs Q T 3 := by
  refine m_needs (n := 3) h (by decide) (fun hn => ?_) (fun hn T' h1 h2 => k0 _ (k _ ?_))
  · match hd : A.ds with
    | [] => rw [hd] at hn; simp at hn
    | [_] => rw [hd] at hn; simp at hn
    | [_, _] => rw [hd] at hn; simp at hn
    | c :: b :: a :: r =>
      refine k1 c b a r hd (fun T' h' => k T' ?_)
      rw [w3, hd]
      exact h'
  · match hd : A.ds with
    | [] =>
      rw [w3, hd]
      exact RMr.no (by decide) h1 h2
    | [_] =>
      rw [w3, hd]
      exact RMr.no (by decide) h1 h2
    | [_, _] =>
      rw [w3, hd]
      exact RMr.no (by decide) h1 h2
    | c :: b :: a :: r => rw [hd] at hn; simp at hn; omega
theorem m_nd0 {A : Ab} {T : StM} {Q : Int32 → StM → Prop} (h : RM A T) (k1 : Q 1 T) : wp_M_needs Q T 0 :=
  m_needs (n := 0) h (by decide) (fun _ => k1) (fun hn => absurd hn (by omega))
theorem m_drop2 {A : Ab} {T : StM} {c b : Int32} {r : List Int32} (h : RM A T) (hd : A.ds = c :: b :: r) : RM (Ab.set_ds A (r)) (upd T.1 6 (T.1 6 - 2), T.2) := by
  have hb := h.dsB
  have hs := h.dsS
  rw [hd] at hb hs
  simp at hb
  exact (RM.mk (h.hereE) (h.hereB) (h.memE) (h.prE) (h.prB) (h.pbB) (h.outE) (h.fuE) (h.blkE) (h.hasE) (h.hasB) (h.upE) (h.toldE) (h.toldB) (h.upB) (h.toldH) (h.madeE) (h.madeB) (h.wsE) (h.namE) (h.txE) (h.txB) (h.txC) (h.txO) (h.posE) (h.posB) (h.tkE) (h.tlE) (h.err) (by
      show T.1 6 - 2 = _
      rw [h.dsE, hd]
      exact n_sub (a := r.length + 1 + 1) (b := 2) (by omega)) (by show r.length ≤ 24; omega) (hs.2.2) (h.rsE) (h.rsB) (h.rsS) (h.csE) (h.csB) (h.csS) (h.csW) (h.drE) (h.drW) (h.opE) (h.opB) (h.opK) (h.opA))
theorem inM_in {c : Int32} (h : inM c) : vp_in c 96 ∧ c.toNatClampNeg < 96 := by
  obtain ⟨h0, h1⟩ := h
  have a0 := i32_nlt h0
  have a1 := i32_nlt h1
  have k0 : (0 : Int32).toInt = 0 := rfl
  have k95 : (95 : Int32).toInt = 95 := rfl
  refine ⟨in_small (by omega) (by omega), ?_⟩
  show c.toInt.toNat < 96
  omega
theorem m_0 {A : Ab} {T : StM} {Q : StM → Prop} (h : RM A T) (k : ∀ T', RMr (do0 A) T' → Q T') : wp_M_arithmetic Q T 0 := by
  simp (config := {decide := true}) only [wp_M_in, wq_M_in_14, wq_M_in_15, wq_M_arithmetic_159, wq_M_arithmetic_156, wq_M_arithmetic_145, wq_M_arithmetic_134, wq_M_arithmetic_123, wq_M_arithmetic_112, wq_M_arithmetic_102, wq_M_arithmetic_92, wq_M_arithmetic_82, wq_M_arithmetic_72, wq_M_arithmetic_62, wq_M_arithmetic_40, wp_M_arithmetic, true_implies, false_implies, not_true_eq_false, not_false_eq_true, and_true, true_and]
  refine m_nd2 h k (fun T' p => ⟨fun _ => p, fun z => absurd rfl z⟩) (fun b a r hd k => ⟨fun z => absurd z (by decide), fun _ => ?_⟩)
  refine m_top (i := 0) h (by rw [hd]; rfl) (m_top (i := 1) h (by rw [hd]; rfl) ?_)
  exact m_push1 (m_drop2 h hd) (by have := h.dsB; rw [hd] at this; simp at this; dsimp only [Ab.set_ds, Ab.ds]; (try simp); omega) (fun T' h' => k _ (RMr.ok h'))
theorem m_1 {A : Ab} {T : StM} {Q : StM → Prop} (h : RM A T) (k : ∀ T', RMr (do1 A) T' → Q T') : wp_M_arithmetic Q T 1 := by
  simp (config := {decide := true}) only [wp_M_in, wq_M_in_14, wq_M_in_15, wq_M_arithmetic_159, wq_M_arithmetic_156, wq_M_arithmetic_145, wq_M_arithmetic_134, wq_M_arithmetic_123, wq_M_arithmetic_112, wq_M_arithmetic_102, wq_M_arithmetic_92, wq_M_arithmetic_82, wq_M_arithmetic_72, wq_M_arithmetic_62, wq_M_arithmetic_40, wp_M_arithmetic, true_implies, false_implies, not_true_eq_false, not_false_eq_true, and_true, true_and]
  refine m_nd2 h k (fun T' p => ⟨fun _ => p, fun z => absurd rfl z⟩) (fun b a r hd k => ⟨fun z => absurd z (by decide), fun _ => ?_⟩)
  refine m_top (i := 0) h (by rw [hd]; rfl) (m_top (i := 1) h (by rw [hd]; rfl) ?_)
  exact m_push1 (m_drop2 h hd) (by have := h.dsB; rw [hd] at this; simp at this; dsimp only [Ab.set_ds, Ab.ds]; (try simp); omega) (fun T' h' => k _ (RMr.ok h'))
theorem m_2 {A : Ab} {T : StM} {Q : StM → Prop} (h : RM A T) (k : ∀ T', RMr (do2 A) T' → Q T') : wp_M_arithmetic Q T 2 := by
  simp (config := {decide := true}) only [wp_M_in, wq_M_in_14, wq_M_in_15, wq_M_arithmetic_159, wq_M_arithmetic_156, wq_M_arithmetic_145, wq_M_arithmetic_134, wq_M_arithmetic_123, wq_M_arithmetic_112, wq_M_arithmetic_102, wq_M_arithmetic_92, wq_M_arithmetic_82, wq_M_arithmetic_72, wq_M_arithmetic_62, wq_M_arithmetic_40, wp_M_arithmetic, true_implies, false_implies, not_true_eq_false, not_false_eq_true, and_true, true_and]
  refine m_nd2 h k (fun T' p => ⟨fun _ => p, fun z => absurd rfl z⟩) (fun b a r hd k => ⟨fun z => absurd z (by decide), fun _ => ?_⟩)
  refine m_top (i := 0) h (by rw [hd]; rfl) (m_top (i := 1) h (by rw [hd]; rfl) ?_)
  exact m_push1 (m_drop2 h hd) (by have := h.dsB; rw [hd] at this; simp at this; dsimp only [Ab.set_ds, Ab.ds]; (try simp); omega) (fun T' h' => k _ (RMr.ok h'))
theorem m_3 {A : Ab} {T : StM} {Q : StM → Prop} (h : RM A T) (k : ∀ T', RMr (do3 A) T' → Q T') : wp_M_arithmetic Q T 3 := by
  simp (config := {decide := true}) only [wp_M_in, wq_M_in_14, wq_M_in_15, wq_M_arithmetic_159, wq_M_arithmetic_156, wq_M_arithmetic_145, wq_M_arithmetic_134, wq_M_arithmetic_123, wq_M_arithmetic_112, wq_M_arithmetic_102, wq_M_arithmetic_92, wq_M_arithmetic_82, wq_M_arithmetic_72, wq_M_arithmetic_62, wq_M_arithmetic_40, wp_M_arithmetic, true_implies, false_implies, not_true_eq_false, not_false_eq_true, and_true, true_and]
  refine m_nd2 h k (fun T' p => ⟨fun _ => p, fun z => absurd rfl z⟩) (fun b a r hd k => ⟨fun z => absurd z (by decide), fun _ => ?_⟩)
  refine m_top (i := 0) h (by rw [hd]; rfl) (m_top (i := 1) h (by rw [hd]; rfl) ?_)
  refine ⟨fun z => m_fail h (by decide) (fun T' h1 h2 => k _ ?_), fun z => ⟨z, ?_⟩⟩
  · rw [if_pos z]
    exact RMr.no (by decide) h1 h2
  · rw [if_neg z] at k
    exact m_push1 (m_drop2 h hd) (by have := h.dsB; rw [hd] at this; simp at this; dsimp only [Ab.set_ds, Ab.ds]; (try simp); omega) (fun T' h' => k _ (RMr.ok h'))
theorem m_4 {A : Ab} {T : StM} {Q : StM → Prop} (h : RM A T) (k : ∀ T', RMr (do4 A) T' → Q T') : wp_M_arithmetic Q T 4 := by
  simp (config := {decide := true}) only [wp_M_in, wq_M_in_14, wq_M_in_15, wq_M_arithmetic_159, wq_M_arithmetic_156, wq_M_arithmetic_145, wq_M_arithmetic_134, wq_M_arithmetic_123, wq_M_arithmetic_112, wq_M_arithmetic_102, wq_M_arithmetic_92, wq_M_arithmetic_82, wq_M_arithmetic_72, wq_M_arithmetic_62, wq_M_arithmetic_40, wp_M_arithmetic, true_implies, false_implies, not_true_eq_false, not_false_eq_true, and_true, true_and]
  refine m_nd2 h k (fun T' p => ⟨fun _ => p, fun z => absurd rfl z⟩) (fun b a r hd k => ⟨fun z => absurd z (by decide), fun _ => ?_⟩)
  refine m_top (i := 0) h (by rw [hd]; rfl) (m_top (i := 1) h (by rw [hd]; rfl) ?_)
  refine ⟨fun z => m_fail h (by decide) (fun T' h1 h2 => k _ ?_), fun z => ⟨z, ?_⟩⟩
  · rw [if_pos z]
    exact RMr.no (by decide) h1 h2
  · rw [if_neg z] at k
    exact m_push1 (m_drop2 h hd) (by have := h.dsB; rw [hd] at this; simp at this; dsimp only [Ab.set_ds, Ab.ds]; (try simp); omega) (fun T' h' => k _ (RMr.ok h'))
theorem m_5 {A : Ab} {T : StM} {Q : StM → Prop} (h : RM A T) (k : ∀ T', RMr (do5 A) T' → Q T') : wp_M_arithmetic Q T 5 := by
  simp (config := {decide := true}) only [wp_M_in, wq_M_in_14, wq_M_in_15, wq_M_arithmetic_159, wq_M_arithmetic_156, wq_M_arithmetic_145, wq_M_arithmetic_134, wq_M_arithmetic_123, wq_M_arithmetic_112, wq_M_arithmetic_102, wq_M_arithmetic_92, wq_M_arithmetic_82, wq_M_arithmetic_72, wq_M_arithmetic_62, wq_M_arithmetic_40, wp_M_arithmetic, true_implies, false_implies, not_true_eq_false, not_false_eq_true, and_true, true_and]
  refine m_nd2 h k (fun T' p => ⟨fun _ => p, fun z => absurd rfl z⟩) (fun b a r hd k => ⟨fun z => absurd z (by decide), fun _ => ?_⟩)
  refine m_top (i := 0) h (by rw [hd]; rfl) (m_top (i := 1) h (by rw [hd]; rfl) ?_)
  exact m_push1 (m_drop2 h hd) (by have := h.dsB; rw [hd] at this; simp at this; dsimp only [Ab.set_ds, Ab.ds]; (try simp); omega) (fun T' h' => k _ (RMr.ok h'))
theorem m_6 {A : Ab} {T : StM} {Q : StM → Prop} (h : RM A T) (k : ∀ T', RMr (do6 A) T' → Q T') : wp_M_arithmetic Q T 6 := by
  simp (config := {decide := true}) only [wp_M_in, wq_M_in_14, wq_M_in_15, wq_M_arithmetic_159, wq_M_arithmetic_156, wq_M_arithmetic_145, wq_M_arithmetic_134, wq_M_arithmetic_123, wq_M_arithmetic_112, wq_M_arithmetic_102, wq_M_arithmetic_92, wq_M_arithmetic_82, wq_M_arithmetic_72, wq_M_arithmetic_62, wq_M_arithmetic_40, wp_M_arithmetic, true_implies, false_implies, not_true_eq_false, not_false_eq_true, and_true, true_and]
  refine m_nd2 h k (fun T' p => ⟨fun _ => p, fun z => absurd rfl z⟩) (fun b a r hd k => ⟨fun z => absurd z (by decide), fun _ => ?_⟩)
  refine m_top (i := 0) h (by rw [hd]; rfl) (m_top (i := 1) h (by rw [hd]; rfl) ?_)
  exact m_push1 (m_drop2 h hd) (by have := h.dsB; rw [hd] at this; simp at this; dsimp only [Ab.set_ds, Ab.ds]; (try simp); omega) (fun T' h' => k _ (RMr.ok h'))
theorem m_7 {A : Ab} {T : StM} {Q : StM → Prop} (h : RM A T) (k : ∀ T', RMr (do7 A) T' → Q T') : wp_M_arithmetic Q T 7 := by
  simp (config := {decide := true}) only [wp_M_in, wq_M_in_14, wq_M_in_15, wq_M_arithmetic_159, wq_M_arithmetic_156, wq_M_arithmetic_145, wq_M_arithmetic_134, wq_M_arithmetic_123, wq_M_arithmetic_112, wq_M_arithmetic_102, wq_M_arithmetic_92, wq_M_arithmetic_82, wq_M_arithmetic_72, wq_M_arithmetic_62, wq_M_arithmetic_40, wp_M_arithmetic, true_implies, false_implies, not_true_eq_false, not_false_eq_true, and_true, true_and]
  refine m_nd2 h k (fun T' p => ⟨fun _ => p, fun z => absurd rfl z⟩) (fun b a r hd k => ⟨fun z => absurd z (by decide), fun _ => ?_⟩)
  refine m_top (i := 0) h (by rw [hd]; rfl) (m_top (i := 1) h (by rw [hd]; rfl) ?_)
  exact m_push1 (m_drop2 h hd) (by have := h.dsB; rw [hd] at this; simp at this; dsimp only [Ab.set_ds, Ab.ds]; (try simp); omega) (fun T' h' => k _ (RMr.ok h'))
theorem m_8 {A : Ab} {T : StM} {Q : StM → Prop} (h : RM A T) (k : ∀ T', RMr (do8 A) T' → Q T') : wp_M_arithmetic Q T 8 := by
  simp (config := {decide := true}) only [wp_M_in, wq_M_in_14, wq_M_in_15, wq_M_arithmetic_159, wq_M_arithmetic_156, wq_M_arithmetic_145, wq_M_arithmetic_134, wq_M_arithmetic_123, wq_M_arithmetic_112, wq_M_arithmetic_102, wq_M_arithmetic_92, wq_M_arithmetic_82, wq_M_arithmetic_72, wq_M_arithmetic_62, wq_M_arithmetic_40, wp_M_arithmetic, true_implies, false_implies, not_true_eq_false, not_false_eq_true, and_true, true_and]
  refine m_nd2 h k (fun T' p => ⟨fun _ => p, fun z => absurd rfl z⟩) (fun b a r hd k => ⟨fun z => absurd z (by decide), fun _ => ?_⟩)
  refine m_top (i := 0) h (by rw [hd]; rfl) (m_top (i := 1) h (by rw [hd]; rfl) ?_)
  refine ⟨fun z => ?_, fun z => ?_⟩
  · rw [if_pos z] at k
    exact m_push1 (m_drop2 h hd) (by have := h.dsB; rw [hd] at this; simp at this; dsimp only [Ab.set_ds, Ab.ds]; (try simp); omega) (fun T' h' => k _ (RMr.ok h'))
  · rw [if_neg z] at k
    exact m_push1 (m_drop2 h hd) (by have := h.dsB; rw [hd] at this; simp at this; dsimp only [Ab.set_ds, Ab.ds]; (try simp); omega) (fun T' h' => k _ (RMr.ok h'))
theorem m_9 {A : Ab} {T : StM} {Q : StM → Prop} (h : RM A T) (k : ∀ T', RMr (do9 A) T' → Q T') : wp_M_arithmetic Q T 9 := by
  simp (config := {decide := true}) only [wp_M_in, wq_M_in_14, wq_M_in_15, wq_M_arithmetic_159, wq_M_arithmetic_156, wq_M_arithmetic_145, wq_M_arithmetic_134, wq_M_arithmetic_123, wq_M_arithmetic_112, wq_M_arithmetic_102, wq_M_arithmetic_92, wq_M_arithmetic_82, wq_M_arithmetic_72, wq_M_arithmetic_62, wq_M_arithmetic_40, wp_M_arithmetic, true_implies, false_implies, not_true_eq_false, not_false_eq_true, and_true, true_and]
  refine m_nd2 h k (fun T' p => ⟨fun _ => p, fun z => absurd rfl z⟩) (fun b a r hd k => ⟨fun z => absurd z (by decide), fun _ => ?_⟩)
  refine m_top (i := 0) h (by rw [hd]; rfl) (m_top (i := 1) h (by rw [hd]; rfl) ?_)
  refine ⟨fun z => ?_, fun z => ?_⟩
  · rw [if_neg (Int32.not_lt.mpr z)] at k
    exact m_push1 (m_drop2 h hd) (by have := h.dsB; rw [hd] at this; simp at this; dsimp only [Ab.set_ds, Ab.ds]; (try simp); omega) (fun T' h' => k _ (RMr.ok h'))
  · rw [if_pos (Int32.not_le.mp z)] at k
    exact m_push1 (m_drop2 h hd) (by have := h.dsB; rw [hd] at this; simp at this; dsimp only [Ab.set_ds, Ab.ds]; (try simp); omega) (fun T' h' => k _ (RMr.ok h'))
theorem m_10 {A : Ab} {T : StM} {Q : StM → Prop} (h : RM A T) (k : ∀ T', RMr (do10 A) T' → Q T') : wp_M_shuffle Q T 10 := by
  simp (config := {decide := true}) only [wp_M_in, wq_M_in_14, wq_M_in_15, wq_M_shuffle_212, wq_M_shuffle_202, wq_M_shuffle_172, wq_M_shuffle_146, wq_M_shuffle_132, wq_M_shuffle_122, wq_M_shuffle_107, wq_M_shuffle_96, wq_M_shuffle_81, wq_M_shuffle_66, wq_M_shuffle_63, wq_M_shuffle_37, wp_M_shuffle, true_implies, false_implies, not_true_eq_false, not_false_eq_true, and_true, true_and]
  refine m_nd1 h k (fun T' p => ⟨fun _ => p, fun z => absurd rfl z⟩) (fun c r hd k => ⟨fun z => absurd z (by decide), fun _ => ?_⟩)
  refine m_pop h hd (fun T1 h1 => ⟨fun z => ?_, fun z => ?_⟩)
  · rw [if_pos z] at k
    exact m_push1 h1 (by have := h.dsB; rw [hd] at this; simp at this; dsimp only [Ab.set_ds, Ab.ds]; (try simp); omega) (fun T' h' => k _ (RMr.ok h'))
  · rw [if_neg z] at k
    exact m_push1 h1 (by have := h.dsB; rw [hd] at this; simp at this; dsimp only [Ab.set_ds, Ab.ds]; (try simp); omega) (fun T' h' => k _ (RMr.ok h'))
theorem m_11 {A : Ab} {T : StM} {Q : StM → Prop} (h : RM A T) (k : ∀ T', RMr (do11 A) T' → Q T') : wp_M_shuffle Q T 11 := by
  simp (config := {decide := true}) only [wp_M_in, wq_M_in_14, wq_M_in_15, wq_M_shuffle_212, wq_M_shuffle_202, wq_M_shuffle_172, wq_M_shuffle_146, wq_M_shuffle_132, wq_M_shuffle_122, wq_M_shuffle_107, wq_M_shuffle_96, wq_M_shuffle_81, wq_M_shuffle_66, wq_M_shuffle_63, wq_M_shuffle_37, wp_M_shuffle, true_implies, false_implies, not_true_eq_false, not_false_eq_true, and_true, true_and]
  refine m_nd1 h k (fun T' p => ⟨fun _ => p, fun z => absurd rfl z⟩) (fun c r hd k => ⟨fun z => absurd z (by decide), fun _ => ?_⟩)
  exact m_pop h hd (fun T1 h1 => m_push1 h1 (by have := h.dsB; rw [hd] at this; simp at this; dsimp only [Ab.set_ds, Ab.ds]; (try simp); omega) (fun T' h' => k _ (RMr.ok h')))
theorem m_12 {A : Ab} {T : StM} {Q : StM → Prop} (h : RM A T) (k : ∀ T', RMr (do12 A) T' → Q T') : wp_M_shuffle Q T 12 := by
  simp (config := {decide := true}) only [wp_M_in, wq_M_in_14, wq_M_in_15, wq_M_shuffle_212, wq_M_shuffle_202, wq_M_shuffle_172, wq_M_shuffle_146, wq_M_shuffle_132, wq_M_shuffle_122, wq_M_shuffle_107, wq_M_shuffle_96, wq_M_shuffle_81, wq_M_shuffle_66, wq_M_shuffle_63, wq_M_shuffle_37, wp_M_shuffle, true_implies, false_implies, not_true_eq_false, not_false_eq_true, and_true, true_and]
  refine m_nd1 h k (fun T' p => ⟨fun _ => p, fun z => absurd rfl z⟩) (fun c r hd k => ⟨fun z => absurd z (by decide), fun _ => ?_⟩)
  exact m_top (i := 0) h (by rw [hd]; rfl) (m_push h k)
theorem m_13 {A : Ab} {T : StM} {Q : StM → Prop} (h : RM A T) (k : ∀ T', RMr (do13 A) T' → Q T') : wp_M_shuffle Q T 13 := by
  simp (config := {decide := true}) only [wp_M_in, wq_M_in_14, wq_M_in_15, wq_M_shuffle_212, wq_M_shuffle_202, wq_M_shuffle_172, wq_M_shuffle_146, wq_M_shuffle_132, wq_M_shuffle_122, wq_M_shuffle_107, wq_M_shuffle_96, wq_M_shuffle_81, wq_M_shuffle_66, wq_M_shuffle_63, wq_M_shuffle_37, wp_M_shuffle, true_implies, false_implies, not_true_eq_false, not_false_eq_true, and_true, true_and]
  refine m_nd1 h k (fun T' p => ⟨fun _ => p, fun z => absurd rfl z⟩) (fun c r hd k => ⟨fun z => absurd z (by decide), fun _ => ?_⟩)
  exact m_pop h hd (fun T' h' => k _ (RMr.ok h'))
theorem m_14 {A : Ab} {T : StM} {Q : StM → Prop} (h : RM A T) (k : ∀ T', RMr (do14 A) T' → Q T') : wp_M_shuffle Q T 14 := by
  simp (config := {decide := true}) only [wp_M_in, wq_M_in_14, wq_M_in_15, wq_M_shuffle_212, wq_M_shuffle_202, wq_M_shuffle_172, wq_M_shuffle_146, wq_M_shuffle_132, wq_M_shuffle_122, wq_M_shuffle_107, wq_M_shuffle_96, wq_M_shuffle_81, wq_M_shuffle_66, wq_M_shuffle_63, wq_M_shuffle_37, wp_M_shuffle, true_implies, false_implies, not_true_eq_false, not_false_eq_true, and_true, true_and]
  refine m_nd2 h k (fun T' p => ⟨fun _ => p, fun z => absurd rfl z⟩) (fun c b r hd k => ⟨fun z => absurd z (by decide), fun _ => ?_⟩)
  exact m_pop h hd (fun T1 h1 => m_pop h1 rfl (fun T2 h2 => m_push1 h2 (by have := h.dsB; rw [hd] at this; simp at this; dsimp only [Ab.set_ds, Ab.ds]; (try simp); omega) (fun T3 h3 => m_push1 h3 (by have := h.dsB; rw [hd] at this; simp at this; dsimp only [Ab.set_ds, Ab.ds]; (try simp); omega) (fun T' h' => k _ (RMr.ok h')))))
theorem m_15 {A : Ab} {T : StM} {Q : StM → Prop} (h : RM A T) (k : ∀ T', RMr (do15 A) T' → Q T') : wp_M_shuffle Q T 15 := by
  simp (config := {decide := true}) only [wp_M_in, wq_M_in_14, wq_M_in_15, wq_M_shuffle_212, wq_M_shuffle_202, wq_M_shuffle_172, wq_M_shuffle_146, wq_M_shuffle_132, wq_M_shuffle_122, wq_M_shuffle_107, wq_M_shuffle_96, wq_M_shuffle_81, wq_M_shuffle_66, wq_M_shuffle_63, wq_M_shuffle_37, wp_M_shuffle, true_implies, false_implies, not_true_eq_false, not_false_eq_true, and_true, true_and]
  refine m_nd2 h k (fun T' p => ⟨fun _ => p, fun z => absurd rfl z⟩) (fun c b r hd k => ⟨fun z => absurd z (by decide), fun _ => ?_⟩)
  exact m_top (i := 1) h (by rw [hd]; rfl) (m_push h k)
theorem m_16 {A : Ab} {T : StM} {Q : StM → Prop} (h : RM A T) (k : ∀ T', RMr (do16 A) T' → Q T') : wp_M_shuffle Q T 16 := by
  simp (config := {decide := true}) only [wp_M_in, wq_M_in_14, wq_M_in_15, wq_M_shuffle_212, wq_M_shuffle_202, wq_M_shuffle_172, wq_M_shuffle_146, wq_M_shuffle_132, wq_M_shuffle_122, wq_M_shuffle_107, wq_M_shuffle_96, wq_M_shuffle_81, wq_M_shuffle_66, wq_M_shuffle_63, wq_M_shuffle_37, wp_M_shuffle, true_implies, false_implies, not_true_eq_false, not_false_eq_true, and_true, true_and]
  refine m_nd3 h k (fun T' p => ⟨fun _ => p, fun z => absurd rfl z⟩) (fun c b a r hd k => ⟨fun z => absurd z (by decide), fun _ => ?_⟩)
  unfold wp_M_rotate
  exact m_pop h hd (fun T1 h1 => m_pop h1 rfl (fun T2 h2 => m_pop h2 rfl (fun T2 h2 => m_push1 h2 (by have := h.dsB; rw [hd] at this; simp at this; dsimp only [Ab.set_ds, Ab.ds]; (try simp); omega) (fun T3 h3 => m_push1 h3 (by have := h.dsB; rw [hd] at this; simp at this; dsimp only [Ab.set_ds, Ab.ds]; (try simp); omega) (fun T3 h3 => m_push1 h3 (by have := h.dsB; rw [hd] at this; simp at this; dsimp only [Ab.set_ds, Ab.ds]; (try simp); omega) (fun T' h' => k _ (RMr.ok h')))))))
theorem m_17 {A : Ab} {T : StM} {Q : StM → Prop} (h : RM A T) (k : ∀ T', RMr (do17 A) T' → Q T') : wp_M_shuffle Q T 17 := by
  simp (config := {decide := true}) only [wp_M_in, wq_M_in_14, wq_M_in_15, wq_M_shuffle_212, wq_M_shuffle_202, wq_M_shuffle_172, wq_M_shuffle_146, wq_M_shuffle_132, wq_M_shuffle_122, wq_M_shuffle_107, wq_M_shuffle_96, wq_M_shuffle_81, wq_M_shuffle_66, wq_M_shuffle_63, wq_M_shuffle_37, wp_M_shuffle, true_implies, false_implies, not_true_eq_false, not_false_eq_true, and_true, true_and]
  refine m_nd0 h ⟨fun z => absurd z (by decide), fun _ => ?_⟩
  rw [h.dsE]
  exact m_push h k
theorem m_22 {A : Ab} {T : StM} {Q : StM → Prop} (h : RM A T) (k : ∀ T', RMr (do22 A) T' → Q T') : wp_M_store Q T 22 := by
  simp (config := {decide := true}) only [wp_M_in, wq_M_in_14, wq_M_in_15, wq_M_store_247, wq_M_store_133, wq_M_store_67, wq_M_store_27, wp_M_store, true_implies, false_implies, not_true_eq_false, not_false_eq_true, and_true, true_and]
  refine m_nd0 h ⟨fun z => absurd z (by decide), fun _ => ?_⟩
  rw [h.hereE]
  exact m_push h k
theorem of_nn {x : Int32} (h : 0 ≤ x.toInt) : Int32.ofNat x.toNatClampNeg = x := by
  apply Int32.toInt_inj.mp
  have h1 : x.toInt < 2147483648 := by have := Int32.toInt_lt x; simpa using this
  have e : x.toNatClampNeg = x.toInt.toNat := rfl
  rw [e, Int32.toInt_ofNat_of_lt (by omega)]
  omega
theorem inH_ok {h : Nat} {c : Int32} (hh : h ≤ 64) (hc : inH h c) : 0 ≤ (Int32.ofNat h + c).toInt ∧ (Int32.ofNat h + c).toInt ≤ 64 := by
  obtain ⟨h0, h1⟩ := hc
  have a0 := i32_nlt h0
  have a1 := i32_nlt h1
  have e0 : (Int32.ofNat h).toInt = (h : Int) := of_small (by omega)
  have e1 : (-Int32.ofNat h).toInt = -(h : Int) := by
    rw [Int32.toInt_neg, e0]
    exact Int.bmod_eq_of_le (by omega) (by omega)
  have e2 : (64 - Int32.ofNat h).toInt = 64 - (h : Int) := by
    have k64 : (64 : Int32).toInt = 64 := rfl
    rw [i32_sub (by omega) (by omega), e0, k64]
  rw [i32_add (by omega) (by omega), e0]
  omega
theorem m_18 {A : Ab} {T : StM} {Q : StM → Prop} (h : RM A T) (hp : A.pr + A.fu < A.pb) (k : ∀ T', RMr (do18 A) T' → Q T') : wp_M_shuffle Q T 18 := by
  simp (config := {decide := true}) only [wp_M_in, wq_M_in_14, wq_M_in_15, wq_M_shuffle_212, wq_M_shuffle_202, wq_M_shuffle_172, wq_M_shuffle_146, wq_M_shuffle_132, wq_M_shuffle_122, wq_M_shuffle_107, wq_M_shuffle_96, wq_M_shuffle_81, wq_M_shuffle_66, wq_M_shuffle_63, wq_M_shuffle_37, wp_M_shuffle, true_implies, false_implies, not_true_eq_false, not_false_eq_true, and_true, true_and]
  refine m_nd1 h k (fun T' p => ⟨fun _ => p, fun z => absurd rfl z⟩) (fun c r hd k => ⟨fun z => absurd z (by decide), fun _ => ?_⟩)
  refine m_pop h hd (fun T1 h1 => ?_)
  have hB := h1.pbB
  have hp1 : A.pr + A.fu ≤ A.pb := h1.prB
  have hB1 : A.pb ≤ 400000 := hB
  have eP : T1.1 11 = Int32.ofNat A.pr := h1.prE
  have eO := h1.outE
  refine ⟨fun z => k _ (RMr.ok ?_), fun z => ⟨?_, k _ (RMr.ok ?_)⟩⟩
  · rw [eP, r_le (by decide) (by omega)] at z
    exact (RM.mk (h1.hereE) (h1.hereB) (h1.memE) (by show T1.1 11 + 1 = _; rw [eP, of_succ]; (try rfl)) (by show A.pr + 1 + A.fu ≤ A.pb; omega) (h1.pbB) (fun i h40 hi => by
        rw [if_neg (by omega)]
        exact eO i h40 (by show i < A.pr; omega)) (h1.fuE) (h1.blkE) (h1.hasE) (h1.hasB) (h1.upE) (h1.toldE) (h1.toldB) (h1.upB) (h1.toldH) (h1.madeE) (h1.madeB) (h1.wsE) (h1.namE) (h1.txE) (h1.txB) (h1.txC) (h1.txO) (h1.posE) (h1.posB) (h1.tkE) (h1.tlE) (h1.err) (h1.dsE) (h1.dsB) (h1.dsS) (h1.rsE) (h1.rsB) (h1.rsS) (h1.csE) (h1.csB) (h1.csS) (h1.csW) (h1.drE) (h1.drW) (h1.opE) (h1.opB) (h1.opK) (h1.opA))
  · rw [eP, r_le (by decide) (by omega)] at z
    rw [eP]
    exact n_in (by omega) (by omega)
  · rw [eP, r_le (by decide) (by omega)] at z
    exact (RM.mk (h1.hereE) (h1.hereB) (h1.memE) (by show T1.1 11 + 1 = _; rw [eP, of_succ]; (try rfl)) (by show A.pr + 1 + A.fu ≤ A.pb; omega) (h1.pbB) (fun i h40 hi => by
        rw [if_pos (by omega)]
        show upd (T1.2.1 12) (T1.1 11).toNatClampNeg c i = upd A.out A.pr c i
        rw [eP, n_cl (by omega)]
        by_cases e : i = A.pr
        · rw [e, upd_at, upd_at]
        · rw [upd_ne _ _ e, upd_ne _ _ e]
          have hi' : i < A.pr + 1 := hi
          exact eO i h40 (by show i < A.pr; omega)) (h1.fuE) (h1.blkE) (h1.hasE) (h1.hasB) (h1.upE) (h1.toldE) (h1.toldB) (h1.upB) (h1.toldH) (h1.madeE) (h1.madeB) (h1.wsE) (h1.namE) (h1.txE) (h1.txB) (h1.txC) (h1.txO) (h1.posE) (h1.posB) (h1.tkE) (h1.tlE) (h1.err) (h1.dsE) (h1.dsB) (h1.dsS) (h1.rsE) (h1.rsB) (h1.rsS) (h1.csE) (h1.csB) (h1.csS) (h1.csW) (h1.drE) (h1.drW) (h1.opE) (h1.opB) (h1.opK) (h1.opA))
theorem m_19 {A : Ab} {T : StM} {Q : StM → Prop} (h : RM A T) (k : ∀ T', RMr (do19 A) T' → Q T') : wp_M_store Q T 19 := by
  simp (config := {decide := true}) only [wp_M_in, wq_M_in_14, wq_M_in_15, wq_M_store_247, wq_M_store_133, wq_M_store_67, wq_M_store_27, wp_M_store, true_implies, false_implies, not_true_eq_false, not_false_eq_true, and_true, true_and]
  refine m_nd1 h k (fun T' p => ⟨fun _ => p, fun z => absurd rfl z⟩) (fun c r hd k => ⟨fun z => absurd z (by decide), fun _ => ?_⟩)
  refine m_top (i := 0) h (by rw [hd]; rfl) ⟨fun z => m_fail h (by decide) (fun T' h1 h2 => k _ ?_), fun z => ⟨fun y => m_fail h (by decide) (fun T' h1 h2 => k _ ?_), fun y => ?_⟩⟩
  · rw [if_neg (fun q => q.1 z)]
    exact RMr.no (by decide) h1 h2
  · rw [if_neg (fun q => q.2 y)]
    exact RMr.no (by decide) h1 h2
  · have hc : inM c := ⟨z, y⟩
    rw [if_pos hc] at k
    have hm := inM_in hc
    refine m_pop h hd (fun T1 h1 => ⟨hm.1, ?_⟩)
    have em : T1.2.1 9 c.toNatClampNeg = A.mem c.toNatClampNeg := h1.memE _ hm.2
    rw [em]
    exact m_push1 h1 (by have := h.dsB; rw [hd] at this; simp at this; dsimp only [Ab.set_ds, Ab.ds]; (try simp); omega) (fun T' h' => k _ (RMr.ok h'))
theorem m_20 {A : Ab} {T : StM} {Q : StM → Prop} (h : RM A T) (k : ∀ T', RMr (do20 A) T' → Q T') : wp_M_store Q T 20 := by
  simp (config := {decide := true}) only [wp_M_in, wq_M_in_14, wq_M_in_15, wq_M_store_247, wq_M_store_133, wq_M_store_67, wq_M_store_27, wp_M_store, true_implies, false_implies, not_true_eq_false, not_false_eq_true, and_true, true_and]
  refine m_nd2 h k (fun T' p => ⟨fun _ => p, fun z => absurd rfl z⟩) (fun c b r hd k => ⟨fun z => absurd z (by decide), fun _ => ?_⟩)
  refine m_top (i := 0) h (by rw [hd]; rfl) ⟨fun z => m_fail h (by decide) (fun T' h1 h2 => k _ ?_), fun z => ⟨fun y => m_fail h (by decide) (fun T' h1 h2 => k _ ?_), fun y => ?_⟩⟩
  · rw [if_neg (fun q => q.1 z)]
    exact RMr.no (by decide) h1 h2
  · rw [if_neg (fun q => q.2 y)]
    exact RMr.no (by decide) h1 h2
  · have hc : inM c := ⟨z, y⟩
    rw [if_pos hc] at k
    have hm := inM_in hc
    refine m_pop h hd (fun T1 h1 => m_pop h1 rfl (fun T2 h2 => ⟨hm.1, ?_⟩))
    have em := h2.memE
    refine k _ (RMr.ok (RM.mk (h2.hereE) (h2.hereB) (fun i hi => ?_) (h2.prE) (h2.prB) (h2.pbB) (h2.outE) (h2.fuE) (h2.blkE) (h2.hasE) (h2.hasB) (h2.upE) (h2.toldE) (h2.toldB) (h2.upB) (h2.toldH) (h2.madeE) (h2.madeB) (h2.wsE) (h2.namE) (h2.txE) (h2.txB) (h2.txC) (h2.txO) (h2.posE) (h2.posB) (h2.tkE) (h2.tlE) (h2.err) (h2.dsE) (h2.dsB) (h2.dsS) (h2.rsE) (h2.rsB) (h2.rsS) (h2.csE) (h2.csB) (h2.csS) (h2.csW) (h2.drE) (h2.drW) (h2.opE) (h2.opB) (h2.opK) (h2.opA)))
    show upd (T2.2.1 9) c.toNatClampNeg b i = _
    
    by_cases e : i = c.toNatClampNeg
    · subst e
      exact (upd_at _ _ _).trans (upd_at _ _ _).symm
    · exact (upd_ne _ _ e).trans ((em i hi).trans (upd_ne _ _ e).symm)
theorem m_21 {A : Ab} {T : StM} {Q : StM → Prop} (h : RM A T) (k : ∀ T', RMr (do21 A) T' → Q T') : wp_M_store Q T 21 := by
  simp (config := {decide := true}) only [wp_M_in, wq_M_in_14, wq_M_in_15, wq_M_store_247, wq_M_store_133, wq_M_store_67, wq_M_store_27, wp_M_store, true_implies, false_implies, not_true_eq_false, not_false_eq_true, and_true, true_and]
  refine m_nd2 h k (fun T' p => ⟨fun _ => p, fun z => absurd rfl z⟩) (fun c b r hd k => ⟨fun z => absurd z (by decide), fun _ => ?_⟩)
  refine m_top (i := 0) h (by rw [hd]; rfl) ⟨fun z => m_fail h (by decide) (fun T' h1 h2 => k _ ?_), fun z => ⟨fun y => m_fail h (by decide) (fun T' h1 h2 => k _ ?_), fun y => ?_⟩⟩
  · rw [if_neg (fun q => q.1 z)]
    exact RMr.no (by decide) h1 h2
  · rw [if_neg (fun q => q.2 y)]
    exact RMr.no (by decide) h1 h2
  · have hc : inM c := ⟨z, y⟩
    rw [if_pos hc] at k
    have hm := inM_in hc
    refine m_pop h hd (fun T1 h1 => m_pop h1 rfl (fun T2 h2 => ⟨hm.1, hm.1, ?_⟩))
    have em := h2.memE
    refine k _ (RMr.ok (RM.mk (h2.hereE) (h2.hereB) (fun i hi => ?_) (h2.prE) (h2.prB) (h2.pbB) (h2.outE) (h2.fuE) (h2.blkE) (h2.hasE) (h2.hasB) (h2.upE) (h2.toldE) (h2.toldB) (h2.upB) (h2.toldH) (h2.madeE) (h2.madeB) (h2.wsE) (h2.namE) (h2.txE) (h2.txB) (h2.txC) (h2.txO) (h2.posE) (h2.posB) (h2.tkE) (h2.tlE) (h2.err) (h2.dsE) (h2.dsB) (h2.dsS) (h2.rsE) (h2.rsB) (h2.rsS) (h2.csE) (h2.csB) (h2.csS) (h2.csW) (h2.drE) (h2.drW) (h2.opE) (h2.opB) (h2.opK) (h2.opA)))
    show upd (T2.2.1 9) c.toNatClampNeg (T2.2.1 9 c.toNatClampNeg + b) i = _
    rw [em _ hm.2]
    by_cases e : i = c.toNatClampNeg
    · subst e
      exact (upd_at _ _ _).trans (upd_at _ _ _).symm
    · exact (upd_ne _ _ e).trans ((em i hi).trans (upd_ne _ _ e).symm)
theorem m_23 {A : Ab} {T : StM} {Q : StM → Prop} (h : RM A T) (k : ∀ T', RMr (do23 A) T' → Q T') : wp_M_store Q T 23 := by
  simp (config := {decide := true}) only [wp_M_in, wq_M_in_14, wq_M_in_15, wq_M_store_247, wq_M_store_133, wq_M_store_67, wq_M_store_27, wp_M_store, true_implies, false_implies, not_true_eq_false, not_false_eq_true, and_true, true_and]
  refine m_nd1 h k (fun T' p => ⟨fun _ => p, fun z => absurd rfl z⟩) (fun c r hd k => ⟨fun z => absurd z (by decide), fun _ => ?_⟩)
  have hb := h.hereB
  refine ⟨fun z => ?_, fun z => m_fail h (by decide) (fun T' h1 h2 => k _ ?_)⟩
  · rw [h.hereE, l_lt (by omega) (by decide)] at z
    rw [if_pos z] at k
    refine m_pop h hd (fun T1 h1 => ⟨?_, ?_⟩)
    · rw [h.hereE]
      exact n_in (by omega) (by omega)
    · have em := h1.memE
      have eH : T1.1 10 = Int32.ofNat A.here := h1.hereE
      refine k _ (RMr.ok (RM.mk (by show T1.1 10 + 1 = _; rw [eH, of_succ]; (try rfl)) (by show A.here + 1 ≤ 64; omega) (fun i hi => ?_) (h1.prE) (h1.prB) (h1.pbB) (h1.outE) (h1.fuE) (h1.blkE) (h1.hasE) (h1.hasB) (h1.upE) (h1.toldE) (h1.toldB) (h1.upB) (h1.toldH) (h1.madeE) (h1.madeB) (h1.wsE) (h1.namE) (h1.txE) (h1.txB) (h1.txC) (h1.txO) (h1.posE) (h1.posB) (h1.tkE) (h1.tlE) (h1.err) (h1.dsE) (h1.dsB) (h1.dsS) (h1.rsE) (h1.rsB) (h1.rsS) (h1.csE) (h1.csB) (h1.csS) (h1.csW) (h1.drE) (h1.drW) (h1.opE) (h1.opB) (h1.opK) (h1.opA)))
      show upd (T1.2.1 9) (T.1 10).toNatClampNeg c i = upd A.mem A.here c i
      rw [h.hereE, n_cl (by omega)]
      by_cases e : i = A.here
      · rw [e, upd_at, upd_at]
      · rw [upd_ne _ _ e, upd_ne _ _ e]
        exact em i hi
  · rw [h.hereE, l_lt (by omega) (by decide)] at z
    rw [if_neg z]
    exact RMr.no (by decide) h1 h2
theorem m_24 {A : Ab} {T : StM} {Q : StM → Prop} (h : RM A T) (k : ∀ T', RMr (do24 A) T' → Q T') : wp_M_store Q T 24 := by
  simp (config := {decide := true}) only [wp_M_in, wq_M_in_14, wq_M_in_15, wq_M_store_247, wq_M_store_133, wq_M_store_67, wq_M_store_27, wp_M_store, true_implies, false_implies, not_true_eq_false, not_false_eq_true, and_true, true_and]
  refine m_nd1 h k (fun T' p => ⟨fun _ => p, fun z => absurd rfl z⟩) (fun c r hd k => ⟨fun z => absurd z (by decide), fun _ => ?_⟩)
  refine m_top (i := 0) h (by rw [hd]; rfl) ?_
  rw [h.hereE]
  refine ⟨fun z => m_fail h (by decide) (fun T' h1 h2 => k _ ?_), fun z => ⟨fun y => m_fail h (by decide) (fun T' h1 h2 => k _ ?_), fun y => ?_⟩⟩
  · rw [if_neg (fun q => q.1 z)]
    exact RMr.no (by decide) h1 h2
  · rw [if_neg (fun q => q.2 y)]
    exact RMr.no (by decide) h1 h2
  · have hc : inH A.here c := ⟨z, y⟩
    have ho := inH_ok h.hereB hc
    rw [if_pos hc] at k
    refine m_pop h hd (fun T1 h1 => k _ (RMr.ok (RM.mk (by show Int32.ofNat A.here + c = _; exact (of_nn ho.1).symm) (by
        show (Int32.ofNat A.here + c).toInt.toNat ≤ 64
        omega) (h1.memE) (h1.prE) (h1.prB) (h1.pbB) (h1.outE) (h1.fuE) (h1.blkE) (h1.hasE) (h1.hasB) (h1.upE) (h1.toldE) (h1.toldB) (h1.upB) (h1.toldH) (h1.madeE) (h1.madeB) (h1.wsE) (h1.namE) (h1.txE) (h1.txB) (h1.txC) (h1.txO) (h1.posE) (h1.posB) (h1.tkE) (h1.tlE) (h1.err) (h1.dsE) (h1.dsB) (h1.dsS) (h1.rsE) (h1.rsB) (h1.rsS) (h1.csE) (h1.csB) (h1.csS) (h1.csW) (h1.drE) (h1.drW) (h1.opE) (h1.opB) (h1.opK) (h1.opA))))
theorem m_25 {A : Ab} {T : StM} {Q : StM → Prop} (h : RM A T) (k : ∀ T', RMr (do25 A) T' → Q T') : wp_M_returns Q T 25 := by
  simp (config := {decide := true}) only [wp_M_in, wq_M_in_14, wq_M_in_15, wq_M_returns_194, wq_M_returns_154, wq_M_returns_121, wq_M_returns_117, wp_M_returns, true_implies, false_implies, not_true_eq_false, not_false_eq_true, and_true, true_and]
  refine m_nd1 h k (fun T' p => ⟨fun _ => p, fun z => absurd rfl z⟩) (fun c r hd k => ⟨fun z => absurd z (by decide), fun _ => ?_⟩)
  have hb := h.rsB
  refine ⟨fun z => ?_, fun z => m_fail h (by decide) (fun T' h1 h2 => k _ ?_)⟩
  · rw [h.rsE, l_lt (by omega) (by decide)] at z
    rw [if_pos z] at k
    refine m_pop h hd (fun T1 h1 => ⟨?_, ?_⟩)
    · rw [h.rsE]
      exact n_in (by omega) (by omega)
    · have eR : T1.1 8 = Int32.ofNat A.rs.length := h1.rsE
      have sR : Stk (T1.2.1 7) A.rs := h1.rsS
      refine k _ (RMr.ok (RM.mk (h1.hereE) (h1.hereB) (h1.memE) (h1.prE) (h1.prB) (h1.pbB) (h1.outE) (h1.fuE) (h1.blkE) (h1.hasE) (h1.hasB) (h1.upE) (h1.toldE) (h1.toldB) (h1.upB) (h1.toldH) (h1.madeE) (h1.madeB) (h1.wsE) (h1.namE) (h1.txE) (h1.txB) (h1.txC) (h1.txO) (h1.posE) (h1.posB) (h1.tkE) (h1.tlE) (h1.err) (h1.dsE) (h1.dsB) (h1.dsS) (by show T1.1 8 + 1 = _; rw [eR, of_succ]; (try rfl)) (by show (c :: A.rs).length ≤ 24; simp; omega) (?_) (h1.csE) (h1.csB) (h1.csS) (h1.csW) (h1.drE) (h1.drW) (h1.opE) (h1.opB) (h1.opK) (h1.opA)))
      show Stk (upd (T1.2.1 7) (T.1 8).toNatClampNeg c) (c :: A.rs)
      rw [h.rsE, n_cl (by omega)]
      exact ⟨upd_at _ _ _, sR.put (Nat.le_refl _)⟩
  · rw [h.rsE, l_lt (by omega) (by decide)] at z
    rw [if_neg z]
    exact RMr.no (by decide) h1 h2
theorem m_26 {A : Ab} {T : StM} {Q : StM → Prop} (h : RM A T) (k : ∀ T', RMr (do26 A) T' → Q T') : wp_M_returns Q T 26 := by
  simp (config := {decide := true}) only [wp_M_in, wq_M_in_14, wq_M_in_15, wq_M_returns_194, wq_M_returns_154, wq_M_returns_121, wq_M_returns_117, wp_M_returns, true_implies, false_implies, not_true_eq_false, not_false_eq_true, and_true, true_and]
  have hb := h.rsB
  match hr : A.rs with
  | [] =>
    have e : T.1 8 = 0 := by rw [h.rsE, hr]; rfl
    refine ⟨fun _ => m_fail h (by decide) (fun T' h1 h2 => k _ ?_), fun z => absurd e z⟩
    rw [do26, hr]
    exact RMr.no (by decide) h1 h2
  | x :: l =>
    rw [hr] at hb
    simp at hb
    have e : T.1 8 = Int32.ofNat (l.length + 1) := by rw [h.rsE, hr]; rfl
    have e1 : T.1 8 - 1 = Int32.ofNat l.length := by
      rw [e]
      exact n_sub (a := l.length + 1) (b := 1) (by omega)
    have hs := h.rsS
    rw [hr] at hs
    have hne : ¬ T.1 8 = 0 := by
      rw [e, l_eq (by omega) (by decide)]
      omega
    refine ⟨fun z => absurd z hne, fun _ => ⟨?_, ?_⟩⟩
    · rw [e1]
      exact n_in (by omega) (by omega)
    rw [e1, n_cl (by omega), hs.1]
    rw [do26, hr] at k
    dsimp only at k
    refine m_push h (fun T1 h1 => ?_)
    by_cases hn : A.ds.length < 24
    · rw [pushR, if_pos hn] at h1
      have h2 := h1.1 rfl
      refine ⟨fun _ => k _ ?_, fun z => absurd h2.err z⟩
      rw [if_pos hn]
      have eR : T1.1 8 = Int32.ofNat A.rs.length := h2.rsE
      exact RMr.ok (RM.mk (h2.hereE) (h2.hereB) (h2.memE) (h2.prE) (h2.prB) (h2.pbB) (h2.outE) (h2.fuE) (h2.blkE) (h2.hasE) (h2.hasB) (h2.upE) (h2.toldE) (h2.toldB) (h2.upB) (h2.toldH) (h2.madeE) (h2.madeB) (h2.wsE) (h2.namE) (h2.txE) (h2.txB) (h2.txC) (h2.txO) (h2.posE) (h2.posB) (h2.tkE) (h2.tlE) (h2.err) (h2.dsE) (h2.dsB) (h2.dsS) (by
          show T1.1 8 - 1 = _
          rw [eR, hr]
          exact n_sub (a := l.length + 1) (b := 1) (by omega)) (by show l.length ≤ 24; omega) (by
          have : Stk (T1.2.1 7) A.rs := h2.rsS
          rw [hr] at this
          exact this.2) (h2.csE) (h2.csB) (h2.csS) (h2.csW) (h2.drE) (h2.drW) (h2.opE) (h2.opB) (h2.opK) (h2.opA))
    · rw [pushR, if_neg hn] at h1
      obtain ⟨h2, h3⟩ := h1.2 (show (3 : Int32) ≠ 0 by decide)
      refine ⟨fun z => absurd (h3.symm.trans z) (show (3 : Int32) ≠ 0 by decide), fun _ => k _ ?_⟩
      rw [if_neg hn]
      exact RMr.no (by decide) (RMw.mk (h2.hereE) (h2.hereB) (h2.memE) (h2.prE) (h2.prB) (h2.pbB) (h2.outE) (h2.fuE) (h2.blkE) (h2.hasE) (h2.hasB) (h2.upE) (h2.toldE) (h2.toldB) (h2.upB) (h2.toldH) (h2.madeE) (h2.madeB) (h2.wsE) (h2.namE) (h2.txE) (h2.txB) (h2.txC) (h2.txO) (h2.posE) (h2.posB) (h2.tkE) (h2.tlE)) h3
theorem m_27 {A : Ab} {T : StM} {Q : StM → Prop} (h : RM A T) (k : ∀ T', RMr (do27 A) T' → Q T') : wp_M_returns Q T 27 := by
  simp (config := {decide := true}) only [wp_M_in, wq_M_in_14, wq_M_in_15, wq_M_returns_194, wq_M_returns_154, wq_M_returns_121, wq_M_returns_117, wp_M_returns, true_implies, false_implies, not_true_eq_false, not_false_eq_true, and_true, true_and]
  have hb := h.rsB
  match hr : A.rs with
  | [] =>
    have e : T.1 8 = 0 := by rw [h.rsE, hr]; rfl
    refine ⟨fun _ => m_fail h (by decide) (fun T' h1 h2 => k _ ?_), fun z => absurd e z⟩
    rw [do27, hr]
    exact RMr.no (by decide) h1 h2
  | x :: l =>
    rw [hr] at hb
    simp at hb
    have e : T.1 8 = Int32.ofNat (l.length + 1) := by rw [h.rsE, hr]; rfl
    have e1 : T.1 8 - 1 = Int32.ofNat l.length := by
      rw [e]
      exact n_sub (a := l.length + 1) (b := 1) (by omega)
    have hs := h.rsS
    rw [hr] at hs
    have hne : ¬ T.1 8 = 0 := by
      rw [e, l_eq (by omega) (by decide)]
      omega
    refine ⟨fun z => absurd z hne, fun _ => ⟨?_, ?_⟩⟩
    · rw [e1]
      exact n_in (by omega) (by omega)
    rw [e1, n_cl (by omega), hs.1]
    rw [do27, hr] at k
    dsimp only at k
    refine m_push h (fun T1 h1 => ?_)
    have hk : RMr (pushR A x) (upd T1.1 8 (T1.1 8), T1.2) := by
      have e8 : upd T1.1 8 (T1.1 8) = T1.1 := by
        funext i
        by_cases q : i = 8
        · rw [q, upd_at]
        · rw [upd_ne _ _ q]
      rw [e8]
      exact h1
    exact ⟨fun _ => k _ hk, fun _ => k _ hk⟩
theorem m_28 {A : Ab} {T : StM} {Q : StM → Prop} (h : RM A T) (k : ∀ T', RMr (do28 A) T' → Q T') : wp_M_returns Q T 28 := by
  simp (config := {decide := true}) only [wp_M_in, wq_M_in_14, wq_M_in_15, wq_M_returns_194, wq_M_returns_154, wq_M_returns_121, wq_M_returns_117, wp_M_returns, true_implies, false_implies, not_true_eq_false, not_false_eq_true, and_true, true_and]
  have hb := h.csB
  have e27 : (28 - 27 : Int32) = Int32.ofNat 1 := rfl
  rw [e27]
  match hc : A.cs with
  | [] =>
    have e : T.1 25 = 0 := by rw [h.csE, hc]; rfl
    refine ⟨fun _ => m_fail h (by decide) (fun T' h1 h2 => k _ ?_), fun z => absurd e z⟩
    rw [do28, lpR, hc]
    exact RMr.no (by decide) h1 h2
  | fr :: l =>
    rw [hc] at hb
    simp at hb
    have e : T.1 25 = Int32.ofNat (l.length + 1) := by rw [h.csE, hc]; rfl
    have e1 : T.1 25 - 1 = Int32.ofNat l.length := by
      rw [e]
      exact n_sub (a := l.length + 1) (b := 1) (by omega)
    have hs := h.csS
    rw [hc] at hs
    have hf := hs.1
    have hl := hf.len
    have hne : ¬ T.1 25 = 0 := by
      rw [e, l_eq (by omega) (by decide)]
      omega
    refine ⟨fun z => absurd z hne, fun _ => ?_⟩
    rw [e1, n_cl (by omega), hf.n]
    have hin : vp_in (Int32.ofNat l.length) 16 := n_in (by omega) (by omega)
    refine ⟨hin, fun z => ⟨hin, ?_⟩, fun z => m_fail h (by decide) (fun T' h1 h2 => k _ ?_)⟩
    · rw [n_le (by omega) (by omega)] at z
      have e2 : 4 * Int32.ofNat l.length + Int32.ofNat fr.lp.length - Int32.ofNat 1 = Int32.ofNat (4 * l.length + (fr.lp.length - 1 - 0)) := by
        rw [show (4 : Int32) = Int32.ofNat 4 from rfl, n_mul, n_add, n_sub (by omega)]
        congr 1
        omega
      rw [e2, n_cl (by omega)]
      refine ⟨n_in (by omega) (by omega), ?_⟩
      match hp : fr.lp[0]? with
      | none =>
        rw [List.getElem?_eq_none_iff] at hp
        omega
      | some p =>
        have eg : (fr.lp.map (fun p => p.1))[0]? = some p.1 := by rw [List.getElem?_map, hp]; rfl
        have hg := hf.ct.get eg
        rw [List.length_map] at hg
        rw [hg]
        rw [do28, lpR, hc] at k
        simp only [hp] at k
        exact m_push h k
    · rw [n_le (by omega) (by omega)] at z
      rw [do28, lpR, hc]
      have hp : fr.lp[0]? = none := by
        rw [List.getElem?_eq_none_iff]
        omega
      simp only [hp]
      exact RMr.no (by decide) h1 h2
theorem m_29 {A : Ab} {T : StM} {Q : StM → Prop} (h : RM A T) (k : ∀ T', RMr (do29 A) T' → Q T') : wp_M_returns Q T 29 := by
  simp (config := {decide := true}) only [wp_M_in, wq_M_in_14, wq_M_in_15, wq_M_returns_194, wq_M_returns_154, wq_M_returns_121, wq_M_returns_117, wp_M_returns, true_implies, false_implies, not_true_eq_false, not_false_eq_true, and_true, true_and]
  have hb := h.csB
  have e27 : (29 - 27 : Int32) = Int32.ofNat 2 := rfl
  rw [e27]
  match hc : A.cs with
  | [] =>
    have e : T.1 25 = 0 := by rw [h.csE, hc]; rfl
    refine ⟨fun _ => m_fail h (by decide) (fun T' h1 h2 => k _ ?_), fun z => absurd e z⟩
    rw [do29, lpR, hc]
    exact RMr.no (by decide) h1 h2
  | fr :: l =>
    rw [hc] at hb
    simp at hb
    have e : T.1 25 = Int32.ofNat (l.length + 1) := by rw [h.csE, hc]; rfl
    have e1 : T.1 25 - 1 = Int32.ofNat l.length := by
      rw [e]
      exact n_sub (a := l.length + 1) (b := 1) (by omega)
    have hs := h.csS
    rw [hc] at hs
    have hf := hs.1
    have hl := hf.len
    have hne : ¬ T.1 25 = 0 := by
      rw [e, l_eq (by omega) (by decide)]
      omega
    refine ⟨fun z => absurd z hne, fun _ => ?_⟩
    rw [e1, n_cl (by omega), hf.n]
    have hin : vp_in (Int32.ofNat l.length) 16 := n_in (by omega) (by omega)
    refine ⟨hin, fun z => ⟨hin, ?_⟩, fun z => m_fail h (by decide) (fun T' h1 h2 => k _ ?_)⟩
    · rw [n_le (by omega) (by omega)] at z
      have e2 : 4 * Int32.ofNat l.length + Int32.ofNat fr.lp.length - Int32.ofNat 2 = Int32.ofNat (4 * l.length + (fr.lp.length - 1 - 1)) := by
        rw [show (4 : Int32) = Int32.ofNat 4 from rfl, n_mul, n_add, n_sub (by omega)]
        congr 1
        omega
      rw [e2, n_cl (by omega)]
      refine ⟨n_in (by omega) (by omega), ?_⟩
      match hp : fr.lp[1]? with
      | none =>
        rw [List.getElem?_eq_none_iff] at hp
        omega
      | some p =>
        have eg : (fr.lp.map (fun p => p.1))[1]? = some p.1 := by rw [List.getElem?_map, hp]; rfl
        have hg := hf.ct.get eg
        rw [List.length_map] at hg
        rw [hg]
        rw [do29, lpR, hc] at k
        simp only [hp] at k
        exact m_push h k
    · rw [n_le (by omega) (by omega)] at z
      rw [do29, lpR, hc]
      have hp : fr.lp[1]? = none := by
        rw [List.getElem?_eq_none_iff]
        omega
      simp only [hp]
      exact RMr.no (by decide) h1 h2
