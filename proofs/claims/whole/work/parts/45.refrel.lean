def oE : Option Nat → Int32
  | none => -1
  | some n => Int32.ofNat n
def bE (b : Bool) : Int32 := if b then 1 else 0
def keyN (l : List Int32) : Int64 := l.foldl (fun v c => v * 128 + c.toInt64) 0
/-- the reference's word k is w -/
structure WdA (im many kinds nums : Nat → Int32) (names : Nat → Int64) (k : Nat) (w : Wd) : Prop where
  nm : names (52 + k) = keyN w.nm
  many : many k = Int32.ofNat w.it.length
  len : w.it.length ≤ 60
  it : ∀ i p, w.it[i]? = some p → kinds (60 * k + i) = Int32.ofNat p.1 ∧ nums (60 * k + i) = p.2
  im : im k = bE w.im
abbrev WdM (T : StM) (k : Nat) (w : Wd) : Prop := WdA (T.2.1 16) (T.2.1 17) (T.2.1 18) (T.2.1 19) T.2.2 k w
structure FrA (wd nx lo ct lm : Nat → Int32) (c : Nat) (fr : Fr) : Prop where
  w : wd c = Int32.ofNat fr.w
  nx : nx c = Int32.ofNat fr.nx
  n : lo c = Int32.ofNat fr.lp.length
  len : fr.lp.length ≤ 4
  ct : Stk (fun j => ct (4 * c + j)) (fr.lp.map (fun p => p.1))
  lm : Stk (fun j => lm (4 * c + j)) (fr.lp.map (fun p => p.2))
def FrAS (wd nx lo ct lm : Nat → Int32) : List Fr → Prop
  | [] => True
  | fr :: l => FrA wd nx lo ct lm l.length fr ∧ FrAS wd nx lo ct lm l
abbrev FrM (T : StM) (c : Nat) (fr : Fr) : Prop := FrA (T.2.1 26) (T.2.1 27) (T.2.1 28) (T.2.1 29) (T.2.1 30) c fr
abbrev FrS (T : StM) (l : List Fr) : Prop := FrAS (T.2.1 26) (T.2.1 27) (T.2.1 28) (T.2.1 29) (T.2.1 30) l
/-- what an error leaves as it is -/
structure RMw (A : Ab) (T : StM) : Prop where
  hereE : T.1 10 = Int32.ofNat A.here
  hereB : A.here ≤ 64
  memE : ∀ i, i < 96 → T.2.1 9 i = A.mem i
  prE : T.1 11 = Int32.ofNat A.pr
  prB : A.pr + A.fu ≤ A.pb
  pbB : A.pb ≤ 400000
  outE : ∀ i, i < 40 → i < A.pr → T.2.1 12 i = A.out i
  fuE : T.1 13 = Int32.ofNat A.fu
  blkE : ∀ b i, b < 4 → i < 16 → T.2.1 31 (16 * b + i) = A.blk b i
  hasE : ∀ b, b < 2 → T.2.1 32 b = oE (A.has b)
  hasB : ∀ b n, b < 2 → A.has b = some n → n < 4
  upE : ∀ b, b < 2 → T.2.1 33 b = bE (A.up b)
  toldE : T.1 34 = oE A.told
  toldB : ∀ n, A.told = some n → n < 2
  upB : ∀ b, b < 2 → A.up b = true → A.has b ≠ none
  toldH : ∀ b, A.told = some b → A.has b ≠ none
  madeE : T.1 20 = Int32.ofNat A.ws.length
  madeB : A.ws.length ≤ 24
  wsE : ∀ k w, A.ws[k]? = some w → WdM T k w
  namE : ∀ k, k < 52 → T.2.2 k = nmL.getD k 0
  txE : T.1 1 = Int32.ofNat A.tx.length
  txB : A.tx.length ≤ 120
  txC : ∀ i c, A.tx[i]? = some c → T.2.1 0 i = c
  txO : ∀ c ∈ A.tx, okB c
  posE : T.1 2 = Int32.ofNat A.pos
  posB : A.pos ≤ A.tx.length
  tkE : T.1 3 = Int32.ofNat A.tk
  tlE : T.1 4 = Int32.ofNat A.tl
structure RM (A : Ab) (T : StM) : Prop extends RMw A T where
  err : T.1 14 = 0
  dsE : T.1 6 = Int32.ofNat A.ds.length
  dsB : A.ds.length ≤ 24
  dsS : Stk (T.2.1 5) A.ds
  rsE : T.1 8 = Int32.ofNat A.rs.length
  rsB : A.rs.length ≤ 24
  rsS : Stk (T.2.1 7) A.rs
  csE : T.1 25 = Int32.ofNat A.cs.length
  csB : A.cs.length ≤ 16
  csS : FrS T A.cs
  csW : ∀ fr ∈ A.cs, ∃ w, A.ws[fr.w]? = some w ∧ fr.nx ≤ w.it.length
  drE : T.1 21 = bE A.dr.isSome
  drW : ∀ w, A.dr = some w → A.ws.length < 24 ∧ WdM T A.ws.length w
  opE : A.dr ≠ none → T.1 22 = Int32.ofNat A.op.length
  opB : A.op.length ≤ 8
  opK : A.dr ≠ none → Stk (T.2.1 23) (A.op.map (fun p => Int32.ofNat p.1))
  opA : A.dr ≠ none → Stk (T.2.1 24) (A.op.map (fun p => Int32.ofNat p.2))
def RMr (r : Int32 × Ab) (T : StM) : Prop := (r.1 = 0 → RM r.2 T) ∧ (r.1 ≠ 0 → RMw r.2 T ∧ T.1 14 = r.1)
theorem RMr.ok {A : Ab} {T : StM} (h : RM A T) : RMr (0, A) T := ⟨fun _ => h, fun n => absurd rfl n⟩
theorem RMr.no {A : Ab} {T : StM} {e : Int32} (he : e ≠ 0) (h : RMw A T) (h1 : T.1 14 = e) : RMr (e, A) T := ⟨fun n => absurd n he, fun _ => ⟨h, h1⟩⟩
theorem RMw.err {A : Ab} {T : StM} (e : Int32) (h : RMw A T) : RMw A (upd T.1 14 e, T.2) := { h with }
theorem m_fail {A : Ab} {T : StM} {Q : StM → Prop} {e : Int32} (h : RM A T) (he : e ≠ 0) (k : ∀ T', RMw A T' → T'.1 14 = e → Q T') : wp_M_fail Q T e :=
  ⟨fun _ => k _ (h.toRMw.err e) rfl, fun n => absurd h.err n⟩
def pushR (A : Ab) (v : Int32) : Int32 × Ab := if A.ds.length < 24 then (0, { A with ds := v :: A.ds }) else (3, A)
theorem RM.push {A : Ab} {T : StM} {v : Int32} (h : RM A T) (hn : A.ds.length < 24) : RM { A with ds := v :: A.ds } (upd T.1 6 (T.1 6 + 1), va_up T.2.1 5 (upd (T.2.1 5) (Int32.toNatClampNeg (T.1 6)) v), T.2.2) :=
  { h with
    dsE := by
      show T.1 6 + 1 = _
      rw [h.dsE, of_succ]
      rfl
    dsB := by simp; omega
    dsS := by
      show Stk (upd (T.2.1 5) (Int32.toNatClampNeg (T.1 6)) v) (v :: A.ds)
      rw [h.dsE, n_cl (by omega)]
      exact ⟨upd_at _ _ _, h.dsS.put (Nat.le_refl _)⟩ }
theorem m_push {A : Ab} {T : StM} {Q : StM → Prop} {v : Int32} (h : RM A T) (k : ∀ T', RMr (pushR A v) T' → Q T') : wp_M_push Q T v := by
  have hb := h.dsB
  refine ⟨fun c => ⟨?_, ?_⟩, fun c => ?_⟩
  · rw [h.dsE, l_lt (by omega) (by decide)] at c
    rw [h.dsE]
    exact n_in c (by omega)
  · rw [h.dsE, l_lt (by omega) (by decide)] at c
    refine k _ ?_
    rw [pushR, if_pos c]
    exact RMr.ok (h.push c)
  · rw [h.dsE, l_lt (by omega) (by decide)] at c
    refine m_fail h (by decide) (fun T' h1 h2 => k _ ?_)
    rw [pushR, if_neg c]
    exact RMr.no (by decide) h1 h2
theorem m_pop {A : Ab} {T : StM} {Q : Int32 → StM → Prop} {x : Int32} {l : List Int32} (h : RM A T) (hd : A.ds = x :: l) (k : ∀ T', RM { A with ds := l } T' → Q x T') : wp_M_pop Q T := by
  have hb := h.dsB
  have e : T.1 6 - 1 = Int32.ofNat l.length := by
    rw [h.dsE, hd]
    exact n_sub (a := l.length + 1) (b := 1) (by omega)
  have hl : l.length < 24 := by rw [hd] at hb; simp at hb; omega
  have hs := h.dsS
  rw [hd] at hs
  refine ⟨?_, ?_⟩
  · rw [e]
    exact n_in hl (by omega)
  · rw [e, n_cl (by omega), hs.1]
    exact k _ { h with dsE := rfl, dsB := by show l.length ≤ 24; omega, dsS := hs.2 }
theorem m_top {A : Ab} {T : StM} {Q : Int32 → StM → Prop} {x : Int32} {i : Nat} (h : RM A T) (hd : A.ds[i]? = some x) (k : Q x T) : wp_M_top Q T (Int32.ofNat i) := by
  have hb := h.dsB
  have hi : i < A.ds.length := by
    rcases Nat.lt_or_ge i A.ds.length with h' | h'
    · exact h'
    · simp [List.getElem?_eq_none h'] at hd
  have e : T.1 6 - 1 - Int32.ofNat i = Int32.ofNat (A.ds.length - 1 - i) := by
    rw [h.dsE]
    rw [show (1 : Int32) = Int32.ofNat 1 from rfl, n_sub (by omega), n_sub (by omega)]
  refine ⟨?_, ?_⟩
  · rw [e]
    exact n_in (by omega) (by omega)
  · rw [e, n_cl (by omega), h.dsS.get hd]
    exact k
theorem m_needs {A : Ab} {T : StM} {Q : Int32 → StM → Prop} {n : Nat} (h : RM A T) (hn : n < 100) (k1 : n ≤ A.ds.length → Q 1 T) (k2 : A.ds.length < n → ∀ T', RMw A T' → T'.1 14 = 2 → Q 0 T') : wp_M_needs Q T (Int32.ofNat n) := by
  have hb := h.dsB
  unfold wp_M_needs wq_M_needs_13 wq_M_needs_26
  refine ⟨fun c => ?_, fun c => ?_⟩
  · rw [h.dsE, n_le (by omega) (by omega)] at c
    rw [h.dsE, n_lt (by omega) (by omega)]
    exact ⟨fun z => absurd z (by omega), fun _ => ⟨rfl, k1 c⟩⟩
  · rw [h.dsE, n_le (by omega) (by omega)] at c
    refine ⟨fun _ => ?_, fun z => absurd h.err z⟩
    show ((upd T.1 14 2) 6 < Int32.ofNat n → _) ∧ _
    have e : (upd T.1 14 2) 6 = Int32.ofNat A.ds.length := h.dsE
    have hlt : (upd T.1 14 2) 6 < Int32.ofNat n := by
      rw [e, n_lt (by omega) (by omega)]
      omega
    exact ⟨fun _ => ⟨rfl, k2 (by omega) _ (h.toRMw.err 2) rfl⟩, fun z => absurd hlt z⟩
