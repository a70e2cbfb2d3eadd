def oE : Option Nat → Int32
  | none => -1
  | some n => Int32.ofNat n
def bE (b : Bool) : Int32 := if b then 1 else 0
def keyN (l : List Int32) : Int64 := l.foldl (fun v c => v * 128 + c.toInt64) 0
/-- the reference's word k is w -/
def WdA (im many kinds nums : Nat → Int32) (names : Nat → Int64) (k : Nat) (w : Wd) : Prop := (names (52 + k) = keyN w.nm) ∧ (many k = Int32.ofNat w.it.length) ∧ (w.it.length ≤ 60) ∧ (∀ i p, w.it[i]? = some p → kinds (60 * k + i) = Int32.ofNat p.1 ∧ nums (60 * k + i) = p.2) ∧ (im k = bE w.im)
theorem WdA.nm {im many kinds nums : Nat → Int32} {names : Nat → Int64} {k : Nat} {w : Wd} (h : WdA im many kinds nums names k w) : names (52 + k) = keyN w.nm := h.1
theorem WdA.many {im many kinds nums : Nat → Int32} {names : Nat → Int64} {k : Nat} {w : Wd} (h : WdA im many kinds nums names k w) : many k = Int32.ofNat w.it.length := h.2.1
theorem WdA.len {im many kinds nums : Nat → Int32} {names : Nat → Int64} {k : Nat} {w : Wd} (h : WdA im many kinds nums names k w) : w.it.length ≤ 60 := h.2.2.1
theorem WdA.it {im many kinds nums : Nat → Int32} {names : Nat → Int64} {k : Nat} {w : Wd} (h : WdA im many kinds nums names k w) : ∀ i p, w.it[i]? = some p → kinds (60 * k + i) = Int32.ofNat p.1 ∧ nums (60 * k + i) = p.2 := h.2.2.2.1
theorem WdA.im {im many kinds nums : Nat → Int32} {names : Nat → Int64} {k : Nat} {w : Wd} (h : WdA im many kinds nums names k w) : im k = bE w.im := h.2.2.2.2
theorem WdA.mk {im many kinds nums : Nat → Int32} {names : Nat → Int64} {k : Nat} {w : Wd} (nm0 : names (52 + k) = keyN w.nm) (many0 : many k = Int32.ofNat w.it.length) (len0 : w.it.length ≤ 60) (it0 : ∀ i p, w.it[i]? = some p → kinds (60 * k + i) = Int32.ofNat p.1 ∧ nums (60 * k + i) = p.2) (im0 : im k = bE w.im) : WdA im many kinds nums names k w := ⟨nm0, many0, len0, it0, im0⟩
abbrev WdM (T : StM) (k : Nat) (w : Wd) : Prop := WdA (T.2.1 16) (T.2.1 17) (T.2.1 18) (T.2.1 19) T.2.2 k w
def FrA (wd nx lo ct lm : Nat → Int32) (c : Nat) (fr : Fr) : Prop := (wd c = Int32.ofNat fr.w) ∧ (nx c = Int32.ofNat fr.nx) ∧ (lo c = Int32.ofNat fr.lp.length) ∧ (fr.lp.length ≤ 4) ∧ (Stk (fun j => ct (4 * c + j)) (fr.lp.map (fun p => p.1))) ∧ (Stk (fun j => lm (4 * c + j)) (fr.lp.map (fun p => p.2)))
theorem FrA.w {wd nx lo ct lm : Nat → Int32} {c : Nat} {fr : Fr} (h : FrA wd nx lo ct lm c fr) : wd c = Int32.ofNat fr.w := h.1
theorem FrA.nx {wd nx lo ct lm : Nat → Int32} {c : Nat} {fr : Fr} (h : FrA wd nx lo ct lm c fr) : nx c = Int32.ofNat fr.nx := h.2.1
theorem FrA.n {wd nx lo ct lm : Nat → Int32} {c : Nat} {fr : Fr} (h : FrA wd nx lo ct lm c fr) : lo c = Int32.ofNat fr.lp.length := h.2.2.1
theorem FrA.len {wd nx lo ct lm : Nat → Int32} {c : Nat} {fr : Fr} (h : FrA wd nx lo ct lm c fr) : fr.lp.length ≤ 4 := h.2.2.2.1
theorem FrA.ct {wd nx lo ct lm : Nat → Int32} {c : Nat} {fr : Fr} (h : FrA wd nx lo ct lm c fr) : Stk (fun j => ct (4 * c + j)) (fr.lp.map (fun p => p.1)) := h.2.2.2.2.1
theorem FrA.lm {wd nx lo ct lm : Nat → Int32} {c : Nat} {fr : Fr} (h : FrA wd nx lo ct lm c fr) : Stk (fun j => lm (4 * c + j)) (fr.lp.map (fun p => p.2)) := h.2.2.2.2.2
theorem FrA.mk {wd nx lo ct lm : Nat → Int32} {c : Nat} {fr : Fr} (w0 : wd c = Int32.ofNat fr.w) (nx0 : nx c = Int32.ofNat fr.nx) (n0 : lo c = Int32.ofNat fr.lp.length) (len0 : fr.lp.length ≤ 4) (ct0 : Stk (fun j => ct (4 * c + j)) (fr.lp.map (fun p => p.1))) (lm0 : Stk (fun j => lm (4 * c + j)) (fr.lp.map (fun p => p.2))) : FrA wd nx lo ct lm c fr := ⟨w0, nx0, n0, len0, ct0, lm0⟩
def FrAS (wd nx lo ct lm : Nat → Int32) : List Fr → Prop
  | [] => True
  | fr :: l => FrA wd nx lo ct lm l.length fr ∧ FrAS wd nx lo ct lm l
abbrev FrM (T : StM) (c : Nat) (fr : Fr) : Prop := FrA (T.2.1 26) (T.2.1 27) (T.2.1 28) (T.2.1 29) (T.2.1 30) c fr
abbrev FrS (T : StM) (l : List Fr) : Prop := FrAS (T.2.1 26) (T.2.1 27) (T.2.1 28) (T.2.1 29) (T.2.1 30) l
/-- what an error leaves as it is -/
def RMw (A : Ab) (T : StM) : Prop := (T.1 10 = Int32.ofNat A.here) ∧ (A.here ≤ 64) ∧ (∀ i, i < 96 → T.2.1 9 i = A.mem i) ∧ (T.1 11 = Int32.ofNat A.pr) ∧ (A.pr + A.fu ≤ A.pb) ∧ (A.pb ≤ 400000) ∧ (∀ i, i < 40 → i < A.pr → T.2.1 12 i = A.out i) ∧ (T.1 13 = Int32.ofNat A.fu) ∧ (∀ b i, b < 4 → i < 16 → T.2.1 31 (16 * b + i) = A.blk b i) ∧ (∀ b, b < 2 → T.2.1 32 b = oE (A.has b)) ∧ (∀ b n, b < 2 → A.has b = some n → n < 4) ∧ (∀ b, b < 2 → T.2.1 33 b = bE (A.up b)) ∧ (T.1 34 = oE A.told) ∧ (∀ n, A.told = some n → n < 2) ∧ (∀ b, b < 2 → A.up b = true → A.has b ≠ none) ∧ (∀ b, A.told = some b → A.has b ≠ none) ∧ (T.1 20 = Int32.ofNat A.ws.length) ∧ (A.ws.length ≤ 24) ∧ (∀ k w, A.ws[k]? = some w → WdM T k w) ∧ (∀ k, k < 52 → T.2.2 k = nmL.getD k 0) ∧ (T.1 1 = Int32.ofNat A.tx.length) ∧ (A.tx.length ≤ 120) ∧ (∀ i c, A.tx[i]? = some c → T.2.1 0 i = c) ∧ (∀ c ∈ A.tx, okB c) ∧ (T.1 2 = Int32.ofNat A.pos) ∧ (A.pos ≤ A.tx.length) ∧ (T.1 3 = Int32.ofNat A.tk) ∧ (T.1 4 = Int32.ofNat A.tl)
theorem RMw.hereE {A : Ab} {T : StM} (h : RMw A T) : T.1 10 = Int32.ofNat A.here := h.1
theorem RMw.hereB {A : Ab} {T : StM} (h : RMw A T) : A.here ≤ 64 := h.2.1
theorem RMw.memE {A : Ab} {T : StM} (h : RMw A T) : ∀ i, i < 96 → T.2.1 9 i = A.mem i := h.2.2.1
theorem RMw.prE {A : Ab} {T : StM} (h : RMw A T) : T.1 11 = Int32.ofNat A.pr := h.2.2.2.1
theorem RMw.prB {A : Ab} {T : StM} (h : RMw A T) : A.pr + A.fu ≤ A.pb := h.2.2.2.2.1
theorem RMw.pbB {A : Ab} {T : StM} (h : RMw A T) : A.pb ≤ 400000 := h.2.2.2.2.2.1
theorem RMw.outE {A : Ab} {T : StM} (h : RMw A T) : ∀ i, i < 40 → i < A.pr → T.2.1 12 i = A.out i := h.2.2.2.2.2.2.1
theorem RMw.fuE {A : Ab} {T : StM} (h : RMw A T) : T.1 13 = Int32.ofNat A.fu := h.2.2.2.2.2.2.2.1
theorem RMw.blkE {A : Ab} {T : StM} (h : RMw A T) : ∀ b i, b < 4 → i < 16 → T.2.1 31 (16 * b + i) = A.blk b i := h.2.2.2.2.2.2.2.2.1
theorem RMw.hasE {A : Ab} {T : StM} (h : RMw A T) : ∀ b, b < 2 → T.2.1 32 b = oE (A.has b) := h.2.2.2.2.2.2.2.2.2.1
theorem RMw.hasB {A : Ab} {T : StM} (h : RMw A T) : ∀ b n, b < 2 → A.has b = some n → n < 4 := h.2.2.2.2.2.2.2.2.2.2.1
theorem RMw.upE {A : Ab} {T : StM} (h : RMw A T) : ∀ b, b < 2 → T.2.1 33 b = bE (A.up b) := h.2.2.2.2.2.2.2.2.2.2.2.1
theorem RMw.toldE {A : Ab} {T : StM} (h : RMw A T) : T.1 34 = oE A.told := h.2.2.2.2.2.2.2.2.2.2.2.2.1
theorem RMw.toldB {A : Ab} {T : StM} (h : RMw A T) : ∀ n, A.told = some n → n < 2 := h.2.2.2.2.2.2.2.2.2.2.2.2.2.1
theorem RMw.upB {A : Ab} {T : StM} (h : RMw A T) : ∀ b, b < 2 → A.up b = true → A.has b ≠ none := h.2.2.2.2.2.2.2.2.2.2.2.2.2.2.1
theorem RMw.toldH {A : Ab} {T : StM} (h : RMw A T) : ∀ b, A.told = some b → A.has b ≠ none := h.2.2.2.2.2.2.2.2.2.2.2.2.2.2.2.1
theorem RMw.madeE {A : Ab} {T : StM} (h : RMw A T) : T.1 20 = Int32.ofNat A.ws.length := h.2.2.2.2.2.2.2.2.2.2.2.2.2.2.2.2.1
theorem RMw.madeB {A : Ab} {T : StM} (h : RMw A T) : A.ws.length ≤ 24 := h.2.2.2.2.2.2.2.2.2.2.2.2.2.2.2.2.2.1
theorem RMw.wsE {A : Ab} {T : StM} (h : RMw A T) : ∀ k w, A.ws[k]? = some w → WdM T k w := h.2.2.2.2.2.2.2.2.2.2.2.2.2.2.2.2.2.2.1
theorem RMw.namE {A : Ab} {T : StM} (h : RMw A T) : ∀ k, k < 52 → T.2.2 k = nmL.getD k 0 := h.2.2.2.2.2.2.2.2.2.2.2.2.2.2.2.2.2.2.2.1
theorem RMw.txE {A : Ab} {T : StM} (h : RMw A T) : T.1 1 = Int32.ofNat A.tx.length := h.2.2.2.2.2.2.2.2.2.2.2.2.2.2.2.2.2.2.2.2.1
theorem RMw.txB {A : Ab} {T : StM} (h : RMw A T) : A.tx.length ≤ 120 := h.2.2.2.2.2.2.2.2.2.2.2.2.2.2.2.2.2.2.2.2.2.1
theorem RMw.txC {A : Ab} {T : StM} (h : RMw A T) : ∀ i c, A.tx[i]? = some c → T.2.1 0 i = c := h.2.2.2.2.2.2.2.2.2.2.2.2.2.2.2.2.2.2.2.2.2.2.1
theorem RMw.txO {A : Ab} {T : StM} (h : RMw A T) : ∀ c ∈ A.tx, okB c := h.2.2.2.2.2.2.2.2.2.2.2.2.2.2.2.2.2.2.2.2.2.2.2.1
theorem RMw.posE {A : Ab} {T : StM} (h : RMw A T) : T.1 2 = Int32.ofNat A.pos := h.2.2.2.2.2.2.2.2.2.2.2.2.2.2.2.2.2.2.2.2.2.2.2.2.1
theorem RMw.posB {A : Ab} {T : StM} (h : RMw A T) : A.pos ≤ A.tx.length := h.2.2.2.2.2.2.2.2.2.2.2.2.2.2.2.2.2.2.2.2.2.2.2.2.2.1
theorem RMw.tkE {A : Ab} {T : StM} (h : RMw A T) : T.1 3 = Int32.ofNat A.tk := h.2.2.2.2.2.2.2.2.2.2.2.2.2.2.2.2.2.2.2.2.2.2.2.2.2.2.1
theorem RMw.tlE {A : Ab} {T : StM} (h : RMw A T) : T.1 4 = Int32.ofNat A.tl := h.2.2.2.2.2.2.2.2.2.2.2.2.2.2.2.2.2.2.2.2.2.2.2.2.2.2.2
theorem RMw.mk {A : Ab} {T : StM} (hereE0 : T.1 10 = Int32.ofNat A.here) (hereB0 : A.here ≤ 64) (memE0 : ∀ i, i < 96 → T.2.1 9 i = A.mem i) (prE0 : T.1 11 = Int32.ofNat A.pr) (prB0 : A.pr + A.fu ≤ A.pb) (pbB0 : A.pb ≤ 400000) (outE0 : ∀ i, i < 40 → i < A.pr → T.2.1 12 i = A.out i) (fuE0 : T.1 13 = Int32.ofNat A.fu) (blkE0 : ∀ b i, b < 4 → i < 16 → T.2.1 31 (16 * b + i) = A.blk b i) (hasE0 : ∀ b, b < 2 → T.2.1 32 b = oE (A.has b)) (hasB0 : ∀ b n, b < 2 → A.has b = some n → n < 4) (upE0 : ∀ b, b < 2 → T.2.1 33 b = bE (A.up b)) (toldE0 : T.1 34 = oE A.told) (toldB0 : ∀ n, A.told = some n → n < 2) (upB0 : ∀ b, b < 2 → A.up b = true → A.has b ≠ none) (toldH0 : ∀ b, A.told = some b → A.has b ≠ none) (madeE0 : T.1 20 = Int32.ofNat A.ws.length) (madeB0 : A.ws.length ≤ 24) (wsE0 : ∀ k w, A.ws[k]? = some w → WdM T k w) (namE0 : ∀ k, k < 52 → T.2.2 k = nmL.getD k 0) (txE0 : T.1 1 = Int32.ofNat A.tx.length) (txB0 : A.tx.length ≤ 120) (txC0 : ∀ i c, A.tx[i]? = some c → T.2.1 0 i = c) (txO0 : ∀ c ∈ A.tx, okB c) (posE0 : T.1 2 = Int32.ofNat A.pos) (posB0 : A.pos ≤ A.tx.length) (tkE0 : T.1 3 = Int32.ofNat A.tk) (tlE0 : T.1 4 = Int32.ofNat A.tl) : RMw A T := ⟨hereE0, hereB0, memE0, prE0, prB0, pbB0, outE0, fuE0, blkE0, hasE0, hasB0, upE0, toldE0, toldB0, upB0, toldH0, madeE0, madeB0, wsE0, namE0, txE0, txB0, txC0, txO0, posE0, posB0, tkE0, tlE0⟩
def RM (A : Ab) (T : StM) : Prop := RMw A T ∧ (T.1 14 = 0) ∧ (T.1 6 = Int32.ofNat A.ds.length) ∧ (A.ds.length ≤ 24) ∧ (Stk (T.2.1 5) A.ds) ∧ (T.1 8 = Int32.ofNat A.rs.length) ∧ (A.rs.length ≤ 24) ∧ (Stk (T.2.1 7) A.rs) ∧ (T.1 25 = Int32.ofNat A.cs.length) ∧ (A.cs.length ≤ 16) ∧ (FrS T A.cs) ∧ (∀ fr ∈ A.cs, ∃ w, A.ws[fr.w]? = some w ∧ fr.nx ≤ w.it.length) ∧ (T.1 21 = bE A.dr.isSome) ∧ (∀ w, A.dr = some w → A.ws.length < 24 ∧ WdM T A.ws.length w) ∧ (A.dr ≠ none → T.1 22 = Int32.ofNat A.op.length) ∧ (A.op.length ≤ 8) ∧ (A.dr ≠ none → Stk (T.2.1 23) (A.op.map (fun p => Int32.ofNat p.1))) ∧ (A.dr ≠ none → Stk (T.2.1 24) (A.op.map (fun p => Int32.ofNat p.2)))
theorem RM.toRMw {A : Ab} {T : StM} (h : RM A T) : RMw A T := h.1
theorem RM.hereE {A : Ab} {T : StM} (h : RM A T) : T.1 10 = Int32.ofNat A.here := h.1.hereE
theorem RM.hereB {A : Ab} {T : StM} (h : RM A T) : A.here ≤ 64 := h.1.hereB
theorem RM.memE {A : Ab} {T : StM} (h : RM A T) : ∀ i, i < 96 → T.2.1 9 i = A.mem i := h.1.memE
theorem RM.prE {A : Ab} {T : StM} (h : RM A T) : T.1 11 = Int32.ofNat A.pr := h.1.prE
theorem RM.prB {A : Ab} {T : StM} (h : RM A T) : A.pr + A.fu ≤ A.pb := h.1.prB
theorem RM.pbB {A : Ab} {T : StM} (h : RM A T) : A.pb ≤ 400000 := h.1.pbB
theorem RM.outE {A : Ab} {T : StM} (h : RM A T) : ∀ i, i < 40 → i < A.pr → T.2.1 12 i = A.out i := h.1.outE
theorem RM.fuE {A : Ab} {T : StM} (h : RM A T) : T.1 13 = Int32.ofNat A.fu := h.1.fuE
theorem RM.blkE {A : Ab} {T : StM} (h : RM A T) : ∀ b i, b < 4 → i < 16 → T.2.1 31 (16 * b + i) = A.blk b i := h.1.blkE
theorem RM.hasE {A : Ab} {T : StM} (h : RM A T) : ∀ b, b < 2 → T.2.1 32 b = oE (A.has b) := h.1.hasE
theorem RM.hasB {A : Ab} {T : StM} (h : RM A T) : ∀ b n, b < 2 → A.has b = some n → n < 4 := h.1.hasB
theorem RM.upE {A : Ab} {T : StM} (h : RM A T) : ∀ b, b < 2 → T.2.1 33 b = bE (A.up b) := h.1.upE
theorem RM.toldE {A : Ab} {T : StM} (h : RM A T) : T.1 34 = oE A.told := h.1.toldE
theorem RM.toldB {A : Ab} {T : StM} (h : RM A T) : ∀ n, A.told = some n → n < 2 := h.1.toldB
theorem RM.upB {A : Ab} {T : StM} (h : RM A T) : ∀ b, b < 2 → A.up b = true → A.has b ≠ none := h.1.upB
theorem RM.toldH {A : Ab} {T : StM} (h : RM A T) : ∀ b, A.told = some b → A.has b ≠ none := h.1.toldH
theorem RM.madeE {A : Ab} {T : StM} (h : RM A T) : T.1 20 = Int32.ofNat A.ws.length := h.1.madeE
theorem RM.madeB {A : Ab} {T : StM} (h : RM A T) : A.ws.length ≤ 24 := h.1.madeB
theorem RM.wsE {A : Ab} {T : StM} (h : RM A T) : ∀ k w, A.ws[k]? = some w → WdM T k w := h.1.wsE
theorem RM.namE {A : Ab} {T : StM} (h : RM A T) : ∀ k, k < 52 → T.2.2 k = nmL.getD k 0 := h.1.namE
theorem RM.txE {A : Ab} {T : StM} (h : RM A T) : T.1 1 = Int32.ofNat A.tx.length := h.1.txE
theorem RM.txB {A : Ab} {T : StM} (h : RM A T) : A.tx.length ≤ 120 := h.1.txB
theorem RM.txC {A : Ab} {T : StM} (h : RM A T) : ∀ i c, A.tx[i]? = some c → T.2.1 0 i = c := h.1.txC
theorem RM.txO {A : Ab} {T : StM} (h : RM A T) : ∀ c ∈ A.tx, okB c := h.1.txO
theorem RM.posE {A : Ab} {T : StM} (h : RM A T) : T.1 2 = Int32.ofNat A.pos := h.1.posE
theorem RM.posB {A : Ab} {T : StM} (h : RM A T) : A.pos ≤ A.tx.length := h.1.posB
theorem RM.tkE {A : Ab} {T : StM} (h : RM A T) : T.1 3 = Int32.ofNat A.tk := h.1.tkE
theorem RM.tlE {A : Ab} {T : StM} (h : RM A T) : T.1 4 = Int32.ofNat A.tl := h.1.tlE
theorem RM.err {A : Ab} {T : StM} (h : RM A T) : T.1 14 = 0 := h.2.1
theorem RM.dsE {A : Ab} {T : StM} (h : RM A T) : T.1 6 = Int32.ofNat A.ds.length := h.2.2.1
theorem RM.dsB {A : Ab} {T : StM} (h : RM A T) : A.ds.length ≤ 24 := h.2.2.2.1
theorem RM.dsS {A : Ab} {T : StM} (h : RM A T) : Stk (T.2.1 5) A.ds := h.2.2.2.2.1
theorem RM.rsE {A : Ab} {T : StM} (h : RM A T) : T.1 8 = Int32.ofNat A.rs.length := h.2.2.2.2.2.1
theorem RM.rsB {A : Ab} {T : StM} (h : RM A T) : A.rs.length ≤ 24 := h.2.2.2.2.2.2.1
theorem RM.rsS {A : Ab} {T : StM} (h : RM A T) : Stk (T.2.1 7) A.rs := h.2.2.2.2.2.2.2.1
theorem RM.csE {A : Ab} {T : StM} (h : RM A T) : T.1 25 = Int32.ofNat A.cs.length := h.2.2.2.2.2.2.2.2.1
theorem RM.csB {A : Ab} {T : StM} (h : RM A T) : A.cs.length ≤ 16 := h.2.2.2.2.2.2.2.2.2.1
theorem RM.csS {A : Ab} {T : StM} (h : RM A T) : FrS T A.cs := h.2.2.2.2.2.2.2.2.2.2.1
theorem RM.csW {A : Ab} {T : StM} (h : RM A T) : ∀ fr ∈ A.cs, ∃ w, A.ws[fr.w]? = some w ∧ fr.nx ≤ w.it.length := h.2.2.2.2.2.2.2.2.2.2.2.1
theorem RM.drE {A : Ab} {T : StM} (h : RM A T) : T.1 21 = bE A.dr.isSome := h.2.2.2.2.2.2.2.2.2.2.2.2.1
theorem RM.drW {A : Ab} {T : StM} (h : RM A T) : ∀ w, A.dr = some w → A.ws.length < 24 ∧ WdM T A.ws.length w := h.2.2.2.2.2.2.2.2.2.2.2.2.2.1
theorem RM.opE {A : Ab} {T : StM} (h : RM A T) : A.dr ≠ none → T.1 22 = Int32.ofNat A.op.length := h.2.2.2.2.2.2.2.2.2.2.2.2.2.2.1
theorem RM.opB {A : Ab} {T : StM} (h : RM A T) : A.op.length ≤ 8 := h.2.2.2.2.2.2.2.2.2.2.2.2.2.2.2.1
theorem RM.opK {A : Ab} {T : StM} (h : RM A T) : A.dr ≠ none → Stk (T.2.1 23) (A.op.map (fun p => Int32.ofNat p.1)) := h.2.2.2.2.2.2.2.2.2.2.2.2.2.2.2.2.1
theorem RM.opA {A : Ab} {T : StM} (h : RM A T) : A.dr ≠ none → Stk (T.2.1 24) (A.op.map (fun p => Int32.ofNat p.2)) := h.2.2.2.2.2.2.2.2.2.2.2.2.2.2.2.2.2
theorem RM.mk {A : Ab} {T : StM} (hereE0 : T.1 10 = Int32.ofNat A.here) (hereB0 : A.here ≤ 64) (memE0 : ∀ i, i < 96 → T.2.1 9 i = A.mem i) (prE0 : T.1 11 = Int32.ofNat A.pr) (prB0 : A.pr + A.fu ≤ A.pb) (pbB0 : A.pb ≤ 400000) (outE0 : ∀ i, i < 40 → i < A.pr → T.2.1 12 i = A.out i) (fuE0 : T.1 13 = Int32.ofNat A.fu) (blkE0 : ∀ b i, b < 4 → i < 16 → T.2.1 31 (16 * b + i) = A.blk b i) (hasE0 : ∀ b, b < 2 → T.2.1 32 b = oE (A.has b)) (hasB0 : ∀ b n, b < 2 → A.has b = some n → n < 4) (upE0 : ∀ b, b < 2 → T.2.1 33 b = bE (A.up b)) (toldE0 : T.1 34 = oE A.told) (toldB0 : ∀ n, A.told = some n → n < 2) (upB0 : ∀ b, b < 2 → A.up b = true → A.has b ≠ none) (toldH0 : ∀ b, A.told = some b → A.has b ≠ none) (madeE0 : T.1 20 = Int32.ofNat A.ws.length) (madeB0 : A.ws.length ≤ 24) (wsE0 : ∀ k w, A.ws[k]? = some w → WdM T k w) (namE0 : ∀ k, k < 52 → T.2.2 k = nmL.getD k 0) (txE0 : T.1 1 = Int32.ofNat A.tx.length) (txB0 : A.tx.length ≤ 120) (txC0 : ∀ i c, A.tx[i]? = some c → T.2.1 0 i = c) (txO0 : ∀ c ∈ A.tx, okB c) (posE0 : T.1 2 = Int32.ofNat A.pos) (posB0 : A.pos ≤ A.tx.length) (tkE0 : T.1 3 = Int32.ofNat A.tk) (tlE0 : T.1 4 = Int32.ofNat A.tl) (err0 : T.1 14 = 0) (dsE0 : T.1 6 = Int32.ofNat A.ds.length) (dsB0 : A.ds.length ≤ 24) (dsS0 : Stk (T.2.1 5) A.ds) (rsE0 : T.1 8 = Int32.ofNat A.rs.length) (rsB0 : A.rs.length ≤ 24) (rsS0 : Stk (T.2.1 7) A.rs) (csE0 : T.1 25 = Int32.ofNat A.cs.length) (csB0 : A.cs.length ≤ 16) (csS0 : FrS T A.cs) (csW0 : ∀ fr ∈ A.cs, ∃ w, A.ws[fr.w]? = some w ∧ fr.nx ≤ w.it.length) (drE0 : T.1 21 = bE A.dr.isSome) (drW0 : ∀ w, A.dr = some w → A.ws.length < 24 ∧ WdM T A.ws.length w) (opE0 : A.dr ≠ none → T.1 22 = Int32.ofNat A.op.length) (opB0 : A.op.length ≤ 8) (opK0 : A.dr ≠ none → Stk (T.2.1 23) (A.op.map (fun p => Int32.ofNat p.1))) (opA0 : A.dr ≠ none → Stk (T.2.1 24) (A.op.map (fun p => Int32.ofNat p.2))) : RM A T := ⟨⟨hereE0, hereB0, memE0, prE0, prB0, pbB0, outE0, fuE0, blkE0, hasE0, hasB0, upE0, toldE0, toldB0, upB0, toldH0, madeE0, madeB0, wsE0, namE0, txE0, txB0, txC0, txO0, posE0, posB0, tkE0, tlE0⟩, err0, dsE0, dsB0, dsS0, rsE0, rsB0, rsS0, csE0, csB0, csS0, csW0, drE0, drW0, opE0, opB0, opK0, opA0⟩
def RMr (r : Int32 × Ab) (T : StM) : Prop := (r.1 = 0 → RM r.2 T) ∧ (r.1 ≠ 0 → RMw r.2 T ∧ T.1 14 = r.1)
theorem RMr.ok {A : Ab} {T : StM} (h : RM A T) : RMr (0, A) T := ⟨fun _ => h, fun n => absurd rfl n⟩
theorem RMr.no {A : Ab} {T : StM} {e : Int32} (he : e ≠ 0) (h : RMw A T) (h1 : T.1 14 = e) : RMr (e, A) T := ⟨fun n => absurd n he, fun _ => ⟨h, h1⟩⟩
theorem RMw.err {A : Ab} {T : StM} (e : Int32) (h : RMw A T) : RMw A (upd T.1 14 e, T.2) := (RMw.mk (h.hereE) (h.hereB) (h.memE) (h.prE) (h.prB) (h.pbB) (h.outE) (h.fuE) (h.blkE) (h.hasE) (h.hasB) (h.upE) (h.toldE) (h.toldB) (h.upB) (h.toldH) (h.madeE) (h.madeB) (h.wsE) (h.namE) (h.txE) (h.txB) (h.txC) (h.txO) (h.posE) (h.posB) (h.tkE) (h.tlE))
theorem m_fail {A : Ab} {T : StM} {Q : StM → Prop} {e : Int32} (h : RM A T) (he : e ≠ 0) (k : ∀ T', RMw A T' → T'.1 14 = e → Q T') : wp_M_fail Q T e :=
  ⟨fun _ => k _ (h.toRMw.err e) rfl, fun n => absurd h.err n⟩
def pushR (A : Ab) (v : Int32) : Int32 × Ab := if A.ds.length < 24 then (0, (Ab.set_ds A (v :: A.ds))) else (3, A)
theorem RM.push {A : Ab} {T : StM} {v : Int32} (h : RM A T) (hn : A.ds.length < 24) : RM (Ab.set_ds A (v :: A.ds)) (upd T.1 6 (T.1 6 + 1), va_up T.2.1 5 (upd (T.2.1 5) (Int32.toNatClampNeg (T.1 6)) v), T.2.2) :=
  (RM.mk (h.hereE) (h.hereB) (h.memE) (h.prE) (h.prB) (h.pbB) (h.outE) (h.fuE) (h.blkE) (h.hasE) (h.hasB) (h.upE) (h.toldE) (h.toldB) (h.upB) (h.toldH) (h.madeE) (h.madeB) (h.wsE) (h.namE) (h.txE) (h.txB) (h.txC) (h.txO) (h.posE) (h.posB) (h.tkE) (h.tlE) (h.err) (by
      show T.1 6 + 1 = _
      rw [h.dsE, of_succ]
      rfl) (by show (v :: A.ds).length ≤ 24; simp; omega) (by
      show Stk (upd (T.2.1 5) (Int32.toNatClampNeg (T.1 6)) v) (v :: A.ds)
      rw [h.dsE, n_cl (by omega)]
      exact ⟨upd_at _ _ _, h.dsS.put (Nat.le_refl _)⟩) (h.rsE) (h.rsB) (h.rsS) (h.csE) (h.csB) (h.csS) (h.csW) (h.drE) (h.drW) (h.opE) (h.opB) (h.opK) (h.opA))
theorem m_push {A : Ab} {T : StM} {Q : StM → Prop} {v : Int32} (h : RM A T) (k : ∀ T', RMr (pushR A v) T' → Q T') : wp_M_push Q T v := by
  have hb := h.dsB
  refine ⟨fun c => ⟨?_, ?_⟩, fun c => ?_⟩
  · rw [h.dsE, l_lt (by omega) (by decide)] at c
    rw [h.dsE]
    exact n_in c (by omega)
  · rw [h.dsE, l_lt (by omega) (by decide)] at c
    refine k _ ?_
    rw [pushR, if_pos c]
    exact RMr.ok (h.push c)
  · rw [h.dsE, l_lt (by omega) (by decide)] at c
    refine m_fail h (by decide) (fun T' h1 h2 => k _ ?_)
    rw [pushR, if_neg c]
    exact RMr.no (by decide) h1 h2
theorem m_pop {A : Ab} {T : StM} {Q : Int32 → StM → Prop} {x : Int32} {l : List Int32} (h : RM A T) (hd : A.ds = x :: l) (k : ∀ T', RM (Ab.set_ds A (l)) T' → Q x T') : wp_M_pop Q T := by
  have hb := h.dsB
  have e : T.1 6 - 1 = Int32.ofNat l.length := by
    rw [h.dsE, hd]
    exact n_sub (a := l.length + 1) (b := 1) (by omega)
  have hl : l.length < 24 := by rw [hd] at hb; simp at hb; omega
  have hs := h.dsS
  rw [hd] at hs
  refine ⟨?_, ?_⟩
  · rw [e]
    exact n_in hl (by omega)
  · rw [e, n_cl (by omega), hs.1]
    exact k _ (RM.mk (h.hereE) (h.hereB) (h.memE) (h.prE) (h.prB) (h.pbB) (h.outE) (h.fuE) (h.blkE) (h.hasE) (h.hasB) (h.upE) (h.toldE) (h.toldB) (h.upB) (h.toldH) (h.madeE) (h.madeB) (h.wsE) (h.namE) (h.txE) (h.txB) (h.txC) (h.txO) (h.posE) (h.posB) (h.tkE) (h.tlE) (h.err) (rfl) (by show l.length ≤ 24; omega) (hs.2) (h.rsE) (h.rsB) (h.rsS) (h.csE) (h.csB) (h.csS) (h.csW) (h.drE) (h.drW) (h.opE) (h.opB) (h.opK) (h.opA))
theorem m_top {A : Ab} {T : StM} {Q : Int32 → StM → Prop} {x : Int32} {i : Nat} (h : RM A T) (hd : A.ds[i]? = some x) (k : Q x T) : wp_M_top Q T (Int32.ofNat i) := by
  have hb := h.dsB
  have hi : i < A.ds.length := by
    rcases Nat.lt_or_ge i A.ds.length with h' | h'
    · exact h'
    · simp [List.getElem?_eq_none h'] at hd
  have e : T.1 6 - 1 - Int32.ofNat i = Int32.ofNat (A.ds.length - 1 - i) := by
    rw [h.dsE]
    rw [show (1 : Int32) = Int32.ofNat 1 from rfl, n_sub (by omega), n_sub (by omega)]
  refine ⟨?_, ?_⟩
  · rw [e]
    exact n_in (by omega) (by omega)
  · rw [e, n_cl (by omega), h.dsS.get hd]
    exact k
theorem m_needs {A : Ab} {T : StM} {Q : Int32 → StM → Prop} {n : Nat} (h : RM A T) (hn : n < 100) (k1 : n ≤ A.ds.length → Q 1 T) (k2 : A.ds.length < n → ∀ T', RMw A T' → T'.1 14 = 2 → Q 0 T') : wp_M_needs Q T (Int32.ofNat n) := by
  have hb := h.dsB
  unfold wp_M_needs wq_M_needs_13 wq_M_needs_26
  refine ⟨fun c => ?_, fun c => ?_⟩
  · rw [h.dsE, n_le (by omega) (by omega)] at c
    rw [h.dsE, n_lt (by omega) (by omega)]
    exact ⟨fun z => absurd z (by omega), fun _ => ⟨rfl, k1 c⟩⟩
  · rw [h.dsE, n_le (by omega) (by omega)] at c
    refine ⟨fun _ => ?_, fun z => absurd h.err z⟩
    show ((upd T.1 14 2) 6 < Int32.ofNat n → _) ∧ _
    have e : (upd T.1 14 2) 6 = Int32.ofNat A.ds.length := h.dsE
    have hlt : (upd T.1 14 2) 6 < Int32.ofNat n := by
      rw [e, n_lt (by omega) (by omega)]
      omega
    exact ⟨fun _ => ⟨rfl, k2 (by omega) _ (h.toRMw.err 2) rfl⟩, fun z => absurd hlt z⟩
