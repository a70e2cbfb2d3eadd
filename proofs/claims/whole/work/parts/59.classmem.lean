theorem c_isFull {g : Gm} {ρ : Nat → Nat × Nat} {A : Ab} {S : StC} {post : Int32 → StC → Prop} (h : RC g ρ A S) (k : post (bE (decide (24 ≤ A.ds.length))) S) : wp_Nd_isFull g post S := by
  have hb := h.kDsB
  unfold wp_Nd_isFull wq_Nd_isFull_14
  rw [h.kDs, l_lt (by omega) (by decide)]
  refine ⟨fun z => ⟨rfl, ?_⟩, fun z => ⟨rfl, ?_⟩⟩
  · rw [decide_eq_false (by omega)] at k
    exact k
  · rw [decide_eq_true (by omega)] at k
    exact k
theorem c_risFull {g : Gm} {ρ : Nat → Nat × Nat} {A : Ab} {S : StC} {post : Int32 → StC → Prop} (h : RC g ρ A S) (k : post (bE (decide (24 ≤ A.rs.length))) S) : wp_Nr_isFull g post S := by
  have hb := h.kRsB
  unfold wp_Nr_isFull wq_Nr_isFull_14
  rw [h.kRs, l_lt (by omega) (by decide)]
  refine ⟨fun z => ⟨rfl, ?_⟩, fun z => ⟨rfl, ?_⟩⟩
  · rw [decide_eq_false (by omega)] at k
    exact k
  · rw [decide_eq_true (by omega)] at k
    exact k
theorem c_rpush {g : Gm} {ρ : Nat → Nat × Nat} {A : Ab} {S : StC} {post : StC → Prop} {v : Int32} (h : RC g ρ A S) (hn : A.rs.length < 24) (k : ∀ S', RC g ρ (Ab.set_rs A (v :: A.rs)) S' → post S') : wp_Nr_push g post S v := by
  refine ⟨fun z => ?_, fun _ => ⟨?_, k _ (RC.mk (h.kHere) (h.kHereB) (h.kMem) (h.kPr) (h.kPrB) (h.kPbB) (h.kOut) (h.kFu) (h.kHas) (h.kHasB) (h.kUp) (h.kUpB) (h.kTold) (h.kToldB) (h.kToldH) (h.kMade) (h.kMadeB) (h.kWs) (h.kRows) (h.kLay) (h.kPos) (h.kTk) (h.kTx) (h.kBt) (h.kG) (h.kDs) (h.kDsB) (h.kDsS) (?_) (?_) (?_) (h.kCs) (h.kCsB) (h.kCsS) (h.kDr0) (h.kDr) (h.kOp) (h.kOpB) (h.kOpK) (h.kOpA))⟩⟩
  · rw [h.kRs, r_le (by decide) (by omega)] at z
    omega
  · rw [h.kRs]
    exact n_in hn (by omega)
  · show S.1 9 + 1 = _
    rw [h.kRs, of_succ]
    rfl
  · show (v :: A.rs).length ≤ 24
    simp
    omega
  · show Stk (upd (S.2.1 1) (S.1 9).toNatClampNeg v) (v :: A.rs)
    rw [h.kRs, n_cl (by omega)]
    exact ⟨upd_at _ _ _, h.kRsS.put (Nat.le_refl _)⟩
theorem c_rpop {g : Gm} {ρ : Nat → Nat × Nat} {A : Ab} {S : StC} {post : Int32 → StC → Prop} {x : Int32} {l : List Int32} (h : RC g ρ A S) (hd : A.rs = x :: l) (k : ∀ S', RC g ρ (Ab.set_rs A (l)) S' → post x S') : wp_Nr_pop g post S := by
  have hb := h.kRsB
  rw [hd] at hb
  simp at hb
  have e0 : S.1 9 = Int32.ofNat (l.length + 1) := by rw [h.kRs, hd]; rfl
  have e : S.1 9 - 1 = Int32.ofNat l.length := by
    rw [e0]
    exact n_sub (a := l.length + 1) (b := 1) (by omega)
  have hs := h.kRsS
  rw [hd] at hs
  refine ⟨fun z => ?_, fun _ => ⟨?_, ?_⟩⟩
  · rw [e0, l_eq (by omega) (by decide)] at z
    omega
  · rw [e]
    exact n_in (by omega) (by omega)
  · rw [e, n_cl (by omega), hs.1]
    exact k _ (RC.mk (h.kHere) (h.kHereB) (h.kMem) (h.kPr) (h.kPrB) (h.kPbB) (h.kOut) (h.kFu) (h.kHas) (h.kHasB) (h.kUp) (h.kUpB) (h.kTold) (h.kToldB) (h.kToldH) (h.kMade) (h.kMadeB) (h.kWs) (h.kRows) (h.kLay) (h.kPos) (h.kTk) (h.kTx) (h.kBt) (h.kG) (h.kDs) (h.kDsB) (h.kDsS) (rfl) ((show l.length ≤ 24 by omega)) (hs.2) (h.kCs) (h.kCsB) (h.kCsS) (h.kDr0) (h.kDr) (h.kOp) (h.kOpB) (h.kOpK) (h.kOpA))
theorem c_rtop {g : Gm} {ρ : Nat → Nat × Nat} {A : Ab} {S : StC} {post : Int32 → StC → Prop} {x : Int32} {l : List Int32} (h : RC g ρ A S) (hd : A.rs = x :: l) (k : post x S) : wp_Nr_fromTop g post S 0 := by
  have hb := h.kRsB
  rw [hd] at hb
  simp at hb
  have e0 : S.1 9 = Int32.ofNat (l.length + 1) := by rw [h.kRs, hd]; rfl
  have e : S.1 9 - 1 - 0 = Int32.ofNat l.length := by
    rw [e0, show (1 : Int32) = Int32.ofNat 1 from rfl, n_sub (by omega), show (0 : Int32) = Int32.ofNat 0 from rfl, n_sub (by omega)]
    congr 1
  have hs := h.kRsS
  rw [hd] at hs
  refine ⟨fun z => absurd z (by decide), fun _ => ⟨fun z => ?_, fun _ => ⟨?_, ?_⟩⟩⟩
  · rw [e0, l_le (by omega) (by decide)] at z
    omega
  · rw [e]
    exact n_in (by omega) (by omega)
  · show post _ S
    rw [e, n_cl (by omega), hs.1]
    exact k
/-! memory -/
theorem c_has {g : Gm} {S : StC} {post : Int32 → StC → Prop} {c : Int32} (k : post (bE (decide (inM c))) S) : wp_Me_has g post S c := by
  have k95 : (95 : Int32).toInt = 95 := rfl
  have k96 : (96 : Int32).toInt = 96 := rfl
  refine ⟨fun z => ⟨rfl, ?_⟩, fun z => ⟨fun y => ⟨rfl, ?_⟩, fun y => ⟨rfl, ?_⟩⟩⟩
  · rw [decide_eq_false (fun q => q.1 z)] at k
    exact k
  · rw [decide_eq_false (fun q => q.2 (by rw [Int32.lt_iff_toInt_lt]; rw [Int32.le_iff_toInt_le] at y; omega))] at k
    exact k
  · rw [decide_eq_true ⟨z, fun q => y (by rw [Int32.le_iff_toInt_le]; rw [Int32.lt_iff_toInt_lt] at q; omega)⟩] at k
    exact k
theorem c_hasB {g : Gm} {S : StC} {post : Int32 → StC → Prop} {c : Int32} (k : post (bE (decide (inB c))) S) : wp_Me_hasBlock g post S c := by
  have k3 : (3 : Int32).toInt = 3 := rfl
  have k4 : (4 : Int32).toInt = 4 := rfl
  refine ⟨fun z => ⟨rfl, ?_⟩, fun z => ⟨fun y => ⟨rfl, ?_⟩, fun y => ⟨rfl, ?_⟩⟩⟩
  · rw [decide_eq_false (fun q => q.1 z)] at k
    exact k
  · rw [decide_eq_false (fun q => q.2 (by rw [Int32.lt_iff_toInt_lt]; rw [Int32.le_iff_toInt_le] at y; omega))] at k
    exact k
  · rw [decide_eq_true ⟨z, fun q => y (by rw [Int32.le_iff_toInt_le]; rw [Int32.lt_iff_toInt_lt] at q; omega)⟩] at k
    exact k
theorem c_fetch {g : Gm} {ρ : Nat → Nat × Nat} {A : Ab} {S : StC} {post : Int32 → StC → Prop} {c : Int32} (h : RC g ρ A S) (hc : inM c) (k : post (A.mem c.toNatClampNeg) S) : wp_Me_fetch g post S c := by
  have hm := inM_in hc
  refine c_has ?_
  rw [decide_eq_true hc]
  refine ⟨fun z => absurd z (by decide), fun _ => ⟨hm.1, ?_⟩⟩
  show post (S.2.1 2 c.toNatClampNeg) S
  rw [h.kMem _ hm.2]
  exact k
theorem c_store {g : Gm} {ρ : Nat → Nat × Nat} {A : Ab} {S : StC} {post : StC → Prop} {c v : Int32} (h : RC g ρ A S) (hc : inM c) (k : ∀ S', RC g ρ (Ab.set_mem A (upd A.mem c.toNatClampNeg v)) S' → post S') : wp_Me_store g post S c v := by
  have hm := inM_in hc
  refine c_has ?_
  rw [decide_eq_true hc]
  refine ⟨fun z => absurd z (by decide), fun _ => ⟨hm.1, k _ (RC.mk (h.kHere) (h.kHereB) (fun i hi => ?_) (h.kPr) (h.kPrB) (h.kPbB) (h.kOut) (h.kFu) (h.kHas) (h.kHasB) (h.kUp) (h.kUpB) (h.kTold) (h.kToldB) (h.kToldH) (h.kMade) (h.kMadeB) (h.kWs) (h.kRows) (h.kLay) (h.kPos) (h.kTk) (h.kTx) (h.kBt) (h.kG) (h.kDs) (h.kDsB) (h.kDsS) (h.kRs) (h.kRsB) (h.kRsS) (h.kCs) (h.kCsB) (h.kCsS) (h.kDr0) (h.kDr) (h.kOp) (h.kOpB) (h.kOpK) (h.kOpA))⟩⟩
  show upd (S.2.1 2) c.toNatClampNeg v i = upd A.mem c.toNatClampNeg v i
  by_cases e : i = c.toNatClampNeg
  · rw [e, upd_at, upd_at]
  · rw [upd_ne _ _ e, upd_ne _ _ e]
    exact h.kMem i hi
theorem lg_lt0 (x : Int64) : (lg_cmp x 0 < 0) ↔ x.toInt < 0 := by
  have k0 : (0 : Int64).toInt = 0 := rfl
  unfold lg_cmp
  by_cases h : x > 0
  · rw [if_pos h]
    rw [gt_iff_lt, Int64.lt_iff_toInt_lt, k0] at h
    exact ⟨fun z => absurd z (by decide), fun z => by omega⟩
  · rw [if_neg h]
    rw [gt_iff_lt, Int64.lt_iff_toInt_lt, k0] at h
    by_cases e : x = 0
    · rw [if_pos e, e]
      exact ⟨fun z => absurd z (by decide), fun z => absurd z (by decide)⟩
    · rw [if_neg e]
      refine ⟨fun _ => ?_, fun _ => by decide⟩
      have : x.toInt ≠ 0 := fun z => e (Int64.toInt_inj.mp (z.trans k0.symm))
      omega
theorem lg_gt64 (x : Int64) : (0 < lg_cmp x 64) ↔ 64 < x.toInt := by
  have k0 : (64 : Int64).toInt = 64 := rfl
  unfold lg_cmp
  by_cases h : x > 64
  · rw [if_pos h]
    rw [gt_iff_lt, Int64.lt_iff_toInt_lt, k0] at h
    exact ⟨fun _ => h, fun _ => by decide⟩
  · rw [if_neg h]
    rw [gt_iff_lt, Int64.lt_iff_toInt_lt, k0] at h
    by_cases e : x = 64
    · rw [if_pos e]
      exact ⟨fun z => absurd z (by decide), fun z => absurd z h⟩
    · rw [if_neg e]
      exact ⟨fun z => absurd z (by decide), fun z => absurd z h⟩
theorem sum64 (x y : Int32) : (x.toInt64 + y.toInt64).toInt = x.toInt + y.toInt := by
  have h1 := Int32.toInt_lt x
  have h2 := Int32.toInt_lt y
  have h3 := Int32.le_toInt x
  have h4 := Int32.le_toInt y
  rw [Int64.toInt_add, Int32.toInt_toInt64, Int32.toInt_toInt64]
  exact Int.bmod_eq_of_le (by omega) (by omega)
theorem c_canGrow {g : Gm} {ρ : Nat → Nat × Nat} {A : Ab} {S : StC} {post : Int32 → StC → Prop} {c : Int32} (h : RC g ρ A S) (k : post (bE (decide (0 ≤ (A.here : Int) + c.toInt ∧ (A.here : Int) + c.toInt ≤ 64))) S) : wp_Me_canGrow g post S c := by
  have hB := h.kHereB
  have e : (Int32.ofNat A.here).toInt = (A.here : Int) := of_small (by omega)
  unfold wp_Me_canGrow wq_Me_canGrow_27 wq_Me_canGrow_28
  rw [lg_lt0, lg_gt64, sum64, h.kHere, e]
  refine ⟨fun z => ⟨rfl, ?_⟩, fun z => ⟨fun y => ⟨rfl, ?_⟩, fun y => ⟨rfl, ?_⟩⟩⟩
  · rw [decide_eq_false (by omega)] at k
    exact k
  · rw [decide_eq_false (by omega)] at k
    exact k
  · rw [decide_eq_true (by omega)] at k
    exact k
theorem inH_iff {h : Nat} {c : Int32} (hh : h ≤ 64) : inH h c ↔ (0 ≤ (h : Int) + c.toInt ∧ (h : Int) + c.toInt ≤ 64) := by
  have e0 : (Int32.ofNat h).toInt = (h : Int) := of_small (by omega)
  have e1 : (-Int32.ofNat h).toInt = -(h : Int) := by
    rw [Int32.toInt_neg, e0]
    exact Int.bmod_eq_of_le (by omega) (by omega)
  have e2 : (64 - Int32.ofNat h).toInt = 64 - (h : Int) := by
    have k64 : (64 : Int32).toInt = 64 := rfl
    rw [i32_sub (by omega) (by omega), e0, k64]
  unfold inH
  rw [Int32.lt_iff_toInt_lt, Int32.lt_iff_toInt_lt, e1, e2]
  omega
theorem c_grow {g : Gm} {ρ : Nat → Nat × Nat} {A : Ab} {S : StC} {post : StC → Prop} {c : Int32} (h : RC g ρ A S) (hc : inH A.here c) (k : ∀ S', RC g ρ (Ab.set_here A ((Int32.ofNat A.here + c).toNatClampNeg)) S' → post S') : wp_Me_grow g post S c := by
  have hB := h.kHereB
  have ho := inH_ok hB hc
  refine c_canGrow h ?_
  rw [decide_eq_true ((inH_iff hB).mp hc)]
  refine ⟨fun z => absurd z (by decide), fun _ => k _ (RC.mk (?_) (?_) (h.kMem) (h.kPr) (h.kPrB) (h.kPbB) (h.kOut) (h.kFu) (h.kHas) (h.kHasB) (h.kUp) (h.kUpB) (h.kTold) (h.kToldB) (h.kToldH) (h.kMade) (h.kMadeB) (h.kWs) (h.kRows) (h.kLay) (h.kPos) (h.kTk) (h.kTx) (h.kBt) (h.kG) (h.kDs) (h.kDsB) (h.kDsS) (h.kRs) (h.kRsB) (h.kRsS) (h.kCs) (h.kCsB) (h.kCsS) (h.kDr0) (h.kDr) (h.kOp) (h.kOpB) (h.kOpK) (h.kOpA))⟩
  · show S.1 10 + c = _
    rw [h.kHere]
    exact (of_nn ho.1).symm
  · show (Int32.ofNat A.here + c).toInt.toNat ≤ 64
    omega
theorem c_append {g : Gm} {ρ : Nat → Nat × Nat} {A : Ab} {S : StC} {post : StC → Prop} {v : Int32} (h : RC g ρ A S) (hc : A.here < 64) (k : ∀ S', RC g ρ (Ab.set_here (Ab.set_mem A (upd A.mem A.here v)) (A.here + 1)) S' → post S') : wp_Me_append g post S v := by
  have k1 : (1 : Int32).toInt = 1 := rfl
  refine c_canGrow h ?_
  rw [decide_eq_true (by omega)]
  refine ⟨fun z => absurd z (by decide), fun _ => ⟨?_, k _ (RC.mk (?_) (hc) (fun i hi => ?_) (h.kPr) (h.kPrB) (h.kPbB) (h.kOut) (h.kFu) (h.kHas) (h.kHasB) (h.kUp) (h.kUpB) (h.kTold) (h.kToldB) (h.kToldH) (h.kMade) (h.kMadeB) (h.kWs) (h.kRows) (h.kLay) (h.kPos) (h.kTk) (h.kTx) (h.kBt) (h.kG) (h.kDs) (h.kDsB) (h.kDsS) (h.kRs) (h.kRsB) (h.kRsS) (h.kCs) (h.kCsB) (h.kCsS) (h.kDr0) (h.kDr) (h.kOp) (h.kOpB) (h.kOpK) (h.kOpA))⟩⟩
  · rw [h.kHere]
    exact n_in (by omega) (by omega)
  · show S.1 10 + 1 = _
    rw [h.kHere, of_succ]
    rfl
  · show upd (S.2.1 2) (S.1 10).toNatClampNeg v i = upd A.mem A.here v i
    rw [h.kHere, n_cl (by omega)]
    by_cases e : i = A.here
    · rw [e, upd_at, upd_at]
    · rw [upd_ne _ _ e, upd_ne _ _ e]
      exact h.kMem i hi
/-! the disk -/
theorem RC.rows {g : Gm} {ρ : Nat → Nat × Nat} {A : Ab} {S : StC} {F' : Nat → va_E} {B : Nat → Nat → Int32} (h : RC g ρ A S) (hc : Chg ρ (fun r => r.1 = 7) S.2.2.2.2.2.2 F') (hr : ∀ b, b < 4 → RowAt g (S.2.2.2.2.1 3) S.2.2.2.2.2.1 F' ρ b (B b)) : RC g ρ (Ab.set_blk A (B)) (S.1, S.2.1, S.2.2.1, S.2.2.2.1, S.2.2.2.2.1, S.2.2.2.2.2.1, F') := by
  have n1 : ¬ (1 : Nat) = 7 := by decide
  have n2 : ¬ (2 : Nat) = 7 := by decide
  have n3 : ¬ (3 : Nat) = 7 := by decide
  have n4 : ¬ (4 : Nat) = 7 := by decide
  have n5 : ¬ (5 : Nat) = 7 := by decide
  have n6 : ¬ (6 : Nat) = 7 := by decide
  have n8 : ¬ (8 : Nat) = 7 := by decide
  have n9 : ¬ (9 : Nat) = 7 := by decide
  have n10 : ¬ (10 : Nat) = 7 := by decide
  refine (RC.mk (h.kHere) (h.kHereB) (h.kMem) (h.kPr) (h.kPrB) (h.kPbB) (h.kOut) (h.kFu) (h.kHas) (h.kHasB) (h.kUp) (h.kUpB) (h.kTold) (h.kToldB) (h.kToldH) (h.kMade) (h.kMadeB) (fun k w hk => ?_) (hr) (fun c hcc => ?_) (h.kPos) (h.kTk) (h.kTx.chg hc n8 n9) (h.kBt.chg hc n10) (h.kG) (h.kDs) (h.kDsB) (h.kDsS) (h.kRs) (h.kRsB) (h.kRsS) (h.kCs) (h.kCsB) (h.kCsS.chg hc (fun c _ => ⟨n1, n2, n3⟩)) (h.kDr0) (fun w hw => ?_) (h.kOp) (h.kOpB) (h.kOpK) (h.kOpA))
  · obtain ⟨a, e, hw⟩ := h.kWs k w hk
    exact ⟨a, e, hw.chg hc n4 n5 n6 n8 n9⟩
  · obtain ⟨w, nx, lo, fl, fc, q⟩ := h.kLay c hcc
    exact ⟨w, nx, lo, fl, fc, q.chg hc n1 n2 n3⟩
  · obtain ⟨hm, a, e, q⟩ := h.kDr w hw
    exact ⟨hm, a, e, q.chg hc n4 n5 n6 n8 n9⟩
theorem c_write {g : Gm} {ρ : Nat → Nat × Nat} {A : Ab} {S : StC} {post : StC → Prop} {b : Nat} (h : RC g ρ A S) (hb : b < 2) (k : ∀ S', RC g ρ (wrB A b) S' → post S') : wp_Me_writeIfUpdated g post S (Int32.ofNat b) := by
  have hin : vp_in (Int32.ofNat b) 2 := n_in hb (by omega)
  have fin : ∀ (B : Nat → Nat → Int32) (S1 : StC), RC g ρ (Ab.set_blk A (B)) S1 → wrB A b = (Ab.set_up (Ab.set_blk A (B)) (fun j => if j = b then false else A.up j)) → wq_Me_writeIfUpdated_42 g post S1 (Int32.ofNat b) := by
    intro B S1 h1 e
    refine ⟨hin, k _ ?_⟩
    rw [e]
    have hU := h1.kUp
    have hUB := h1.kUpB
    refine (RC.mk (h1.kHere) (h1.kHereB) (h1.kMem) (h1.kPr) (h1.kPrB) (h1.kPbB) (h1.kOut) (h1.kFu) (h1.kHas) (h1.kHasB) (fun j hj => ?_) (fun j hj hu => ?_) (h1.kTold) (h1.kToldB) (h1.kToldH) (h1.kMade) (h1.kMadeB) (h1.kWs) (h1.kRows) (h1.kLay) (h1.kPos) (h1.kTk) (h1.kTx) (h1.kBt) (h1.kG) (h1.kDs) (h1.kDsB) (h1.kDsS) (h1.kRs) (h1.kRsB) (h1.kRsS) (h1.kCs) (h1.kCsB) (h1.kCsS) (h1.kDr0) (h1.kDr) (h1.kOp) (h1.kOpB) (h1.kOpK) (h1.kOpA))
    · show upd (S1.2.1 4) (Int32.ofNat b).toNatClampNeg (vp_nar .boolean 0) j = bE (if j = b then false else A.up j)
      rw [n_cl (by omega)]
      by_cases e : j = b
      · rw [e, upd_at, if_pos rfl]
        rfl
      · rw [upd_ne _ _ e, if_neg e]
        exact hU j hj
    · have hu : (if j = b then false else A.up j) = true := hu
      by_cases e : j = b
      · rw [if_pos e] at hu
        cases hu
      · rw [if_neg e] at hu
        exact hUB j hj hu
  unfold wp_Me_writeIfUpdated
  rw [n_cl (by omega), h.kUp b hb, h.kHas b hb]
  refine ⟨hin, hin, fun z => ?_, fun z => ?_⟩
  · have hu : ¬ A.up b = true := by
      intro q
      rw [q] at z
      exact absurd z (by decide)
    refine fin A.blk S h ?_
    unfold wrB
    rw [if_neg hu]
  · have hu : A.up b = true := by
      cases q : A.up b with
      | true => rfl
      | false => rw [q] at z; exact absurd rfl z
    match hh : A.has b with
    | none => exact absurd hh (h.kUpB b hb hu)
    | some n =>
      have hn := h.kHasB b n hb hh
      refine ⟨fun q => ?_, fun _ => ⟨hin, ?_⟩⟩
      · have := congrArg Int32.toInt q
        have e1 : (oE (some n)).toInt = (n : Int) := of_small (by omega)
        have e2 : (-1 : Int32).toInt = -1 := rfl
        omega
      · show vp_in (Int32.ofNat n) 4 ∧ _
        rw [show oE (some n) = Int32.ofNat n from rfl, n_cl (by omega)]
        obtain ⟨a, f, e, p, hf⟩ := h.kRows n hn
        have eb : Int32.toNatClampNeg (bufE.getD b 0) = 64 + 16 * b := by
          match b, hb with
          | 0, _ => rfl
          | 1, _ => rfl
        have hcp : cpyOK 96 16 (bufE.getD b 0) 0 16 := by
          match b, hb with
          | 0, _ => (unfold cpyOK; decide)
          | 1, _ => (unfold cpyOK; decide)
        refine ⟨n_in hn (by omega), a, e, 16, f, p.1, p.2.2, hcp, ?_⟩
        have hX : (fun r : Nat × Nat => r.1 = 7) (ρ a) := by
          show (ρ a).1 = 7
          rw [p.2.1]
        refine fin (wrF A b n 16) _ (h.rows (Chg.put (Chg.refl _ _ _) hX) (fun m hm => ?_)) ?_
        · by_cases em : m = n
          · subst em
            refine ⟨a, _, e, p.put, fun i hi => ?_⟩
            show va_cpy (S.2.1 2) f (Int32.toNatClampNeg (bufE.getD b 0)) (Int32.toNatClampNeg 0) (Int32.toNatClampNeg 16) i = wrF A b m 16 m i
            rw [eb, show Int32.toNatClampNeg 0 = 0 from rfl, show Int32.toNatClampNeg 16 = 16 from rfl, va_cpy, if_pos (by omega), wrF, if_pos ⟨rfl, hi⟩, h.kMem _ (by omega)]
            congr 1
          · obtain ⟨a2, f2, e2, p2, hf2⟩ := h.kRows m hm
            refine ⟨a2, f2, e2, p2.ne p (fun z => em (congrArg Prod.snd z)), fun i hi => ?_⟩
            rw [hf2 i hi, wrF, if_neg (fun z => em z.1)]
        · unfold wrB
          rw [if_pos hu, hh]
theorem c_flush {g : Gm} {ρ : Nat → Nat × Nat} {A : Ab} {S : StC} {post : StC → Prop} (h : RC g ρ A S) (k : ∀ S', RC g ρ (wrB (wrB A 0) 1) S' → post S') : wp_Me_flush g post S := by
  refine ⟨3, fun z => absurd z (by decide), fun _ => c_write (b := 0) h (by omega) (fun S1 h1 => ⟨fun z => absurd z (by decide), fun _ => c_write (b := 1) h1 (by omega) (fun S2 h2 => ⟨fun _ => k _ h2, fun z => absurd (by decide) z⟩)⟩)⟩
theorem c_update {g : Gm} {ρ : Nat → Nat × Nat} {A : Ab} {S : StC} {post : StC → Prop} (h : RC g ρ A S) (k : ∀ S', RC g ρ (do38 A).2 S' → post S') : wp_Me_update g post S := by
  unfold wp_Me_update wq_Me_update_18
  match ht : A.told with
  | none =>
    have e : S.1 11 = -1 := by rw [h.kTold, ht]; rfl
    refine ⟨fun _ => k _ ?_, fun z => absurd e z⟩
    rw [do38, ht]
    exact h
  | some b =>
    have hb := h.kToldB b ht
    have e : S.1 11 = Int32.ofNat b := by rw [h.kTold, ht]; rfl
    rw [e, n_cl (by omega)]
    refine ⟨fun q => ?_, fun _ => ⟨n_in hb (by omega), k _ ?_⟩⟩
    · have := congrArg Int32.toInt q
      have e1 : (Int32.ofNat b).toInt = (b : Int) := of_small (by omega)
      have e2 : (-1 : Int32).toInt = -1 := rfl
      omega
    · rw [do38, ht]
      refine (RC.mk (h.kHere) (h.kHereB) (h.kMem) (h.kPr) (h.kPrB) (h.kPbB) (h.kOut) (h.kFu) (h.kHas) (h.kHasB) (fun j hj => ?_) (fun j hj hu => ?_) (h.kTold) (h.kToldB) (h.kToldH) (h.kMade) (h.kMadeB) (h.kWs) (h.kRows) (h.kLay) (h.kPos) (h.kTk) (h.kTx) (h.kBt) (h.kG) (h.kDs) (h.kDsB) (h.kDsS) (h.kRs) (h.kRsB) (h.kRsS) (h.kCs) (h.kCsB) (h.kCsS) (h.kDr0) (h.kDr) (h.kOp) (h.kOpB) (h.kOpK) (h.kOpA))
      · show upd (S.2.1 4) b (vp_nar .boolean 1) j = bE (if j = b then true else A.up j)
        by_cases e : j = b
        · rw [e, upd_at, if_pos rfl]
          rfl
        · rw [upd_ne _ _ e, if_neg e]
          exact h.kUp j hj
      · have hu : (if j = b then true else A.up j) = true := hu
        show A.has j ≠ none
        by_cases e : j = b
        · rw [e]
          exact h.kToldH b ht
        · rw [if_neg e] at hu
          exact h.kUpB j hj hu
theorem c_read {g : Gm} {ρ : Nat → Nat × Nat} {A : Ab} {S : StC} {post : StC → Prop} {b n : Nat} (h : RC g ρ A S) (hb : b < 2) (hn : n < 4) (k : ∀ S', RC g ρ (rdB A b n) S' → post S') : wp_Me_readInto g post S (Int32.ofNat b) (Int32.ofNat n) := by
  have hin : vp_in (Int32.ofNat b) 2 := n_in hb (by omega)
  unfold wp_Me_readInto wq_Me_readInto_37
  rw [n_cl (by omega), n_cl (by omega), l_lt (by omega) (by decide), r_le (by decide) (by omega)]
  obtain ⟨a, f, e, p, hf⟩ := h.kRows n hn
  have eb : Int32.toNatClampNeg (bufE.getD b 0) = 64 + 16 * b := by
    match b, hb with
    | 0, _ => rfl
    | 1, _ => rfl
  have hcp : cpyOK 16 96 0 (bufE.getD b 0) 16 := by
    match b, hb with
    | 0, _ => (unfold cpyOK; decide)
    | 1, _ => (unfold cpyOK; decide)
  refine ⟨fun z => by omega, fun _ => ⟨fun z => by omega, fun _ => ⟨n_in hn (by omega), a, e, hin, 16, f, p.1, p.2.2, hcp, hin, k _ (RC.mk (h.kHere) (h.kHereB) (fun i hi => ?_) (h.kPr) (h.kPrB) (h.kPbB) (h.kOut) (h.kFu) (fun j hj => ?_) (fun j m hj hm => ?_) (h.kUp) (fun j hj hu => ?_) (h.kTold) (h.kToldB) (fun j hj => ?_) (h.kMade) (h.kMadeB) (h.kWs) (h.kRows) (h.kLay) (h.kPos) (h.kTk) (h.kTx) (h.kBt) (h.kG) (h.kDs) (h.kDsB) (h.kDsS) (h.kRs) (h.kRsB) (h.kRsS) (h.kCs) (h.kCsB) (h.kCsS) (h.kDr0) (h.kDr) (h.kOp) (h.kOpB) (h.kOpK) (h.kOpA))⟩⟩⟩
  · show va_cpy f (S.2.1 2) (Int32.toNatClampNeg 0) (Int32.toNatClampNeg (bufE.getD b 0)) (Int32.toNatClampNeg 16) i = rdF A b n 16 i
    rw [eb, show Int32.toNatClampNeg 0 = 0 from rfl, show Int32.toNatClampNeg 16 = 16 from rfl, va_cpy, rdF]
    by_cases q : 64 + 16 * b ≤ i ∧ i < 64 + 16 * b + 16
    · rw [if_pos q, if_pos q, hf _ (by omega)]
      congr 1
      omega
    · rw [if_neg q, if_neg q]
      exact h.kMem i hi
  · show upd (S.2.1 3) b (Int32.ofNat n) j = oE (if j = b then some n else A.has j)
    by_cases e : j = b
    · rw [e, upd_at, if_pos rfl]
      rfl
    · rw [upd_ne _ _ e, if_neg e]
      exact h.kHas j hj
  · have hm : (if j = b then some n else A.has j) = some m := hm
    by_cases e : j = b
    · rw [if_pos e] at hm
      cases hm
      exact hn
    · rw [if_neg e] at hm
      exact h.kHasB j m hj hm
  · show (if j = b then some n else A.has j) ≠ none
    by_cases e : j = b
    · rw [if_pos e]
      exact fun q => by cases q
    · rw [if_neg e]
      exact h.kUpB j hj hu
  · show (if j = b then some n else A.has j) ≠ none
    by_cases e : j = b
    · rw [if_pos e]
      exact fun q => by cases q
    · rw [if_neg e]
      exact h.kToldH j hj
/-- the block's buffer, told -/
theorem c_tell {g : Gm} {ρ : Nat → Nat × Nat} {A : Ab} {S : StC} {post : Int32 → StC → Prop} {n : Nat} (h : RC g ρ A S) (hn : n < 4) (k : ∀ S', RC g ρ (Ab.set_told (getB A n) (some (bufO A n))) S' → post (Int32.ofNat (64 + 16 * bufO A n)) S') : wp_Me_tellBlock g post S (Int32.ofNat n) := by
  have h0 : ∀ b, b < 2 → ((S.2.1 3 b = Int32.ofNat n) ↔ A.has b = some n) := by
    intro b hb
    rw [h.kHas b hb]
    exact oE_eq (fun m hm => by have := h.kHasB b m hb hm; omega) (by omega)
  have ht : (S.1 11 = 0) ↔ A.told = some 0 := by
    rw [h.kTold]
    exact oE_eq (n := 0) (fun m hm => by have := h.kToldB m hm; omega) (by omega)
  have fin : ∀ (A1 : Ab) (S1 : StC) (b : Nat), b < 2 → b = bufO A n → getB A n = A1 → A1.has b = some n → RC g ρ A1 S1 → wq_Me_tellBlock_35 g post S1 (Int32.ofNat b) := by
    intro A1 S1 b hb eb e1 e3 hr
    have e64 : bufE.getD (Int32.toNatClampNeg (Int32.ofNat b)) 0 = Int32.ofNat (64 + 16 * b) := by
      match b, hb with
      | 0, _ => rfl
      | 1, _ => rfl
    refine ⟨n_in hb (by omega), ?_⟩
    rw [e64]
    rw [← eb, e1] at k
    refine k _ (RC.mk (hr.kHere) (hr.kHereB) (hr.kMem) (hr.kPr) (hr.kPrB) (hr.kPbB) (hr.kOut) (hr.kFu) (hr.kHas) (hr.kHasB) (hr.kUp) (hr.kUpB) (rfl) (fun m hm => ?_) (fun m hm => ?_) (hr.kMade) (hr.kMadeB) (hr.kWs) (hr.kRows) (hr.kLay) (hr.kPos) (hr.kTk) (hr.kTx) (hr.kBt) (hr.kG) (hr.kDs) (hr.kDsB) (hr.kDsS) (hr.kRs) (hr.kRsB) (hr.kRsS) (hr.kCs) (hr.kCsB) (hr.kCsS) (hr.kDr0) (hr.kDr) (hr.kOp) (hr.kOpB) (hr.kOpK) (hr.kOpA))
    · cases hm
      exact hb
    · cases hm
      show A1.has b ≠ none
      rw [e3]
      exact fun q => by cases q
  have get : ∀ b, b < 2 → b = bufO A n → ¬ A.has b = some n → wq_Me_tellBlock_23 g post S (Int32.ofNat n) (Int32.ofNat b) := by
    intro b hb eb hno
    have eg : getB A n = rdB (wrB A b) b n := by rw [getB, ← eb, if_neg hno]
    refine c_write h hb (fun S1 h1 => c_read h1 hb hn (fun S2 h2 => fin _ S2 b hb eb eg ?_ h2))
    show (if b = b then some n else _) = some n
    rw [if_pos rfl]
  unfold wp_Me_tellBlock
  refine ⟨3, fun z => absurd z (by decide), fun _ => ⟨n_in (a := 0) (by omega) (by omega), fun q => ?_, fun q => ⟨fun z => absurd z (by decide), fun _ => ⟨n_in (a := 1) (by omega) (by omega), fun q1 => ?_, fun q1 => ⟨fun _ => ?_, fun z => absurd (by decide) z⟩⟩⟩⟩⟩
  · have q := (h0 0 (by omega)).mp q
    have eb : 0 = bufO A n := by rw [bufO, if_pos q]
    exact ⟨fun z => absurd z (by decide), fun _ => fin A S 0 (by omega) eb (by rw [getB, ← eb, if_pos q]) q h⟩
  · have q : ¬ A.has 0 = some n := fun z => q ((h0 0 (by omega)).mpr z)
    have q1 := (h0 1 (by omega)).mp q1
    have eb : 1 = bufO A n := by rw [bufO, if_neg q, if_pos q1]
    exact ⟨fun z => absurd z (by decide), fun _ => fin A S 1 (by omega) eb (by rw [getB, ← eb, if_pos q1]) q1 h⟩
  · have q : ¬ A.has 0 = some n := fun z => q ((h0 0 (by omega)).mpr z)
    have q1 : ¬ A.has 1 = some n := fun z => q1 ((h0 1 (by omega)).mpr z)
    refine ⟨fun _ => ⟨fun z => ?_, fun z => ?_⟩, fun z => absurd rfl z⟩
    · have eb : 1 = bufO A n := by rw [bufO, if_neg q, if_neg q1, if_pos (ht.mp z)]
      exact get 1 (by omega) eb q1
    · have eb : 0 = bufO A n := by rw [bufO, if_neg q, if_neg q1, if_neg (fun y => z (ht.mpr y))]
      exact get 0 (by omega) eb q
