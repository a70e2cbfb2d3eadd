/-- the bytes k-1 .. 0 of a word -/
def appL (w : Int32) : Nat → List Int32
  | 0 => []
  | k + 1 => byteW w k :: appL w k
theorem appL_len (w : Int32) : ∀ k, (appL w k).length = k
  | 0 => rfl
  | k + 1 => by simp [appL, appL_len w k]
theorem appL_ok {w : Int32} : ∀ {k : Nat}, (∀ j, j < k → okB (byteW w j)) → ∀ c ∈ appL w k, okB c
  | 0, _, c, hc => absurd hc List.not_mem_nil
  | k + 1, h, c, hc => by
    rcases List.mem_cons.mp hc with e | e
    · rw [e]
      exact h k (by omega)
    · exact appL_ok (fun j hj => h j (by omega)) c e
theorem appL_cons (w : Int32) (k : Nat) (l : List Int32) : l ++ appL w (k + 1) = (l ++ [byteW w k]) ++ appL w k := by simp [appL]
theorem snoc_get {l : List Int32} {v c : Int32} {i : Nat} (h : (l ++ [v])[i]? = some c) : (i = l.length ∧ c = v) ∨ (i < l.length ∧ l[i]? = some c) := by
  have hi := get_lt h
  simp at hi
  by_cases e : i < l.length
  · rw [List.getElem?_append_left e] at h
    exact Or.inr ⟨e, h⟩
  · have : i = l.length := by omega
    subst this
    simp at h
    exact Or.inl ⟨rfl, h.symm⟩
theorem appsW_l {w : Int32} : ∀ (k n : Nat) (ch : Nat → Int32) (l : List Int32), n = l.length → (∀ i c, l[i]? = some c → ch i = c) → (appsW w k n ch).1 = (l ++ appL w k).length ∧ ∀ i c, (l ++ appL w k)[i]? = some c → (appsW w k n ch).2 i = c
  | 0, n, ch, l, hn, h => by
    refine ⟨?_, fun i c hc => ?_⟩
    · show n = (l ++ []).length
      simp
      exact hn
    · have hc : (l ++ [])[i]? = some c := hc
      rw [List.append_nil] at hc
      exact h i c hc
  | k + 1, n, ch, l, hn, h => by
    rw [appL_cons]
    refine appsW_l k (n + 1) _ (l ++ [byteW w k]) (by simp; omega) (fun i c hc => ?_)
    show (if i = n then byteW w k else ch i) = c
    rcases snoc_get hc with ⟨e, e'⟩ | ⟨e, e'⟩
    · rw [if_pos (by omega), e']
    · rw [if_neg (by omega)]
      exact h i c e'
/-- the class's first loop of type -/
theorem wt_30 {g : Gm} {post : Int32 → StC → Prop} {mc ms : Nat} {w a : Int32} {S : StC} {c0 z0 k : Nat} (hk : k ≤ 4) (hy : (∀ j, j < k → okB (byteW w j)) → ∃ nn, wq_W_type_67 g post mc ms nn S w (a - 1) c0 z0) (hq : ¬ (∀ j, j < k → okB (byteW w j)) → post 0 S) : ∀ (d : Nat) (x : Int32), d ≤ k → x.toInt = (d : Int) - 1 → (∀ j, d ≤ j → j < k → okB (byteW w j)) → wq_W_type_30 g post mc ms (d + 1) S w a x c0 z0
  | 0, x, hd, hx, hj => by
    refine ⟨fun _ => hy (fun j h => hj j (Nat.zero_le _) h), fun h => absurd ?_ h⟩
    rw [Int32.lt_iff_toInt_lt, hx]
    decide
  | d + 1, x, hd, hx, hj => by
    have ex : x = Int32.ofNat d := of_toInt (by omega) (by omega)
    refine ⟨fun h => ?_, fun _ => ?_⟩
    · rw [Int32.lt_iff_toInt_lt, hx] at h
      have k0 : (0 : Int32).toInt = 0 := rfl
      omega
    · unfold wp_W_byteOf
      have eb : ((Int32.toUInt32 w >>> (Int32.toUInt32 (8 * x) &&& Int32.toUInt32 31)).toInt32 &&& 255) = byteW w d := by
        rw [ex]
        exact byte_same w d (by omega)
      rw [eb]
      have no : (byteW w d < 32 ∨ 126 < byteW w d) → post 0 S := fun h => hq (fun hall => okB_no h (hall d (by omega)))
      have k126 : (126 : Int32).toInt = 126 := rfl
      refine ⟨fun h => no (Or.inl h), fun h1 => ⟨fun h2 => ?_, fun h2 => no (Or.inr ?_)⟩⟩
      · have k1 : (-1 : Int32).toInt = -1 := rfl
        refine wt_30 hk hy hq d (x + (-1)) (by omega) (by rw [i32_add (by omega) (by omega), k1, hx]; omega) (fun j h3 h4 => ?_)
        by_cases e : j = d
        · subst e
          refine okB_iff h1 (fun h5 => ?_)
          rw [Int32.le_iff_toInt_le] at h2
          rw [Int32.lt_iff_toInt_lt] at h5
          omega
        · exact hj j (by omega) h4
      · rw [Int32.lt_iff_toInt_lt]
        exact i32_nle h2
theorem c_type {g : Gm} {post : Int32 → StC → Prop} {S : StC} {w a : Int32} {n : Nat} {ch : Nat → Int32} (hT : TxC g S n ch) (hn : n ≤ 120) (h0 : ¬ (1 ≤ a.toInt ∧ a.toInt ≤ 4 ∧ n + a.toInt ≤ 120) → post 0 S) (h1 : ∀ k : Nat, a.toInt = (k : Int) → 1 ≤ k → k ≤ 4 → n + k ≤ 120 → ((∀ j, j < k → okB (byteW w j)) → ∀ S1, ExB S S1 → TxC g S1 (appsW w k n ch).1 (appsW w k n ch).2 → post 1 S1) ∧ (¬ (∀ j, j < k → okB (byteW w j)) → post 0 S)) : wp_W_type g post 700 8400 S w a := by
  have k1 : (1 : Int32).toInt = 1 := rfl
  have k4 : (4 : Int32).toInt = 4 := rfl
  have k120 : (120 : Int32).toInt = 120 := rfl
  refine ⟨fun h => h0 (fun z => ?_), fun h => ⟨fun h' => h0 (fun z => ?_), fun h' => ⟨0, 0, by omega, by omega, 0, 0, by omega, by omega, ?_⟩⟩⟩
  · rw [Int32.lt_iff_toInt_lt] at h
    omega
  · rw [Int32.lt_iff_toInt_lt] at h'
    omega
  · have b1 := i32_nlt h
    have b2 := i32_nlt h'
    have ea : a.toInt = ((a.toInt.toNat : Nat) : Int) := by omega
    generalize a.toInt.toNat = k at ea
    have es : (S.1 2 + a).toInt = (n : Int) + k := by
      rw [hT.2.1, i32_add (by rw [of_small (by omega)]; omega) (by omega), of_small (by omega), ea]
    refine ⟨fun h2 => ⟨k + 1, ?_⟩, fun h2 => h0 (fun z => h2 ?_)⟩
    · rw [Int32.le_iff_toInt_le, es, k120] at h2
      obtain ⟨y1, y2⟩ := h1 k ea (by omega) (by omega) (by omega)
      have em : (a - 1).toInt = (k : Int) - 1 := by rw [i32_sub (by omega) (by omega), ea, k1]
      refine wt_30 (k := k) (by omega) (fun hall => ⟨k + 1, ?_⟩) y2 k (a - 1) (Nat.le_refl _) em (fun j q1 q2 => absurd q2 (by omega))
      exact wt_put k S n ch (a - 1) _ _ (by omega) em hT (by omega) hall (by omega) (by omega) (y1 hall)
    · rw [Int32.le_iff_toInt_le, es, k120]
      omega
theorem fw_type {Q : Int32 → StM → Prop} {T : StM} {w a : Int32} {n : Nat} {ch : Nat → Int32} (hT : TxM T n ch) (h0 : ¬ (1 ≤ a.toInt ∧ a.toInt ≤ 4 ∧ n + a.toInt ≤ 120) → Q 0 T) (h1 : ∀ k : Nat, a.toInt = (k : Int) → 1 ≤ k → k ≤ 4 → n + k ≤ 120 → ((∀ j, j < k → okB (byteW w j)) → Q 1 (putM w k T)) ∧ (¬ (∀ j, j < k → okB (byteW w j)) → Q 0 T)) : wp_M_type Q T w a := by
  have k1 : (1 : Int32).toInt = 1 := rfl
  have k4 : (4 : Int32).toInt = 4 := rfl
  have k120 : (120 : Int32).toInt = 120 := rfl
  have hn := hT.2.1
  refine wt_in (fun h => ⟨fun _ => fw_25z (h0 (fun z => ?_)), fun e => absurd rfl e⟩) (fun h h' => ⟨fun e => absurd e (by decide), fun _ => ?_⟩)
  · rw [Int32.lt_iff_toInt_lt, Int32.lt_iff_toInt_lt] at h
    omega
  · have b1 := i32_nlt h
    have b2 := i32_nlt h'
    have ea : a.toInt = ((a.toInt.toNat : Nat) : Int) := by omega
    generalize a.toInt.toNat = k at ea
    have es : (T.1 1 + a).toInt = (n : Int) + k := by
      rw [hT.1, i32_add (by rw [of_small (by omega)]; omega) (by omega), of_small (by omega), ea]
    refine ⟨fun h2 => fw_25z (h0 (fun z => ?_)), fun h2 => ⟨k + 2, ?_⟩⟩
    · rw [Int32.lt_iff_toInt_lt, es, k120] at h2
      omega
    · have h2 := i32_nlt h2
      rw [es, k120] at h2
      obtain ⟨y1, y2⟩ := h1 k ea (by omega) (by omega) (by omega)
      have em : (a - 1).toInt = (k : Int) - 1 := by rw [i32_sub (by omega) (by omega), ea, k1]
      exact fw_29 ea (by omega) (fun hall => ⟨k + 1, fw_69 k T n ch (a - 1) (by omega) em hT (by omega) (y1 hall)⟩) y2 k 0 (by omega) (fun j hj => absurd hj (by omega))
/-- the reference's text grows -/
theorem rm_put {A : Ab} {w : Int32} : ∀ (k : Nat) (l : List Int32) (T : StM), RM (Ab.set_tx A (l)) (upd (upd T.1 2 0) 14 0, T.2) → (∀ j, j < k → okB (byteW w j)) → l.length + k ≤ 120 → RM (Ab.set_tx A (l ++ appL w k)) (upd (upd (putM w k T).1 2 0) 14 0, (putM w k T).2)
  | 0, l, T, h, _, _ => by
    show RM (Ab.set_tx A (l ++ [])) (upd (upd T.1 2 0) 14 0, T.2)
    rw [List.append_nil]
    exact h
  | k + 1, l, T, h, hb, hl => by
    rw [appL_cons]
    have et : T.1 1 = Int32.ofNat l.length := h.txE
    have hp : A.pos ≤ l.length := h.posB
    refine rm_put k (l ++ [byteW w k]) (upd T.1 1 (T.1 1 + 1), va_up T.2.1 0 (upd (T.2.1 0) (Int32.toNatClampNeg (T.1 1)) (byteW w k)), T.2.2) ?_ (fun j hj => hb j (by omega)) (by simp; omega)
    exact (RM.mk (h.hereE) (h.hereB) (h.memE) (h.prE) (h.prB) (h.pbB) (h.outE) (h.fuE) (h.blkE) (h.hasE) (h.hasB) (h.upE) (h.toldE) (h.toldB) (h.upB) (h.toldH) (h.madeE) (h.madeB) (h.wsE) (h.namE) (by
        show T.1 1 + 1 = Int32.ofNat (l ++ [byteW w k]).length
        rw [et, of_succ, List.length_append]
        rfl) (by
        show (l ++ [byteW w k]).length ≤ 120
        simp
        omega) (by
        intro i c hc
        show upd (T.2.1 0) (Int32.toNatClampNeg (T.1 1)) (byteW w k) i = c
        rw [et, n_cl (by omega)]
        rcases snoc_get hc with ⟨e, e'⟩ | ⟨e, e'⟩
        · rw [e, e', upd_at]
        · rw [upd_ne _ _ (by omega)]
          exact h.txC i c e') (by
        intro c hc
        rcases List.mem_append.mp hc with q | q
        · exact h.txO c q
        · rw [List.mem_singleton.mp q]
          exact hb k (by omega)) (h.posE) (by
        show A.pos ≤ (l ++ [byteW w k]).length
        simp
        omega) (h.tkE) (h.tlE) (h.err) (h.dsE) (h.dsB) (h.dsS) (h.rsE) (h.rsB) (h.rsS) (h.csE) (h.csB) (h.csS) (h.csW) (h.drE) (h.drW) (h.opE) (h.opB) (h.opK) (h.opA))
theorem r10 {n k : Nat} (h : n ≠ 10) : ¬ ((n, k) : Nat × Nat) = (10, 0) := fun z => h (congrArg Prod.fst z)
/-- the class's text grows -/
theorem RC.exb {g : Gm} {ρ : Nat → Nat × Nat} {A : Ab} {S S1 : StC} {l : List Int32} {n : Nat} {ch : Nat → Int32} (h : RC g ρ A S) (hE : ExB S S1) (hT : TxC g S1 n ch) (hn : n = l.length) (hl : l.length ≤ 120) (hch : ∀ i c, l[i]? = some c → ch i = c ∧ okB c) : ∃ ρ', RC g ρ' (Ab.set_bt A (l)) S1 := by
  obtain ⟨x1, x2, x3, x4, x5, x6, x7, x8⟩ := hE
  obtain ⟨t1, t2, cap, f, t3, t4, t5, t6, t7, t8⟩ := hT
  obtain ⟨b0, b2, cap0, f0, p, -⟩ := h.kBt
  obtain ⟨I, Aa, P, R, Q, L1, F1⟩ := S1
  have eI : I = upd S.1 2 (I 2) := funext fun k => by
    by_cases e : k = 2
    · subst e
      rw [upd_at]
    · rw [upd_ne _ _ e]
      exact x1 k e
  have eP : P = va_up S.2.2.1 0 (P 0) := funext fun k => by
    by_cases e : k = 0
    · subst e
      rw [va_up_self]
    · rw [va_up_ne _ _ e]
      exact x3 k e
  have x2 : Aa = S.2.1 := x2
  have x4 : R = S.2.2.2.1 := x4
  have x5 : Q = S.2.2.2.2.1 := x5
  subst x2
  subst x4
  subst x5
  have x6 : ∀ a, a ∈ S.2.2.2.2.2.1 → a ∈ L1 := x6
  have x7 : ∀ a, a ∈ S.2.2.2.2.2.1 → a ≠ S.2.2.1 0 → F1 a = S.2.2.2.2.2.2 a := x7
  have x8 : P 0 = S.2.2.1 0 ∨ P 0 ∉ S.2.2.2.2.2.1 := x8
  have t2 : I 2 = Int32.ofNat n := t2
  have t3 : P 0 ∈ L1 := t3
  have t4 : F1 (P 0) = .inl (g.2.1 3, cap, .inl f) := t4
  have hc : Chg ρ (fun r => r = (10, 0)) S.2.2.2.2.2.2 (va_up S.2.2.2.2.2.2 (S.2.2.1 0) (F1 (S.2.2.1 0))) := (Chg.refl ρ _ _).put p.2.1
  have hx : Ext S.2.2.2.2.2.1 (va_up S.2.2.2.2.2.2 (S.2.2.1 0) (F1 (S.2.2.1 0))) ρ L1 F1 (va_up ρ (P 0) (10, 0)) := by
    intro a ha
    refine ⟨x6 a ha, ?_, ?_⟩
    · by_cases e : a = S.2.2.1 0
      · rw [e, va_up_self]
      · rw [va_up_ne _ _ e]
        exact x7 a ha e
    · by_cases e : a = P 0
      · rw [e, va_up_self]
        rcases x8 with q | q
        · rw [q]
          exact p.2.1.symm
        · exact absurd (e ▸ ha) q
      · rw [va_up_ne _ _ e]
  have pn : BldAt g 0 (Int32.ofNat n) (P 0) L1 F1 (va_up ρ (P 0) (10, 0)) l := ⟨rfl, by rw [hn], cap, f, ⟨t3, va_up_self _ _ _, t4⟩, by omega, t6, t7, hl, fun i c hc => ⟨by rw [t8 i (by have := get_lt hc; omega)]; exact (hch i c hc).1, (hch i c hc).2⟩⟩
  refine ⟨va_up ρ (P 0) (10, 0), ?_⟩
  rw [t2] at eI
  clear t1 t2 t3 t4 x1 x3 x8
  generalize P 0 = b at eP pn hx ⊢
  subst eI
  subst eP
  refine (RC.mk (h.kHere) (h.kHereB) (h.kMem) (h.kPr) (h.kPrB) (h.kPbB) (h.kOut) (h.kFu) (h.kHas) (h.kHasB) (h.kUp) (h.kUpB) (h.kTold) (h.kToldB) (h.kToldH) (h.kMade) (h.kMadeB) (fun k w hk => ?_) (fun b hb => ((h.kRows b hb).chg hc (r10 (by decide))).ext hx) (fun c hcc => ?_) (h.kPos) (h.kTk) ((h.kTx.chg hc (r10 (by decide)) (r10 (by decide))).ext hx) (?_) (h.kG) (h.kDs) (h.kDsB) (h.kDsS) (h.kRs) (h.kRsB) (h.kRsS) (h.kCs) (h.kCsB) ((h.kCsS.chg hc (fun c _ => ⟨r10 (by decide), r10 (by decide), r10 (by decide)⟩)).ext hx) (h.kDr0) (fun w hw => ?_) (h.kOp) (h.kOpB) (h.kOpK) (h.kOpA))
  · obtain ⟨a, e, hw⟩ := h.kWs k w hk
    exact ⟨a, e, (hw.chg hc (r10 (by decide)) (r10 (by decide)) (r10 (by decide)) (r10 (by decide)) (r10 (by decide))).ext hx⟩
  · obtain ⟨w, nx, lo, fl, fc, z⟩ := h.kLay c hcc
    exact ⟨w, nx, lo, fl, fc, (z.chg hc (r10 (by decide)) (r10 (by decide)) (r10 (by decide))).ext hx⟩
  · show BldAt g (S.1 0) (Int32.ofNat n) (va_up S.2.2.1 0 b 0) L1 F1 _ l
    rw [va_up_self, b0]
    exact pn
  · obtain ⟨hm, a, e, z⟩ := h.kDr w hw
    exact ⟨hm, a, e, (z.chg hc (r10 (by decide)) (r10 (by decide)) (r10 (by decide)) (r10 (by decide)) (r10 (by decide))).ext hx⟩
theorem back_type : Back_type Sim 700 8400 := by
  intro k g S T hk hs a0 a1
  obtain ⟨A, ρ, p, t, tx', hpr, hcs, hC, hM, hR⟩ := hs
  have hTM : TxM T A.tx.length (T.2.1 0) := ⟨hM.txE, hM.txB, fun _ _ => rfl⟩
  have htxC : ∀ i c, A.tx[i]? = some c → T.2.1 0 i = c := hM.txC
  have hB := hM.txB
  refine ⟨fw_type hTM (fun _ => trivial) (fun _ _ _ _ _ => ⟨fun _ => trivial, fun _ => trivial⟩), fun post hp => ?_⟩
  have sim : Sim (k + 1) g S T := ⟨A, ρ, p, t, tx', by omega, hcs, hC, hM, hR⟩
  have hTC : TxC g S A.tx.length (T.2.1 0) := by
    obtain ⟨b0, b2, cap, f, q, c1, c2, c3, c4, c5⟩ := hR.kBt
    refine ⟨b0, b2, cap, f, q.1, q.2.2, c1, c2, c3, fun i hi => ?_⟩
    have e := List.getElem?_eq_getElem hi
    rw [(c5 i _ e).1, htxC i _ e]
  refine c_type hTC hB (fun hn => ?_) (fun m em m1 m4 mn => ⟨fun hall S1 hE hT1 => ?_, fun hno => ?_⟩)
  · exact elimI dt_wp_M_type (P := fun r T1 => ∀ S1 : StC, Sim (k + 1) g S1 T1 → post r S1) (r := 0) (T := T) (fun Q hQ => fw_type hTM (fun _ => hQ) (fun m em m1 m4 mn => absurd ⟨by omega, by omega, by omega⟩ hn)) hp S sim
  · refine elimI dt_wp_M_type (P := fun r T1 => ∀ S1 : StC, Sim (k + 1) g S1 T1 → post r S1) (r := 1) (T := putM a0 m T) (fun Q hQ => fw_type hTM (fun hn => absurd ⟨by omega, by omega, by omega⟩ hn) (fun m' em' _ _ _ => ?_)) hp S1 ?_
    · have : m' = m := by omega
      subst this
      exact ⟨fun _ => hQ, fun n => absurd hall n⟩
    · obtain ⟨l1, l2⟩ := appsW_l (w := a0) m A.tx.length (T.2.1 0) A.tx rfl htxC
      have hlen : (A.tx ++ appL a0 m).length ≤ 120 := by
        rw [List.length_append, appL_len]
        omega
      have hO : ∀ c ∈ A.tx ++ appL a0 m, okB c := fun c hc => by
        rcases List.mem_append.mp hc with q | q
        · exact hM.txO c q
        · exact appL_ok hall c q
      obtain ⟨ρ', hR'⟩ := hR.exb hE hT1 l1 hlen (fun i c hc => ⟨l2 i c hc, hO c (List.mem_of_getElem? hc)⟩)
      refine ⟨(Ab.set_tx A (A.tx ++ appL a0 m)), ρ', p, t, tx', ?_, hcs, CD.of hcs hC.ws hC.fu hC.wl hC.nms hC.dr, rm_put m A.tx T (RM.mk (hM.hereE) (hM.hereB) (hM.memE) (hM.prE) (hM.prB) (hM.pbB) (hM.outE) (hM.fuE) (hM.blkE) (hM.hasE) (hM.hasB) (hM.upE) (hM.toldE) (hM.toldB) (hM.upB) (hM.toldH) (hM.madeE) (hM.madeB) (hM.wsE) (hM.namE) (hM.txE) (hM.txB) (hM.txC) (hM.txO) (hM.posE) (hM.posB) (hM.tkE) (hM.tlE) (hM.err) (hM.dsE) (hM.dsB) (hM.dsS) (hM.rsE) (hM.rsB) (hM.rsS) (hM.csE) (hM.csB) (hM.csS) (hM.csW) (hM.drE) (hM.drW) (hM.opE) (hM.opB) (hM.opK) (hM.opA)) hall mn, (RC.mk ((hR').kHere) ((hR').kHereB) ((hR').kMem) ((hR').kPr) ((hR').kPrB) ((hR').kPbB) ((hR').kOut) ((hR').kFu) ((hR').kHas) ((hR').kHasB) ((hR').kUp) ((hR').kUpB) ((hR').kTold) ((hR').kToldB) ((hR').kToldH) ((hR').kMade) ((hR').kMadeB) ((hR').kWs) ((hR').kRows) ((hR').kLay) ((hR').kPos) ((hR').kTk) ((hR').kTx) ((hR').kBt) (hR'.kG) ((hR').kDs) ((hR').kDsB) ((hR').kDsS) ((hR').kRs) ((hR').kRsB) ((hR').kRsS) ((hR').kCs) ((hR').kCsB) ((hR').kCsS) ((hR').kDr0) ((hR').kDr) ((hR').kOp) ((hR').kOpB) ((hR').kOpK) ((hR').kOpA))⟩
      show A.pr ≤ _
      omega
  · refine elimI dt_wp_M_type (P := fun r T1 => ∀ S1 : StC, Sim (k + 1) g S1 T1 → post r S1) (r := 0) (T := T) (fun Q hQ => fw_type hTM (fun hn => absurd ⟨by omega, by omega, by omega⟩ hn) (fun m' em' _ _ _ => ?_)) hp S sim
    have : m' = m := by omega
    subst this
    exact ⟨fun h => absurd h hno, fun _ => hQ⟩
