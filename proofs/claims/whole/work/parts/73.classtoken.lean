/-- a defining word -/
theorem c_define {g : Gm} {ρ : Nat → Nat × Nat} {A : Ab} {S : StC} {post : Int32 → StC → Prop} {t mc ms : Nat} (h : RC g ρ A S) (ht : 32 ≤ t ∧ t ≤ 36) (hcs : A.cs = []) (hX : A.tx.length ≤ 120) (hpos : A.pos ≤ A.tx.length) (hbud : A.dr = none → ¬ t = 36 → 2 ≤ mc ∧ 4 + tlO A ≤ ms ∧ (isNameL (tokL (nextT A)) = true → 5 ≤ mc ∧ 4 + tlO A + 125 ≤ ms)) (k : ∀ ρ' S', RCr g ρ' (parA t A) S' → post (parA t A).1 S') : wp_Rd_define g post mc ms S (g.2.2 (100 + t)) := by
  have hG := h.kG
  have e36 := en_c hG (t := t) (c := 136) (by omega) (by decide)
  have e32 := en_c hG (t := t) (c := 132) (by omega) (by decide)
  have hle := nextT_le hpos
  have htk := tkO_le hpos
  unfold wp_Rd_define
  rw [e36, e32]
  refine c_comp h (fun hd => ⟨fun _ => ⟨fun z => ?_, fun z => ?_⟩, fun q => absurd rfl q⟩) (fun w hd => ⟨fun q => absurd q (by decide), fun _ => ?_⟩)
  · have z : t = 36 := z
    subst z
    have e0 : parA 36 A = if A.ws.length = 0 then (6, A) else (0, (Ab.set_ws A (setIm A.ws))) := by
      rw [parA]
      split
      · rename_i q
        rw [hd] at q
        cases q
      · rw [if_pos rfl]
    rw [e0] at k
    refine c_mkimm h hd (fun e => ?_) (fun e S' h' => ?_)
    · rw [if_pos e] at k
      exact k ρ _ (RCr.no (by decide) h.toRCw)
    · rw [if_neg e] at k
      exact k ρ _ (RCr.ok h')
  · have z : ¬ t = 36 := z
    obtain ⟨hmc, hms, hmk⟩ := hbud hd z
    have ep : parA t A = if isNameL (tokL (nextT A)) = true then parB t (nextP A) (tokL (nextT A)) else (6, nextP A) := by
      rw [parA]
      split
      · rename_i q
        rw [hd] at q
        cases q
      · rw [if_neg z]
    rw [ep] at k
    refine ⟨0, 0, by omega, by omega, (A.tx.drop A.pos).length + 1, c_skip (A := A) (A.tx.drop A.pos) S A.pos 0 0 h hX rfl (by omega) (Nat.zero_le _) (Nat.zero_le _) (fun S1 h1 => ⟨2, 4 + tlO A, by omega, by omega, ?_⟩)⟩
    have h1 : RC g ρ (Ab.set_pos A (tkO A)) S1 := h1
    have eP : S1.1 3 = Int32.ofNat (tkO A) := h1.kPos
    refine ⟨(A.tx.drop (tkO A)).length + 1, ?_⟩
    rw [eP]
    refine c_cut (A := A) (p := tkO A) (A.tx.drop (tkO A)) S1 (tkO A) 0 0 h1 hX rfl (Nat.le_refl _) htk (by omega) (by show 0 + (4 + (tkO A + tlO A - tkO A)) ≤ 4 + tlO A; omega) (fun y ρ' S2 h2 hy => ⟨y, rfl, 0, 0, by omega, by omega, ?_⟩)
    have el : tkO A + nb (A.tx.drop (tkO A)) - tkO A = tlO A := by
      show tkO A + tlO A - tkO A = tlO A
      omega
    rw [el] at hy
    have hy : StrX g S2.2.2.2.2.2.1 S2.2.2.2.2.2.2 ρ' y (tokL (nextT A)) := hy
    have h2 : RC g ρ' (nextP A) S2 := h2
    have hlen : (tokL (nextT A)).length = tlO A := tok_len hle
    refine c_isName hy (by omega) ?_
    cases ei : isNameL (tokL (nextT A)) with
    | false =>
      rw [ei, if_neg (by decide)] at k
      exact ⟨fun _ => k ρ' _ (RCr.no (by decide) h2.toRCw), fun q => absurd rfl q⟩
    | true =>
      rw [ei, if_pos rfl] at k
      obtain ⟨hm1, hm2⟩ := hmk ei
      obtain ⟨n1, n2, -⟩ := isNameL_len ei
      have hat := hy.at (by omega)
      refine ⟨fun q => absurd q (by decide), fun _ => ⟨fun q => ⟨y, rfl, 0, 0, by omega, by omega, ?_⟩, fun q => ⟨y, rfl, 3, 125, by omega, by omega, ?_⟩⟩⟩
      · have q : t = 32 := q
        subst q
        have k : ∀ ρ' S', RCr g ρ' (match findA A.ws (tokL (nextT A)) with
            | none => (1, nextP A)
            | some t => pushR (nextP A) (Int32.ofNat t)) S' → post (match findA A.ws (tokL (nextT A)) with
            | none => (1, nextP A)
            | some t => pushR (nextP A) (Int32.ofNat t)).1 S' := k
        unfold wp_Rd_putNumberOfWord wq_Rd_putNumberOfWord_29
        refine ⟨0, 0, by omega, by omega, c_find h2.toRCw hat ei ?_⟩
        show (fE (findA A.ws (tokL (nextT A))) = -1 → _) ∧ (¬ fE (findA A.ws (tokL (nextT A))) = -1 → wp_Ma_putNumber g _ S2 (fE (findA A.ws (tokL (nextT A)))))
        cases ef : findA A.ws (tokL (nextT A)) with
        | none =>
          rw [ef] at k
          exact ⟨fun _ => k ρ' _ (RCr.no (by decide) h2.toRCw), fun q => absurd rfl q⟩
        | some n =>
          rw [ef] at k
          have hn := findA_lt ef
          have hwB := h.kMadeB
          refine ⟨fun q => ?_, fun _ => c_put h2 (k ρ')⟩
          have := congrArg Int32.toInt q
          have e1 : (fE (some n)).toInt = (n : Int) := of_small (by omega)
          have e2 : (-1 : Int32).toInt = -1 := rfl
          omega
      · have q : ¬ t = 32 := q
        match t, ht with
        | 32, _ => exact absurd rfl q
        | 33, _ => exact mkw_33 h2 hat hd hcs k
        | 34, _ => exact mkw_34 h2 hat hd hcs k
        | 35, _ => exact mkw_35 h2 hat hd hcs k
        | 36, _ => exact absurd rfl z
        | n + 37, ht => omega
  · have e0 : parA t A = (6, A) := by
      rw [parA]
      split
      · rfl
      · rename_i q
        rw [hd] at q
        cases q
    rw [e0] at k
    exact k ρ _ (RCr.no (by decide) h.toRCw)
theorem parA_pos {A : Ab} {t : Nat} (hd : A.dr = none) (ht : ¬ t = 36) : (parA t A).2.pos = tkO A + tlO A := by
  unfold parA
  split
  · rename_i q
    rw [hd] at q
    cases q
  · rw [if_neg ht]
    split
    · unfold parB
      split
      · split
        · rfl
        · unfold pushR
          split <;> rfl
      · split
        · split <;> rfl
        · rfl
      · unfold w1
        split
        · dsimp only
          split <;> rfl
        · rfl
      · split <;> rfl
    · rfl
/-- a word that is done or compiled -/
theorem c_110 {g : Gm} {ρ : Nat → Nat × Nat} {A : Ab} {S : StC} {post : Int32 → StC → Prop} {t mc ms c0 z0 : Nat} (h : RC g ρ A S) (hp : A.pr + A.fu < A.pb) (hT : t = 31 ∨ okT A.ws.length t) (k : ∀ S', RCr g ρ (match A.dr with
      | some w => if imOf A.ws t = true then doP t A else compR A w 0 (Int32.ofNat t) A.op id
      | none => doP t A) S' → post (match A.dr with
      | some w => if imOf A.ws t = true then doP t A else compR A w 0 (Int32.ofNat t) A.op id
      | none => doP t A).1 S') : wq_Rd_readToken_110 g post mc ms S (Int32.ofNat t) c0 z0 := by
  have hB := h.kMadeB
  have hlt : t < 1000 := by unfold okT at hT; omega
  unfold wq_Rd_readToken_110 wq_Rd_readToken_144
  refine c_comp h (fun hd => ⟨fun _ => ?_, fun q => absurd rfl q⟩) (fun w hd => ⟨fun q => absurd q (by decide), fun _ => c_imm h (by omega) ?_⟩)
  · refine c_start h hp hT (fun S' h' => ?_)
    have := k S'
    split at this
    · rename_i q
      rw [hd] at q
      cases q
    · exact this h'
  · have k : ∀ S', RCr g ρ (if imOf A.ws t = true then doP t A else compR A w 0 (Int32.ofNat t) A.op id) S' → post (if imOf A.ws t = true then doP t A else compR A w 0 (Int32.ofNat t) A.op id).1 S' := by
      intro S'
      have := k S'
      split at this
      · rename_i q
        rw [hd] at q
        cases q
        exact this
      · rename_i q
        rw [hd] at q
        cases q
    cases ei : imOf A.ws t with
    | false =>
      rw [ei, if_neg (by decide)] at k
      exact ⟨fun _ => c_addItem (kd := 0) h hd k, fun q => absurd rfl q⟩
    | true =>
      rw [ei, if_pos rfl] at k
      exact ⟨fun q => absurd q (by decide), fun _ => c_start h hp hT k⟩
/-- a token, read -/
theorem c_readTok {g : Gm} {ρ : Nat → Nat × Nat} {A : Ab} {S : StC} {post : Int32 → StC → Prop} {mc ms : Nat} (h : RC g ρ A S) (hC : CD A) (hcs : A.cs = []) (hX : A.tx.length ≤ 120) (hpos : A.pos ≤ A.tx.length) (hB : A.tk + A.tl ≤ A.tx.length) (hl : 0 < A.tl) (ht : StrX g S.2.2.2.2.2.1 S.2.2.2.2.2.2 ρ (S.2.2.1 2) (tokL A)) (hmc : 3 + 5 * ((readA A).2.pos - A.pos) ≤ mc) (hms : 63 + 68 * ((readA A).2.pos - A.pos) ≤ ms) (k : ∀ ρ' S', RCr g ρ' (readA A) S' → post (readA A).1 S') : wp_Rd_readToken g post mc ms S := by
  have hlen := tok_len hB
  have hp := h.kPrB
  unfold wp_Rd_readToken
  refine c_burn h hC.fu (fun hz => ⟨fun _ => ?_, fun q => absurd rfl q⟩) (fun hz h1 => ⟨fun q => absurd q (by decide), fun _ => ⟨0, 0, by omega, by omega, ?_⟩⟩)
  · have e : readA A = (7, A) := by rw [readA, if_pos hz]
    rw [e] at k
    exact k ρ _ (RCr.no (by decide) h.toRCw)
  have eR : readA A = rdT (Ab.set_fu A (A.fu - 1)) (tokL A) := by rw [readA, if_neg (by omega)]
  rw [eR] at k hmc hms
  have ht1 : StrX g (upd S.1 7 (S.1 7 - 1), S.2).2.2.2.2.2.1 (upd S.1 7 (S.1 7 - 1), S.2).2.2.2.2.2.2 ρ (S.2.2.1 2) (tokL A) := ht
  refine c_isNum ht1 (by omega) ?_
  cases en : isNumL (tokL A) with
  | true =>
    refine ⟨fun q => absurd q (by decide), fun _ => ⟨0, 0, by omega, by omega, c_numOf ht1 (by omega) en ?_⟩⟩
    have er : rdT (Ab.set_fu A (A.fu - 1)) (tokL A) = match A.dr with
        | some w => compR (Ab.set_fu A (A.fu - 1)) w 1 (numL (tokL A)) A.op id
        | none => pushR (Ab.set_fu A (A.fu - 1)) (numL (tokL A)) := by
      rw [rdT, if_pos en]
      rfl
    rw [er] at k
    unfold wp_Rd_readNumber
    refine c_comp h1 (fun hd => ⟨fun _ => ?_, fun q => absurd rfl q⟩) (fun w hd => ⟨fun q => absurd q (by decide), fun _ => ?_⟩)
    · have hd : A.dr = none := hd
      have k : ∀ S', RCr g ρ (pushR (Ab.set_fu A (A.fu - 1)) (numL (tokL A))) S' → post (pushR (Ab.set_fu A (A.fu - 1)) (numL (tokL A))).1 S' := by
        intro S'
        have := k ρ S'
        split at this
        · rename_i q
          rw [hd] at q
          cases q
        · exact this
      exact c_put h1 k
    · have hd' : A.dr = some w := hd
      have k : ∀ S', RCr g ρ (compR (Ab.set_fu A (A.fu - 1)) w 1 (numL (tokL A)) A.op id) S' → post (compR (Ab.set_fu A (A.fu - 1)) w 1 (numL (tokL A)) A.op id).1 S' := by
        intro S'
        have := k ρ S'
        split at this
        · rename_i q
          rw [hd'] at q
          cases q
          exact this
        · rename_i q
          rw [hd'] at q
          cases q
      exact c_addItem (kd := 1) h1 hd k
  | false =>
    refine ⟨fun _ => ⟨0, 0, by omega, by omega, c_isName ht1 (by omega) ?_⟩, fun q => absurd rfl q⟩
    have er0 : rdT (Ab.set_fu A (A.fu - 1)) (tokL A) = match findA A.ws (tokL A) with
        | none => (1, (Ab.set_fu A (A.fu - 1)))
        | some t => if 32 ≤ t ∧ t ≤ 36 then parA t (Ab.set_fu A (A.fu - 1)) else if 40 ≤ t ∧ t ≤ 51 then ctl t (Ab.set_fu A (A.fu - 1)) else match A.dr with
          | some w => if imOf A.ws t = true then doP t (Ab.set_fu A (A.fu - 1)) else compR (Ab.set_fu A (A.fu - 1)) w 0 (Int32.ofNat t) A.op id
          | none => doP t (Ab.set_fu A (A.fu - 1)) := by
      rw [rdT, if_neg (by rw [en]; decide)]
      rfl
    rw [er0] at k hmc hms
    cases ei : isNameL (tokL A) with
    | false =>
      have ef : findA A.ws (tokL A) = none := by rw [findA, if_neg (by rw [ei]; decide)]
      rw [ef] at k
      exact ⟨fun _ => ⟨fun _ => k ρ _ (RCr.no (by decide) h1.toRCw), fun q => absurd rfl q⟩, fun q => absurd rfl q⟩
    | true =>
      refine ⟨fun q => absurd q (by decide), fun _ => ⟨0, 0, by omega, by omega, c_find h1.toRCw (ht1.at (by omega)) ei ?_⟩⟩
      have eWs : ((Ab.set_fu A (A.fu - 1)) : Ab).ws = A.ws := rfl
      rw [eWs]
      cases ef : findA A.ws (tokL A) with
      | none =>
        rw [ef] at k
        exact ⟨fun _ => k ρ _ (RCr.no (by decide) h1.toRCw), fun q => absurd rfl q⟩
      | some t =>
        rw [ef] at k hmc hms
        dsimp only at k hmc hms
        have hlt := findA_lt ef
        have hwB := h.kMadeB
        have hG := h.kG
        refine ⟨fun q => ?_, fun _ => ?_⟩
        · have := congrArg Int32.toInt q
          have e1 : (fE (some t)).toInt = (t : Int) := of_small (by omega)
          have e2 : (-1 : Int32).toInt = -1 := rfl
          omega
        · show wp_Bi_numbered g _ _ (Int32.ofNat t)
          have go : ∀ c0 z0, ¬ (32 ≤ t ∧ t ≤ 36) → ¬ (40 ≤ t ∧ t ≤ 51) → wq_Rd_readToken_110 g post mc ms (upd S.1 7 (S.1 7 - 1), S.2) (Int32.ofNat t) c0 z0 := by
            intro c0 z0 c1 c2
            rw [if_neg c1, if_neg c2] at k
            exact c_110 h1 (show A.pr + (A.fu - 1) < A.pb by omega) (show t = 31 ∨ okT A.ws.length t by unfold okT; omega) (k ρ)
          refine c_num (fun z => ⟨fun q => (by cases q), fun y e => ?_⟩) (fun z => ⟨fun _ => ⟨fun _ => go _ _ (by omega) (by omega), fun y e => (by cases e)⟩, fun y e => (by cases e)⟩) (by omega)
          cases e
          refine ⟨t, z, rfl, c_isDef hG z ?_⟩
          by_cases c1 : 32 ≤ t ∧ t ≤ 36
          · rw [decide_eq_true c1]
            rw [if_pos c1] at k hmc hms
            refine ⟨fun q => absurd q (by decide), fun _ => ⟨mc, ms, by omega, by omega, c_define h1 c1 hcs hX hpos (fun hd hn => ?_) k⟩⟩
            have hpp := parA_pos (A := (Ab.set_fu A (A.fu - 1))) hd hn
            rw [hpp] at hmc hms
            have e1 : tkO (Ab.set_fu A (A.fu - 1)) = tkO A := rfl
            have e2 : tlO (Ab.set_fu A (A.fu - 1)) = tlO A := rfl
            have e3 : tkO A = A.pos + sk (A.tx.drop A.pos) := rfl
            rw [e1, e2] at hmc hms
            refine ⟨by omega, by rw [e2]; omega, fun hn => ?_⟩
            obtain ⟨n1, -, -⟩ := isNameL_len hn
            have e4 : (tokL (nextT (Ab.set_fu A (A.fu - 1)))).length = tlO A := tok_len (nextT_le hpos)
            rw [e2]
            omega
          · rw [decide_eq_false c1]
            refine ⟨fun _ => ⟨fun q => (by cases q), fun y e => ?_⟩, fun q => absurd rfl q⟩
            cases e
            refine ⟨t, z, rfl, c_isComp hG z ?_⟩
            by_cases c2 : 40 ≤ t
            · rw [decide_eq_true c2]
              rw [if_neg c1, if_pos ⟨c2, by omega⟩] at k
              exact ⟨fun q => absurd q (by decide), fun _ => c_ctl h1 ⟨c2, by omega⟩ (fun w hw => (hC.dr w hw).1.ops) hcs (k ρ)⟩
            · rw [decide_eq_false c2]
              exact ⟨fun _ => go _ _ c1 (by omega), fun q => absurd rfl q⟩
