theorem wa_append {g : Gm} {S : StC} {n mc ms : Nat} {ch : Nat → Int32} {v : Int32} {post : Option Nat → StC → Prop} (hT : TxC g S n ch) (hn : n < 120) (hv : 32 ≤ v.toInt ∧ v.toInt ≤ 126) (hmc : 1 ≤ mc) (hms : 142 ≤ ms)
    (kk : ∀ S1 : StC, ExB S S1 → TxC g S1 (n + 1) (fun i => if i = n then v else ch i) → post (some (g.2.2 1)) S1) : wp_SB_append g post mc ms S v := by
  obtain ⟨h0, h2, cap, f, hm, hf, hle, hc, hb, hch⟩ := hT
  have k255 : (255 : Int32).toInt = 255 := rfl
  have hv255 : ¬ (255 : Int32) < v := fun z => by
    rw [Int32.lt_iff_toInt_lt] at z
    omega
  have esh : Int32.ofNat cap >>> (S.1 0 &&& 31) = Int32.ofNat cap := by
    rw [h0]
    rcases hc with rfl | rfl | rfl | rfl <;> decide
  have hcap : cap ≤ 142 := by omega
  have ed : (S.1 2 + 1 - Int32.ofNat cap).toInt = (n : Int) + 1 - cap := by
    rw [h2, of_succ, i32_sub (by rw [of_small (by omega)]; omega) (by rw [of_small (by omega)]; omega), of_small (by omega), of_small (by omega)]
    omega
  have k0 : (0 : Int32).toInt = 0 := rfl
  unfold wp_SB_append
  refine ⟨mc, ms, by omega, by omega, ?_⟩
  unfold wp_AB_append
  refine ⟨1, 142, by omega, by omega, ?_⟩
  unfold wp_AB_ensureCapacityInternal
  refine ⟨cap, f, hm, hf, fun hle0 => ?_, fun hgt => ?_⟩
  · rw [esh, Int32.le_iff_toInt_le, ed] at hle0
    unfold wq_AB_ensureCapacityInternal_38
    refine ⟨0, 0, by omega, by omega, ?_⟩
    unfold wp_AB_isLatin1 wq_AB_isLatin1_18
    refine ⟨by decide, fun _ => ⟨rfl, by decide, 0, 0, by omega, by omega, ?_⟩, fun hne => absurd h0 hne⟩
    unfold wp_La_canEncode wq_La_canEncode_12
    refine ⟨fun z => absurd z hv255, fun _ => ⟨rfl, by decide, cap, f, hm, hf, ?_, ?_⟩⟩
    · rw [h2]
      exact in_small (by rw [of_small (by omega)]; omega) (by rw [of_small (by omega)]; omega)
    · unfold wq_AB_append_75
      exact wa_put h0 h2 hm hf (by omega) hc hb hch hv kk
  · rw [esh, Int32.le_iff_toInt_le, ed] at hgt
    have en : n = cap := by omega
    subst en
    refine ⟨0, 0, by omega, by omega, ?_⟩
    unfold wp_AB_newCapacity
    refine ⟨n, f, hm, hf, 0, 0, by omega, by omega, ?_⟩
    unfold wp_As_newLength
    have eL : (Int32.ofNat n + (if ((S.1 2 + 1) <<< (S.1 0 &&& 31) - Int32.ofNat n : Int32) < Int32.ofNat n + 2 <<< (S.1 0 &&& 31) then Int32.ofNat n + 2 <<< (S.1 0 &&& 31) else (S.1 2 + 1) <<< (S.1 0 &&& 31) - Int32.ofNat n)) = Int32.ofNat (2 * n + 2) := by
      rw [h0, h2]
      rcases hc with rfl | rfl | rfl | rfl
      · decide
      · decide
      · decide
      · omega
    rw [eL]
    have e2n : (Int32.ofNat (2 * n + 2)).toInt = 2 * (n : Int) + 2 := by
      rw [of_small (by omega)]
      omega
    have kM : (2147483639 : Int32).toInt = 2147483639 := rfl
    have kN : (2147483647 : Int32).toInt = 2147483647 := rfl
    have eR : (Int32.ofNat (2 * n + 2) >>> (S.1 0 &&& 31)) <<< (S.1 0 &&& 31) = Int32.ofNat (2 * n + 2) := by
      rw [h0]
      rcases hc with rfl | rfl | rfl | rfl
      · decide
      · decide
      · decide
      · omega
    refine ⟨fun z => ?_, fun z => ?_, fun z => ?_, 1, 142, by omega, by omega, ?_⟩
    · rw [Int32.le_iff_toInt_le, e2n] at z
      omega
    · rw [Int32.lt_iff_toInt_lt, e2n] at z
      omega
    · have := congrArg Int32.toInt z
      rw [e2n] at this
      omega
    have e3 : Int32.toNatClampNeg (Int32.ofNat (2 * n + 2)) = 2 * n + 2 := Int32.toNatClampNeg_ofNat_of_lt (by omega)
    have e4 : (if (Int32.ofNat (2 * n + 2) : Int32) < Int32.ofNat n then Int32.ofNat (2 * n + 2) else Int32.ofNat n) = Int32.ofNat n := if_neg (fun z => by
      rw [Int32.lt_iff_toInt_lt, e2n, of_small (by omega)] at z
      omega)
    have e5 : Int32.toNatClampNeg (Int32.ofNat n) = n := Int32.toNatClampNeg_ofNat_of_lt (by omega)
    unfold wp_Ar_copyOf
    rw [eR, e3]
    refine ⟨n, f, hm, hf, fun z => ?_, fun z => ?_, by omega, by omega, by omega, fun q hq => ?_⟩
    · have := congrArg Int32.toInt z
      rw [e2n, of_small (by omega)] at this
      omega
    · rw [Int32.lt_iff_toInt_lt, e2n] at z
      omega
    have hne : S.2.2.1 0 ≠ q := fun e => hq (e ▸ hm)
    have f1 : (va_up S.2.2.2.2.2.2 q (.inl (g.2.1 3, 2 * n + 2, .inl (fun _ => 0)))) (S.2.2.1 0) = .inl (g.2.1 3, n, .inl f) := by
      rw [va_up_ne _ _ hne]
      exact hf
    have f2 : (va_up S.2.2.2.2.2.2 q (.inl (g.2.1 3, 2 * n + 2, .inl (fun _ => 0)))) q = .inl (g.2.1 3, 2 * n + 2, .inl (fun _ => 0)) := if_pos rfl
    refine ⟨n, f, List.mem_append_left _ hm, f1, n, f, 2 * n + 2, (fun _ => 0), List.mem_append_left _ hm, f1, List.mem_append_right _ (List.mem_singleton.mpr rfl), f2, ?_, ?_⟩
    · rw [e4]
      refine ⟨⟨by decide, by decide, fun z => ?_, ?_, ?_⟩, fun i _ => hb _⟩
      · rw [Int32.lt_iff_toInt_lt, of_small (by omega)] at z
        omega
      · rw [e5]
        show 0 + n ≤ n
        omega
      · rw [e5]
        show 0 + n ≤ 2 * n + 2
        omega
    · rw [e4, e5]
      refine ⟨q, rfl, ?_⟩
      unfold wq_AB_ensureCapacityInternal_38
      refine ⟨0, 0, by omega, by omega, ?_⟩
      unfold wp_AB_isLatin1 wq_AB_isLatin1_18
      refine ⟨by decide, fun _ => ⟨rfl, by decide, 0, 0, by omega, by omega, ?_⟩, fun hne => absurd h0 hne⟩
      unfold wp_La_canEncode wq_La_canEncode_12
      refine ⟨fun z => absurd z hv255, fun _ => ⟨rfl, by decide, 2 * n + 2, va_cpy f (fun _ => 0) 0 0 n, ?_, ?_, ?_, ?_⟩⟩
      · exact List.mem_append_right _ (List.mem_singleton.mpr rfl)
      · exact if_pos rfl
      · show vp_in (S.1 2) _
        rw [h2]
        exact in_small (by rw [of_small (by omega)]; omega) (by rw [of_small (by omega)]; omega)
      · unfold wq_AB_append_75
        have hE : ExB S (S.1, S.2.1, va_up S.2.2.1 0 q, S.2.2.2.1, S.2.2.2.2.1, S.2.2.2.2.2.1 ++ [q], va_up (va_up S.2.2.2.2.2.2 q (.inl (g.2.1 3, 2 * n + 2, .inl (fun _ => 0)))) q (.inl (g.2.1 3, 2 * n + 2, .inl (va_cpy f (fun _ => 0) 0 0 n)))) := ⟨fun _ _ => rfl, rfl, fun k hk => va_up_ne _ _ hk, rfl, rfl, fun a ha => List.mem_append_left _ ha, fun a ha _ => by
          have hna : a ≠ q := fun e => hq (e ▸ ha)
          show va_up (va_up _ q _) q _ a = _
          rw [va_up_ne _ _ hna, va_up_ne _ _ hna], Or.inr hq⟩
        refine wa_put (S := (S.1, S.2.1, va_up S.2.2.1 0 q, S.2.2.2.1, S.2.2.2.2.1, S.2.2.2.2.2.1 ++ [q], va_up (va_up S.2.2.2.2.2.2 q (.inl (g.2.1 3, 2 * n + 2, .inl (fun _ => 0)))) q (.inl (g.2.1 3, 2 * n + 2, .inl (va_cpy f (fun _ => 0) 0 0 n))))) h0 h2 (List.mem_append_right _ (List.mem_singleton.mpr rfl)) (if_pos rfl) (by omega) (by omega) (fun i => ?_) (fun i hi => ?_) hv (fun S1 hx ht => kk S1 (hE.trans hx) ht)
        · show fits .byte (.int (if 0 ≤ i ∧ i < 0 + n then f (0 + (i - 0)) else 0)) = true
          by_cases h : 0 ≤ i ∧ i < 0 + n
          · rw [if_pos h]
            exact hb _
          · rw [if_neg h]
            rfl
        · show (if 0 ≤ i ∧ i < 0 + n then f (0 + (i - 0)) else 0) = ch i
          rw [if_pos ⟨Nat.zero_le _, by omega⟩, Nat.zero_add, Nat.sub_zero]
          exact hch i hi
