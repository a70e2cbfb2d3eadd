theorem ask {F : (Int32 → StM → Prop) → Prop} (d : Dt2 evI F F) {P : Int32 → StM → Prop} (hp : F P) {S : StC} {T : StM} {post : Int32 → StC → Prop} (hP : ∀ r T1, P r T1 → T1 = T → post r S) : F (fun r T1 => T1 = T → post r S) := by
  obtain ⟨x, hx, hf⟩ := d.one _ hp
  exact hf _ (fun e => hP _ _ hx e)
theorem ask2 {k : Nat} {g : Gm} {S : StC} {T : StM} {post : Int32 → StC → Prop} (hs : Sim k g S T) : ∀ (r : Int32) (T1 : StM), (∀ S1 : StC, Sim (k + 1) g S1 T1 → post r S1) → T1 = T → post r S := fun r T1 h e => h S (by rw [e]; exact sim_succ _ _ _ _ hs)
theorem Stk.same2 {f f' : Nat → Int32} : ∀ {l : List Int32} {i : Nat}, Stk f l → Stk f' l → i < l.length → f i = f' i
  | [], i, _, _, hi => absurd hi (Nat.not_lt_zero _)
  | x :: l, i, h, h', hi => by
    by_cases e : i = l.length
    · rw [e, h.1, h'.1]
    · exact Stk.same2 h.2 h'.2 (by simp at hi; omega)
theorem back_count : Back_count Sim := by
  intro k g S T hk hs a0
  refine ⟨tt_count, fun post hp => ?_⟩
  have hp := ask dt_wp_M_count hp (ask2 hs)
  obtain ⟨A, ρ, p, t, tx', hpr, hcs, hC, hM, hR⟩ := hs
  refine bk_count (T := T) (hR.kDs.trans hM.dsE.symm) (hR.kRs.trans hM.rsE.symm) (hR.kPr.trans hM.prE.symm) (hR.kMade.trans hM.madeE.symm) (hR.kHere.trans hM.hereE.symm) ?_ (hR.kFu.trans hM.fuE.symm) hp
  have e : T.1 21 = bE A.dr.isSome := hM.drE
  cases hd : A.dr with
  | none =>
    rw [hd] at e
    exact ⟨fun _ => e, fun _ => hR.kDr0 hd⟩
  | some w =>
    rw [hd] at e
    obtain ⟨-, a, ea, -⟩ := hR.kDr w hd
    rw [ea, e]
    exact ⟨fun z => (by cases z), fun z => absurd z (show (1 : Int32) ≠ 0 by decide)⟩
theorem back_cell : Back_cell Sim := by
  intro k g S T hk hs a0
  refine ⟨tt_cell, fun post hp => ?_⟩
  have hp := ask dt_wp_M_cell hp (ask2 hs)
  obtain ⟨A, ρ, p, t, tx', hpr, hcs, hC, hM, hR⟩ := hs
  exact bk_cell (T := T) (fun i hi => (hR.kMem i hi).trans (hM.memE i hi).symm) hp
theorem back_out : Back_out Sim := by
  intro k g S T hk hs a0
  refine ⟨tt_out, fun post hp => ?_⟩
  have hp := ask dt_wp_M_out hp (ask2 hs)
  obtain ⟨A, ρ, p, t, tx', hpr, hcs, hC, hM, hR⟩ := hs
  refine bk_out (T := T) (hR.kPr.trans hM.prE.symm) (fun i hi hj => ?_) hp
  have e : T.1 11 = Int32.ofNat A.pr := hM.prE
  rw [e, Int32.toInt_ofNat_of_lt (by omega)] at hj
  have hj : i < A.pr := by omega
  exact (hR.kOut i hi hj).trans (hM.outE i hi hj).symm
theorem back_stack : Back_stack Sim := by
  intro k g S T hk hs a0
  have hs0 := hs
  obtain ⟨A, ρ, p, t, tx', hpr, hcs, hC, hM, hR⟩ := hs
  have e : T.1 6 = Int32.ofNat A.ds.length := hM.dsE
  have hb := hM.dsB
  have e2 : (T.1 6).toInt = (A.ds.length : Int) := by
    rw [e]
    exact of_small (by omega)
  refine ⟨tt_stack ⟨by omega, by omega⟩, fun post hp => ?_⟩
  have hp := ask dt_wp_M_stack hp (ask2 hs0)
  exact bk_stack (T := T) (hR.kDs.trans hM.dsE.symm) ⟨by omega, by omega⟩ (fun i hi => Stk.same2 hR.kDsS hM.dsS (show i < A.ds.length by omega)) hp
theorem back_disk : Back_disk Sim := by
  intro k g S T hk hs a0 a1
  refine ⟨tt_disk, fun post hp => ?_⟩
  have hp := ask dt_wp_M_disk hp (ask2 hs)
  obtain ⟨A, ρ, p, t, tx', hpr, hcs, hC, hM, hR⟩ := hs
  refine bk_disk (T := T) (fun i hi => ?_) hp
  obtain ⟨a, f, e, q, hf⟩ := hR.kRows i hi
  exact ⟨a, f, e, q.1, q.2.2, fun j hj => (hf j hj).trans (hM.blkE i j hi hj).symm⟩
theorem back_items : Back_items Sim := by
  intro k g S T hk hs a0
  have hs0 := hs
  obtain ⟨A, ρ, p, t, tx', hpr, hcs, hC, hM, hR⟩ := hs
  have e : T.1 20 = Int32.ofNat A.ws.length := hM.madeE
  have hb := hM.madeB
  have e2 : (T.1 20).toInt = (A.ws.length : Int) := by
    rw [e]
    exact of_small (by omega)
  refine ⟨tt_items ⟨by omega, by omega⟩, fun post hp => ?_⟩
  have hp := ask dt_wp_M_items hp (ask2 hs0)
  refine bk_items (T := T) (hR.kMade.trans hM.madeE.symm) ⟨by omega, by omega⟩ (fun i hi => ?_) hp
  have hi : i < A.ws.length := by omega
  have hw := List.getElem?_eq_getElem hi
  obtain ⟨a, ea, s, x, y, fk, fv, q, -⟩ := hR.kWs i _ hw
  have hm := hM.wsE i _ hw
  have en : T.2.1 17 i = Int32.ofNat A.ws[i].it.length := hm.many
  refine ⟨a, _, ea, q.1, q.2.2, ?_⟩
  rw [en]
  rfl
theorem back_buffer : Back_buffer Sim := by
  intro k g S T hk hs a0
  refine ⟨tt_buffer, fun post hp => ?_⟩
  have hp := ask dt_wp_M_buffer hp (ask2 hs)
  obtain ⟨A, ρ, p, t, tx', hpr, hcs, hC, hM, hR⟩ := hs
  refine bk_buffer (T := T) (fun i hi => (hR.kHas i hi).trans (hM.hasE i hi).symm) (fun i hi => (hR.kUp i hi).trans (hM.upE i hi).symm) (fun i hi => ?_) hp
  have e : T.2.1 32 i = oE (A.has i) := hM.hasE i hi
  rw [e]
  cases hh : A.has i with
  | none => exact ⟨fun _ => rfl, fun _ => (by decide)⟩
  | some n =>
    have hn := hM.hasB i n hi hh
    have key : ∀ m : Nat, m < 4 → ((oE (some m) < 0) ↔ oE (some m) = -1) := by decide
    exact key n hn
