def pk1 (x2 x4 : Int64) (x6 : Int32) : Int64 := if (lg_cmp ((x2 >>> (Int32.toInt64 x6 &&& 63)) &&& 127) 0) ≤ 0 then x4 else (x4 * 128) + ((x2 >>> (Int32.toInt64 x6 &&& 63)) &&& 127)
theorem pk_step {post : StM → Prop} {n : Nat} {S : StM} {x1 x6 : Int32} {x2 x4 : Int64} (hx : ¬ x6 < 0) (hw : wq_M_name_7 post n S x1 x2 (pk1 x2 x4 x6) (x6 - 8)) : wq_M_name_7 post (n + 1) S x1 x2 x4 x6 := by
  refine ⟨fun h => absurd h hx, fun _ => ⟨fun h => ?_, fun h => ?_⟩⟩
  · rw [show pk1 x2 x4 x6 = x4 from if_pos h] at hw
    exact hw
  · rw [show pk1 x2 x4 x6 = (x4 * 128) + ((x2 >>> (Int32.toInt64 x6 &&& 63)) &&& 127) from if_neg h] at hw
    exact hw
def pkw (a : Int64) : Int64 := pk1 a (pk1 a (pk1 a (pk1 a (pk1 a (pk1 a (pk1 a (pk1 a 0 56) 48) 40) 32) 24) 16) 8) 0
theorem wi_name {post : StM → Prop} {S : StM} {a0 : Int32} {a1 : Int64} (hin : vp_in a0 77) (kk : post (S.1, S.2.1, vp_updL S.2.2 (Int32.toNatClampNeg a0) (pkw a1))) : wp_M_name post S a0 a1 :=
  ⟨9, pk_step (by decide) (pk_step (by decide) (pk_step (by decide) (pk_step (by decide) (pk_step (by decide) (pk_step (by decide) (pk_step (by decide) (pk_step (by decide) ⟨fun _ => ⟨hin, kk⟩, fun h => absurd (by decide) h⟩)))))))⟩
def nmL : List Int64 := [43, 45, 42, 47, 1800164, 1603428, 14322, 1980402, 61, 60, 6205, 3806900812389, 1653488, 211597296, 243134704, 234730226, 1882100, 27057207912, 46, 64, 33, 5537, 219773285, 44, 26266515444, 8050, 14654, 14656, 105, 106, 213791988, 448353187756645, 39, 66858650416232037, 56224039237613428, 58, 7627891803373992549, 26534998507, 4050365479525, 27608840680, 59, 13542, 244986606, 213596645, 26520188142, 31639549164, 26255848686, 32163657317, 3944358703348, 12911, 228325360, 504874458200549]
def nm0 : Nat → Int64 := (vp_updL (vp_updL (vp_updL (vp_updL (vp_updL (vp_updL (vp_updL (vp_updL (vp_updL (vp_updL (vp_updL (vp_updL (vp_updL (vp_updL (vp_updL (vp_updL (vp_updL (vp_updL (vp_updL (vp_updL (vp_updL (vp_updL (vp_updL (vp_updL (vp_updL (vp_updL (vp_updL (vp_updL (vp_updL (vp_updL (vp_updL (vp_updL (vp_updL (vp_updL (vp_updL (vp_updL (vp_updL (vp_updL (vp_updL (vp_updL (vp_updL (vp_updL (vp_updL (vp_updL (vp_updL (vp_updL (vp_updL (vp_updL (vp_updL (vp_updL (vp_updL (vp_updL (fun _ => 0) 0 (pkw 43)) 1 (pkw 45)) 2 (pkw 42)) 3 (pkw 47)) 8 (pkw 61)) 9 (pkw 60)) 18 (pkw 46)) 19 (pkw 64)) 20 (pkw 33)) 23 (pkw 44)) 28 (pkw 105)) 29 (pkw 106)) 32 (pkw 39)) 35 (pkw 58)) 40 (pkw 59)) 4 (pkw 7171940)) 5 (pkw 6385252)) 6 (pkw 28530)) 7 (pkw 7892850)) 10 (pkw 12349)) 11 (pkw 121381805192293)) 12 (pkw 6583664)) 13 (pkw 1685221232)) 14 (pkw 1937203568)) 15 (pkw 1870030194)) 16 (pkw 7499636)) 17 (pkw 431198598248)) 21 (pkw 11041)) 22 (pkw 1751478885)) 24 (pkw 418430873460)) 25 (pkw 15986)) 26 (pkw 29246)) 27 (pkw 29248)) 30 (pkw 1702390132)) 31 (pkw 28561349503448165)) 33 (pkw 8530224966147402853)) 34 (pkw 7165066974322585204)) 37 (pkw 422726034283)) 38 (pkw 129125580895333)) 39 (pkw 439906300776)) 41 (pkw 26982)) 42 (pkw 1952998766)) 43 (pkw 1701606245)) 44 (pkw 422608071022)) 45 (pkw 504364296556)) 46 (pkw 418346264942)) 47 (pkw 512852847717)) 48 (pkw 125780002955636)) 49 (pkw 25711)) 50 (pkw 1819242352)) 51 (pkw 32199625191617381)) 36 (pkw 7596848428687647092))
def nm1 : Nat → Int64 := vp_updL nm0 36 (nm0 36 * 128 + 101)
set_option maxRecDepth 100000 in
theorem nm1_at : ∀ i, i < 77 → nm1 i = nmL.getD i 0 := by decide +kernel
def tA0 : Nat → Nat → Int32 := fun k => if k = 32 then (fun j => if j < 2 then -1 else 0) else (fun _ => 0)
def tI0 : Nat → Int32 := fun k => if k = 34 then -1 else 0
set_option maxRecDepth 100000 in
set_option maxHeartbeats 16000000 in
theorem wi_M {post : StM → Prop} (kk : post (tI0, tA0, nm1)) : wp_M_init post zM := by
  unfold wp_M_init
  refine ⟨by unfold vp_in; decide, by unfold vp_in; decide, wi_name (by unfold vp_in; decide) (wi_name (by unfold vp_in; decide) (wi_name (by unfold vp_in; decide) (wi_name (by unfold vp_in; decide) (wi_name (by unfold vp_in; decide) (wi_name (by unfold vp_in; decide) (wi_name (by unfold vp_in; decide) (wi_name (by unfold vp_in; decide) (wi_name (by unfold vp_in; decide) (wi_name (by unfold vp_in; decide) (wi_name (by unfold vp_in; decide) (wi_name (by unfold vp_in; decide) (wi_name (by unfold vp_in; decide) (wi_name (by unfold vp_in; decide) (wi_name (by unfold vp_in; decide) (wi_name (by unfold vp_in; decide) (wi_name (by unfold vp_in; decide) (wi_name (by unfold vp_in; decide) (wi_name (by unfold vp_in; decide) (wi_name (by unfold vp_in; decide) (wi_name (by unfold vp_in; decide) (wi_name (by unfold vp_in; decide) (wi_name (by unfold vp_in; decide) (wi_name (by unfold vp_in; decide) (wi_name (by unfold vp_in; decide) (wi_name (by unfold vp_in; decide) (wi_name (by unfold vp_in; decide) (wi_name (by unfold vp_in; decide) (wi_name (by unfold vp_in; decide) (wi_name (by unfold vp_in; decide) (wi_name (by unfold vp_in; decide) (wi_name (by unfold vp_in; decide) (wi_name (by unfold vp_in; decide) (wi_name (by unfold vp_in; decide) (wi_name (by unfold vp_in; decide) (wi_name (by unfold vp_in; decide) (wi_name (by unfold vp_in; decide) (wi_name (by unfold vp_in; decide) (wi_name (by unfold vp_in; decide) (wi_name (by unfold vp_in; decide) (wi_name (by unfold vp_in; decide) (wi_name (by unfold vp_in; decide) (wi_name (by unfold vp_in; decide) (wi_name (by unfold vp_in; decide) (wi_name (by unfold vp_in; decide) (wi_name (by unfold vp_in; decide) (wi_name (by unfold vp_in; decide) (wi_name (by unfold vp_in; decide) (wi_name (by unfold vp_in; decide) (wi_name (by unfold vp_in; decide) (wi_name (by unfold vp_in; decide) (wi_name (by unfold vp_in; decide) (⟨by unfold vp_in; decide, by unfold vp_in; decide, ?_⟩))))))))))))))))))))))))))))))))))))))))))))))))))))⟩
  have e1 : (upd (zM.1) 34 (-1)) = tI0 := by
    funext k
    by_cases h : k = 34 <;> simp [upd, tI0, zM, h]
  have e2 : (va_up (va_up zM.2.1 32 (upd (zM.2.1 32) (Int32.toNatClampNeg 0) (-1))) 32 (upd (upd (zM.2.1 32) (Int32.toNatClampNeg 0) (-1)) (Int32.toNatClampNeg 1) (-1))) = tA0 := by
    funext k j
    by_cases h : k = 32
    · subst h
      simp only [va_up, if_pos, upd, tA0, zM, cl_0, cl_1]
      by_cases h0 : j = 0
      · subst h0; rfl
      · by_cases h1 : j = 1
        · subst h1; rfl
        · simp [h0, h1, show ¬ j < 2 by omega]
    · simp [va_up, h, tA0, zM]
  show post (upd (zM.1) 34 (-1), (va_up (va_up zM.2.1 32 (upd (zM.2.1 32) (Int32.toNatClampNeg 0) (-1))) 32 (upd (upd (zM.2.1 32) (Int32.toNatClampNeg 0) (-1)) (Int32.toNatClampNeg 1) (-1))), nm1)
  rw [e1, e2]
  exact kk
