/-! ints that are small numbers -/
theorem n_lt {a b : Nat} (ha : a < 2147483648) (hb : b < 2147483648) : (Int32.ofNat a < Int32.ofNat b) ↔ a < b := by
  rw [Int32.lt_iff_toInt_lt, Int32.toInt_ofNat_of_lt (by omega), Int32.toInt_ofNat_of_lt (by omega)]
  omega
theorem n_le {a b : Nat} (ha : a < 2147483648) (hb : b < 2147483648) : (Int32.ofNat a ≤ Int32.ofNat b) ↔ a ≤ b := by
  rw [Int32.le_iff_toInt_le, Int32.toInt_ofNat_of_lt (by omega), Int32.toInt_ofNat_of_lt (by omega)]
  omega
theorem n_eq {a b : Nat} (ha : a < 2147483648) (hb : b < 2147483648) : (Int32.ofNat a = Int32.ofNat b) ↔ a = b := by
  rw [← Int32.toInt_inj, Int32.toInt_ofNat_of_lt (by omega), Int32.toInt_ofNat_of_lt (by omega)]
  omega
theorem l_lt {a b : Nat} (ha : a < 2147483648) (hb : b < 2147483648) : (Int32.ofNat a < (OfNat.ofNat b : Int32)) ↔ a < (OfNat.ofNat b : Nat) := n_lt ha hb
theorem l_le {a b : Nat} (ha : a < 2147483648) (hb : b < 2147483648) : (Int32.ofNat a ≤ (OfNat.ofNat b : Int32)) ↔ a ≤ (OfNat.ofNat b : Nat) := n_le ha hb
theorem l_eq {a b : Nat} (ha : a < 2147483648) (hb : b < 2147483648) : (Int32.ofNat a = (OfNat.ofNat b : Int32)) ↔ a = (OfNat.ofNat b : Nat) := n_eq ha hb
theorem r_lt {a b : Nat} (ha : a < 2147483648) (hb : b < 2147483648) : ((OfNat.ofNat a : Int32) < Int32.ofNat b) ↔ (OfNat.ofNat a : Nat) < b := n_lt ha hb
theorem r_le {a b : Nat} (ha : a < 2147483648) (hb : b < 2147483648) : ((OfNat.ofNat a : Int32) ≤ Int32.ofNat b) ↔ (OfNat.ofNat a : Nat) ≤ b := n_le ha hb
theorem n_cl {a : Nat} (ha : a < 2147483648) : (Int32.ofNat a).toNatClampNeg = a := Int32.toNatClampNeg_ofNat_of_lt (by omega)
theorem n_sub {a b : Nat} (h : b ≤ a) : Int32.ofNat a - Int32.ofNat b = Int32.ofNat (a - b) := (Int32.ofNat_sub a b h).symm
theorem n_add (a b : Nat) : Int32.ofNat a + Int32.ofNat b = Int32.ofNat (a + b) := (Int32.ofNat_add a b).symm
theorem n_mul (a b : Nat) : Int32.ofNat a * Int32.ofNat b = Int32.ofNat (a * b) := (Int32.ofNat_mul a b).symm
theorem n_in {a n : Nat} (h : a < n) (hn : a < 2147483648) : vp_in (Int32.ofNat a) n := by
  intro q
  rcases q with q | q
  · have := (n_lt (a := a) (b := 0) hn (by omega)).mp q
    omega
  · rw [n_cl hn] at q
    omega
theorem upd_at (f : Nat → Int32) (k : Nat) (x : Int32) : upd f k x k = x := by simp [upd]
theorem upd_ne (f : Nat → Int32) {k j : Nat} (x : Int32) (h : j ≠ k) : upd f k x j = f j := by simp [upd, h]
/-! what both sides mean -/
abbrev Wd : Type := (List Int32) × (List (Nat × Int32)) × (Bool) × (Nat → Nat)
def Wd.nm (x : Wd) : List Int32 := x.1
def Wd.it (x : Wd) : List (Nat × Int32) := x.2.1
def Wd.im (x : Wd) : Bool := x.2.2.1
def Wd.nd (x : Wd) : Nat → Nat := x.2.2.2
def Wd.set_nm (x : Wd) (v : List Int32) : Wd := (v, x.2)
def Wd.set_it (x : Wd) (v : List (Nat × Int32)) : Wd := (x.1, v, x.2.2)
def Wd.set_im (x : Wd) (v : Bool) : Wd := (x.1, x.2.1, v, x.2.2.2)
def Wd.set_nd (x : Wd) (v : Nat → Nat) : Wd := (x.1, x.2.1, x.2.2.1, v)
def Wd.mk (nm0 : List Int32) (it0 : List (Nat × Int32)) (im0 : Bool) (nd0 : Nat → Nat) : Wd := (nm0, it0, im0, nd0)
abbrev Fr : Type := (Nat) × (Nat) × (List (Int32 × Int32))
def Fr.w (x : Fr) : Nat := x.1
def Fr.nx (x : Fr) : Nat := x.2.1
def Fr.lp (x : Fr) : List (Int32 × Int32) := x.2.2
def Fr.set_w (x : Fr) (v : Nat) : Fr := (v, x.2)
def Fr.set_nx (x : Fr) (v : Nat) : Fr := (x.1, v, x.2.2)
def Fr.set_lp (x : Fr) (v : List (Int32 × Int32)) : Fr := (x.1, x.2.1, v)
def Fr.mk (w0 : Nat) (nx0 : Nat) (lp0 : List (Int32 × Int32)) : Fr := (w0, nx0, lp0)
def AbT (i : Nat) : Type := match i with
  | 0 => List Int32
  | 1 => List Int32
  | 2 => Nat → Int32
  | 3 => Nat
  | 4 => Nat
  | 5 => Nat → Int32
  | 6 => Nat
  | 7 => Nat
  | 8 => Nat → Nat → Int32
  | 9 => Nat → Option Nat
  | 10 => Nat → Bool
  | 11 => Option Nat
  | 12 => List Wd
  | 13 => Option Wd
  | 14 => List (Nat × Nat)
  | 15 => List Fr
  | 16 => List Int32
  | 17 => Nat
  | 18 => Nat
  | 19 => Nat
  | 20 => List Int32
  | _ => Unit
abbrev Ab : Type := (i : Nat) → AbT i
def Ab.ds (x : Ab) : List Int32 := x 0
def Ab.rs (x : Ab) : List Int32 := x 1
def Ab.mem (x : Ab) : Nat → Int32 := x 2
def Ab.here (x : Ab) : Nat := x 3
def Ab.pr (x : Ab) : Nat := x 4
def Ab.out (x : Ab) : Nat → Int32 := x 5
def Ab.fu (x : Ab) : Nat := x 6
def Ab.pb (x : Ab) : Nat := x 7
def Ab.blk (x : Ab) : Nat → Nat → Int32 := x 8
def Ab.has (x : Ab) : Nat → Option Nat := x 9
def Ab.up (x : Ab) : Nat → Bool := x 10
def Ab.told (x : Ab) : Option Nat := x 11
def Ab.ws (x : Ab) : List Wd := x 12
def Ab.dr (x : Ab) : Option Wd := x 13
def Ab.op (x : Ab) : List (Nat × Nat) := x 14
def Ab.cs (x : Ab) : List Fr := x 15
def Ab.tx (x : Ab) : List Int32 := x 16
def Ab.pos (x : Ab) : Nat := x 17
def Ab.tk (x : Ab) : Nat := x 18
def Ab.tl (x : Ab) : Nat := x 19
def Ab.bt (x : Ab) : List Int32 := x 20
def Ab.set_ds (x : Ab) (v : List Int32) : Ab := fun i => match i with
  | 0 => v
  | n + 1 => x (n + 1)
def Ab.set_rs (x : Ab) (v : List Int32) : Ab := fun i => match i with
  | 0 => x 0
  | 1 => v
  | n + 2 => x (n + 2)
def Ab.set_mem (x : Ab) (v : Nat → Int32) : Ab := fun i => match i with
  | 0 => x 0
  | 1 => x 1
  | 2 => v
  | n + 3 => x (n + 3)
def Ab.set_here (x : Ab) (v : Nat) : Ab := fun i => match i with
  | 0 => x 0
  | 1 => x 1
  | 2 => x 2
  | 3 => v
  | n + 4 => x (n + 4)
def Ab.set_pr (x : Ab) (v : Nat) : Ab := fun i => match i with
  | 0 => x 0
  | 1 => x 1
  | 2 => x 2
  | 3 => x 3
  | 4 => v
  | n + 5 => x (n + 5)
def Ab.set_out (x : Ab) (v : Nat → Int32) : Ab := fun i => match i with
  | 0 => x 0
  | 1 => x 1
  | 2 => x 2
  | 3 => x 3
  | 4 => x 4
  | 5 => v
  | n + 6 => x (n + 6)
def Ab.set_fu (x : Ab) (v : Nat) : Ab := fun i => match i with
  | 0 => x 0
  | 1 => x 1
  | 2 => x 2
  | 3 => x 3
  | 4 => x 4
  | 5 => x 5
  | 6 => v
  | n + 7 => x (n + 7)
def Ab.set_pb (x : Ab) (v : Nat) : Ab := fun i => match i with
  | 0 => x 0
  | 1 => x 1
  | 2 => x 2
  | 3 => x 3
  | 4 => x 4
  | 5 => x 5
  | 6 => x 6
  | 7 => v
  | n + 8 => x (n + 8)
def Ab.set_blk (x : Ab) (v : Nat → Nat → Int32) : Ab := fun i => match i with
  | 0 => x 0
  | 1 => x 1
  | 2 => x 2
  | 3 => x 3
  | 4 => x 4
  | 5 => x 5
  | 6 => x 6
  | 7 => x 7
  | 8 => v
  | n + 9 => x (n + 9)
def Ab.set_has (x : Ab) (v : Nat → Option Nat) : Ab := fun i => match i with
  | 0 => x 0
  | 1 => x 1
  | 2 => x 2
  | 3 => x 3
  | 4 => x 4
  | 5 => x 5
  | 6 => x 6
  | 7 => x 7
  | 8 => x 8
  | 9 => v
  | n + 10 => x (n + 10)
def Ab.set_up (x : Ab) (v : Nat → Bool) : Ab := fun i => match i with
  | 0 => x 0
  | 1 => x 1
  | 2 => x 2
  | 3 => x 3
  | 4 => x 4
  | 5 => x 5
  | 6 => x 6
  | 7 => x 7
  | 8 => x 8
  | 9 => x 9
  | 10 => v
  | n + 11 => x (n + 11)
def Ab.set_told (x : Ab) (v : Option Nat) : Ab := fun i => match i with
  | 0 => x 0
  | 1 => x 1
  | 2 => x 2
  | 3 => x 3
  | 4 => x 4
  | 5 => x 5
  | 6 => x 6
  | 7 => x 7
  | 8 => x 8
  | 9 => x 9
  | 10 => x 10
  | 11 => v
  | n + 12 => x (n + 12)
def Ab.set_ws (x : Ab) (v : List Wd) : Ab := fun i => match i with
  | 0 => x 0
  | 1 => x 1
  | 2 => x 2
  | 3 => x 3
  | 4 => x 4
  | 5 => x 5
  | 6 => x 6
  | 7 => x 7
  | 8 => x 8
  | 9 => x 9
  | 10 => x 10
  | 11 => x 11
  | 12 => v
  | n + 13 => x (n + 13)
def Ab.set_dr (x : Ab) (v : Option Wd) : Ab := fun i => match i with
  | 0 => x 0
  | 1 => x 1
  | 2 => x 2
  | 3 => x 3
  | 4 => x 4
  | 5 => x 5
  | 6 => x 6
  | 7 => x 7
  | 8 => x 8
  | 9 => x 9
  | 10 => x 10
  | 11 => x 11
  | 12 => x 12
  | 13 => v
  | n + 14 => x (n + 14)
def Ab.set_op (x : Ab) (v : List (Nat × Nat)) : Ab := fun i => match i with
  | 0 => x 0
  | 1 => x 1
  | 2 => x 2
  | 3 => x 3
  | 4 => x 4
  | 5 => x 5
  | 6 => x 6
  | 7 => x 7
  | 8 => x 8
  | 9 => x 9
  | 10 => x 10
  | 11 => x 11
  | 12 => x 12
  | 13 => x 13
  | 14 => v
  | n + 15 => x (n + 15)
def Ab.set_cs (x : Ab) (v : List Fr) : Ab := fun i => match i with
  | 0 => x 0
  | 1 => x 1
  | 2 => x 2
  | 3 => x 3
  | 4 => x 4
  | 5 => x 5
  | 6 => x 6
  | 7 => x 7
  | 8 => x 8
  | 9 => x 9
  | 10 => x 10
  | 11 => x 11
  | 12 => x 12
  | 13 => x 13
  | 14 => x 14
  | 15 => v
  | n + 16 => x (n + 16)
def Ab.set_tx (x : Ab) (v : List Int32) : Ab := fun i => match i with
  | 0 => x 0
  | 1 => x 1
  | 2 => x 2
  | 3 => x 3
  | 4 => x 4
  | 5 => x 5
  | 6 => x 6
  | 7 => x 7
  | 8 => x 8
  | 9 => x 9
  | 10 => x 10
  | 11 => x 11
  | 12 => x 12
  | 13 => x 13
  | 14 => x 14
  | 15 => x 15
  | 16 => v
  | n + 17 => x (n + 17)
def Ab.set_pos (x : Ab) (v : Nat) : Ab := fun i => match i with
  | 0 => x 0
  | 1 => x 1
  | 2 => x 2
  | 3 => x 3
  | 4 => x 4
  | 5 => x 5
  | 6 => x 6
  | 7 => x 7
  | 8 => x 8
  | 9 => x 9
  | 10 => x 10
  | 11 => x 11
  | 12 => x 12
  | 13 => x 13
  | 14 => x 14
  | 15 => x 15
  | 16 => x 16
  | 17 => v
  | n + 18 => x (n + 18)
def Ab.set_tk (x : Ab) (v : Nat) : Ab := fun i => match i with
  | 0 => x 0
  | 1 => x 1
  | 2 => x 2
  | 3 => x 3
  | 4 => x 4
  | 5 => x 5
  | 6 => x 6
  | 7 => x 7
  | 8 => x 8
  | 9 => x 9
  | 10 => x 10
  | 11 => x 11
  | 12 => x 12
  | 13 => x 13
  | 14 => x 14
  | 15 => x 15
  | 16 => x 16
  | 17 => x 17
  | 18 => v
  | n + 19 => x (n + 19)
def Ab.set_tl (x : Ab) (v : Nat) : Ab := fun i => match i with
  | 0 => x 0
  | 1 => x 1
  | 2 => x 2
  | 3 => x 3
  | 4 => x 4
  | 5 => x 5
  | 6 => x 6
  | 7 => x 7
  | 8 => x 8
  | 9 => x 9
  | 10 => x 10
  | 11 => x 11
  | 12 => x 12
  | 13 => x 13
  | 14 => x 14
  | 15 => x 15
  | 16 => x 16
  | 17 => x 17
  | 18 => x 18
  | 19 => v
  | n + 20 => x (n + 20)
def Ab.set_bt (x : Ab) (v : List Int32) : Ab := fun i => match i with
  | 0 => x 0
  | 1 => x 1
  | 2 => x 2
  | 3 => x 3
  | 4 => x 4
  | 5 => x 5
  | 6 => x 6
  | 7 => x 7
  | 8 => x 8
  | 9 => x 9
  | 10 => x 10
  | 11 => x 11
  | 12 => x 12
  | 13 => x 13
  | 14 => x 14
  | 15 => x 15
  | 16 => x 16
  | 17 => x 17
  | 18 => x 18
  | 19 => x 19
  | 20 => v
  | n + 21 => x (n + 21)
def Ab.mk (ds0 : List Int32) (rs0 : List Int32) (mem0 : Nat → Int32) (here0 : Nat) (pr0 : Nat) (out0 : Nat → Int32) (fu0 : Nat) (pb0 : Nat) (blk0 : Nat → Nat → Int32) (has0 : Nat → Option Nat) (up0 : Nat → Bool) (told0 : Option Nat) (ws0 : List Wd) (dr0 : Option Wd) (op0 : List (Nat × Nat)) (cs0 : List Fr) (tx0 : List Int32) (pos0 : Nat) (tk0 : Nat) (tl0 : Nat) (bt0 : List Int32) : Ab := fun i => match i with
  | 0 => ds0
  | 1 => rs0
  | 2 => mem0
  | 3 => here0
  | 4 => pr0
  | 5 => out0
  | 6 => fu0
  | 7 => pb0
  | 8 => blk0
  | 9 => has0
  | 10 => up0
  | 11 => told0
  | 12 => ws0
  | 13 => dr0
  | 14 => op0
  | 15 => cs0
  | 16 => tx0
  | 17 => pos0
  | 18 => tk0
  | 19 => tl0
  | 20 => bt0
  | n + 21 => ()
/-- a stack of numbers in an array, its top first in the list -/
def Stk (f : Nat → Int32) : List Int32 → Prop
  | [] => True
  | x :: l => f l.length = x ∧ Stk f l
theorem Stk.put {f : Nat → Int32} {k : Nat} {v : Int32} : ∀ {l : List Int32}, Stk f l → l.length ≤ k → Stk (upd f k v) l
  | [], _, _ => trivial
  | x :: l, h, hk => ⟨by
      have : l.length ≠ k := by simp at hk; omega
      rw [upd_ne _ _ this]; exact h.1, h.2.put (by simp at hk; omega)⟩
theorem Stk.get {f : Nat → Int32} : ∀ {l : List Int32} {i : Nat} {x : Int32}, Stk f l → l[i]? = some x → f (l.length - 1 - i) = x
  | [], i, x, _, h => by simp at h
  | y :: l, 0, x, hs, h => by
    simp at h
    have := hs.1
    simp
    rw [this, h]
  | y :: l, i + 1, x, hs, h => by
    simp at h
    have h1 := hs.2.get h
    have h2 : i < l.length := by
      rcases Nat.lt_or_ge i l.length with h' | h'
      · exact h'
      · simp [List.getElem?_eq_none h'] at h
    have : (y :: l).length - 1 - (i + 1) = l.length - 1 - i := by simp; omega
    rw [this]
    exact h1
theorem Stk.same {f f' : Nat → Int32} : ∀ {l : List Int32}, Stk f l → (∀ i, i < l.length → f' i = f i) → Stk f' l
  | [], _, _ => trivial
  | x :: l, h, e => ⟨(e _ (by simp)).trans h.1, h.2.same (fun i hi => e i (by simp; omega))⟩
