/-! ints that are small numbers -/
theorem n_lt {a b : Nat} (ha : a < 2147483648) (hb : b < 2147483648) : (Int32.ofNat a < Int32.ofNat b) ↔ a < b := by
  rw [Int32.lt_iff_toInt_lt, Int32.toInt_ofNat_of_lt (by omega), Int32.toInt_ofNat_of_lt (by omega)]
  omega
theorem n_le {a b : Nat} (ha : a < 2147483648) (hb : b < 2147483648) : (Int32.ofNat a ≤ Int32.ofNat b) ↔ a ≤ b := by
  rw [Int32.le_iff_toInt_le, Int32.toInt_ofNat_of_lt (by omega), Int32.toInt_ofNat_of_lt (by omega)]
  omega
theorem n_eq {a b : Nat} (ha : a < 2147483648) (hb : b < 2147483648) : (Int32.ofNat a = Int32.ofNat b) ↔ a = b := by
  rw [← Int32.toInt_inj, Int32.toInt_ofNat_of_lt (by omega), Int32.toInt_ofNat_of_lt (by omega)]
  omega
theorem l_lt {a b : Nat} (ha : a < 2147483648) (hb : b < 2147483648) : (Int32.ofNat a < (OfNat.ofNat b : Int32)) ↔ a < (OfNat.ofNat b : Nat) := n_lt ha hb
theorem l_le {a b : Nat} (ha : a < 2147483648) (hb : b < 2147483648) : (Int32.ofNat a ≤ (OfNat.ofNat b : Int32)) ↔ a ≤ (OfNat.ofNat b : Nat) := n_le ha hb
theorem l_eq {a b : Nat} (ha : a < 2147483648) (hb : b < 2147483648) : (Int32.ofNat a = (OfNat.ofNat b : Int32)) ↔ a = (OfNat.ofNat b : Nat) := n_eq ha hb
theorem r_lt {a b : Nat} (ha : a < 2147483648) (hb : b < 2147483648) : ((OfNat.ofNat a : Int32) < Int32.ofNat b) ↔ (OfNat.ofNat a : Nat) < b := n_lt ha hb
theorem r_le {a b : Nat} (ha : a < 2147483648) (hb : b < 2147483648) : ((OfNat.ofNat a : Int32) ≤ Int32.ofNat b) ↔ (OfNat.ofNat a : Nat) ≤ b := n_le ha hb
theorem n_cl {a : Nat} (ha : a < 2147483648) : (Int32.ofNat a).toNatClampNeg = a := Int32.toNatClampNeg_ofNat_of_lt (by omega)
theorem n_sub {a b : Nat} (h : b ≤ a) : Int32.ofNat a - Int32.ofNat b = Int32.ofNat (a - b) := (Int32.ofNat_sub a b h).symm
theorem n_add (a b : Nat) : Int32.ofNat a + Int32.ofNat b = Int32.ofNat (a + b) := (Int32.ofNat_add a b).symm
theorem n_mul (a b : Nat) : Int32.ofNat a * Int32.ofNat b = Int32.ofNat (a * b) := (Int32.ofNat_mul a b).symm
theorem n_in {a n : Nat} (h : a < n) (hn : a < 2147483648) : vp_in (Int32.ofNat a) n := by
  intro q
  rcases q with q | q
  · have := (n_lt (a := a) (b := 0) hn (by omega)).mp q
    omega
  · rw [n_cl hn] at q
    omega
theorem upd_at (f : Nat → Int32) (k : Nat) (x : Int32) : upd f k x k = x := by simp [upd]
theorem upd_ne (f : Nat → Int32) {k j : Nat} (x : Int32) (h : j ≠ k) : upd f k x j = f j := by simp [upd, h]
/-! what both sides mean -/
abbrev Wd : Type := (List Int32) × (List (Nat × Int32)) × (Bool) × (Nat → Nat)
def Wd.nm (x : Wd) : List Int32 := x.1
def Wd.it (x : Wd) : List (Nat × Int32) := x.2.1
def Wd.im (x : Wd) : Bool := x.2.2.1
def Wd.nd (x : Wd) : Nat → Nat := x.2.2.2
def Wd.mk (nm0 : List Int32) (it0 : List (Nat × Int32)) (im0 : Bool) (nd0 : Nat → Nat) : Wd := (nm0, it0, im0, nd0)
abbrev Fr : Type := (Nat) × (Nat) × (List (Int32 × Int32))
def Fr.w (x : Fr) : Nat := x.1
def Fr.nx (x : Fr) : Nat := x.2.1
def Fr.lp (x : Fr) : List (Int32 × Int32) := x.2.2
def Fr.mk (w0 : Nat) (nx0 : Nat) (lp0 : List (Int32 × Int32)) : Fr := (w0, nx0, lp0)
abbrev Ab : Type := (List Int32) × (List Int32) × (Nat → Int32) × (Nat) × (Nat) × (Nat → Int32) × (Nat) × (Nat) × (Nat → Nat → Int32) × (Nat → Option Nat) × (Nat → Bool) × (Option Nat) × (List Wd) × (Option Wd) × (List (Nat × Nat)) × (List Fr) × (List Int32) × (Nat) × (Nat) × (Nat)
def Ab.ds (x : Ab) : List Int32 := x.1
def Ab.rs (x : Ab) : List Int32 := x.2.1
def Ab.mem (x : Ab) : Nat → Int32 := x.2.2.1
def Ab.here (x : Ab) : Nat := x.2.2.2.1
def Ab.pr (x : Ab) : Nat := x.2.2.2.2.1
def Ab.out (x : Ab) : Nat → Int32 := x.2.2.2.2.2.1
def Ab.fu (x : Ab) : Nat := x.2.2.2.2.2.2.1
def Ab.pb (x : Ab) : Nat := x.2.2.2.2.2.2.2.1
def Ab.blk (x : Ab) : Nat → Nat → Int32 := x.2.2.2.2.2.2.2.2.1
def Ab.has (x : Ab) : Nat → Option Nat := x.2.2.2.2.2.2.2.2.2.1
def Ab.up (x : Ab) : Nat → Bool := x.2.2.2.2.2.2.2.2.2.2.1
def Ab.told (x : Ab) : Option Nat := x.2.2.2.2.2.2.2.2.2.2.2.1
def Ab.ws (x : Ab) : List Wd := x.2.2.2.2.2.2.2.2.2.2.2.2.1
def Ab.dr (x : Ab) : Option Wd := x.2.2.2.2.2.2.2.2.2.2.2.2.2.1
def Ab.op (x : Ab) : List (Nat × Nat) := x.2.2.2.2.2.2.2.2.2.2.2.2.2.2.1
def Ab.cs (x : Ab) : List Fr := x.2.2.2.2.2.2.2.2.2.2.2.2.2.2.2.1
def Ab.tx (x : Ab) : List Int32 := x.2.2.2.2.2.2.2.2.2.2.2.2.2.2.2.2.1
def Ab.pos (x : Ab) : Nat := x.2.2.2.2.2.2.2.2.2.2.2.2.2.2.2.2.2.1
def Ab.tk (x : Ab) : Nat := x.2.2.2.2.2.2.2.2.2.2.2.2.2.2.2.2.2.2.1
def Ab.tl (x : Ab) : Nat := x.2.2.2.2.2.2.2.2.2.2.2.2.2.2.2.2.2.2.2
def Ab.mk (ds0 : List Int32) (rs0 : List Int32) (mem0 : Nat → Int32) (here0 : Nat) (pr0 : Nat) (out0 : Nat → Int32) (fu0 : Nat) (pb0 : Nat) (blk0 : Nat → Nat → Int32) (has0 : Nat → Option Nat) (up0 : Nat → Bool) (told0 : Option Nat) (ws0 : List Wd) (dr0 : Option Wd) (op0 : List (Nat × Nat)) (cs0 : List Fr) (tx0 : List Int32) (pos0 : Nat) (tk0 : Nat) (tl0 : Nat) : Ab := (ds0, rs0, mem0, here0, pr0, out0, fu0, pb0, blk0, has0, up0, told0, ws0, dr0, op0, cs0, tx0, pos0, tk0, tl0)
/-- a stack of numbers in an array, its top first in the list -/
def Stk (f : Nat → Int32) : List Int32 → Prop
  | [] => True
  | x :: l => f l.length = x ∧ Stk f l
theorem Stk.put {f : Nat → Int32} {k : Nat} {v : Int32} : ∀ {l : List Int32}, Stk f l → l.length ≤ k → Stk (upd f k v) l
  | [], _, _ => trivial
  | x :: l, h, hk => ⟨by
      have : l.length ≠ k := by simp at hk; omega
      rw [upd_ne _ _ this]; exact h.1, h.2.put (by simp at hk; omega)⟩
theorem Stk.get {f : Nat → Int32} : ∀ {l : List Int32} {i : Nat} {x : Int32}, Stk f l → l[i]? = some x → f (l.length - 1 - i) = x
  | [], i, x, _, h => by simp at h
  | y :: l, 0, x, hs, h => by
    simp at h
    have := hs.1
    simp
    rw [this, h]
  | y :: l, i + 1, x, hs, h => by
    simp at h
    have h1 := hs.2.get h
    have h2 : i < l.length := by
      rcases Nat.lt_or_ge i l.length with h' | h'
      · exact h'
      · simp [List.getElem?_eq_none h'] at h
    have : (y :: l).length - 1 - (i + 1) = l.length - 1 - i := by simp; omega
    rw [this]
    exact h1
theorem Stk.same {f f' : Nat → Int32} : ∀ {l : List Int32}, Stk f l → (∀ i, i < l.length → f' i = f i) → Stk f' l
  | [], _, _ => trivial
  | x :: l, h, e => ⟨(e _ (by simp)).trans h.1, h.2.same (fun i hi => e i (by simp; omega))⟩
