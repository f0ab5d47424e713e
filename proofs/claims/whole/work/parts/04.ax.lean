/-! ===== the abstract machine: ints as Int, objects by number; what follows is about numbers alone ===== -/
abbrev AV : Type := Int ⊕ (Int ⊕ Nat)
abbrev vi (x : Int) : AV := Sum.inl x
abbrev vl (x : Int) : AV := Sum.inr (Sum.inl x)
abbrev vr (x : Nat) : AV := Sum.inr (Sum.inr x)
def w32 (x : Int) : Int := (x + 2147483648) % 4294967296 - 2147483648
def w64 (x : Int) : Int := (x + 9223372036854775808) % 18446744073709551616 - 9223372036854775808
def w8 (x : Int) : Int := (x + 128) % 256 - 128
def w16 (x : Int) : Int := (x + 32768) % 65536 - 32768
def r32 (x : Int) : Prop := -2147483648 ≤ x ∧ x < 2147483648
def r64 (x : Int) : Prop := -9223372036854775808 ≤ x ∧ x < 9223372036854775808
theorem w32_r (x : Int) : r32 (w32 x) := by unfold r32 w32; omega
theorem w64_r (x : Int) : r64 (w64 x) := by unfold r64 w64; omega
theorem w32_id {x : Int} (h1 : -2147483648 ≤ x) (h2 : x < 2147483648) : w32 x = x := by unfold w32; omega
theorem w64_id {x : Int} (h1 : -9223372036854775808 ≤ x) (h2 : x < 9223372036854775808) : w64 x = x := by unfold w64; omega
theorem w8_r (x : Int) : r32 (w8 x) := by unfold r32 w8; omega
theorem w16_r (x : Int) : r32 (w16 x) := by unfold r32 w16; omega
theorem w32_bmod (x : Int) : x.bmod (2 ^ 32) = w32 x := by
  unfold Int.bmod w32
  have e : ((2 ^ 32 : Nat) : Int) = 4294967296 := rfl
  rw [e]
  dsimp only
  split <;> omega
theorem w64_bmod (x : Int) : x.bmod (2 ^ 64) = w64 x := by
  unfold Int.bmod w64
  have e : ((2 ^ 64 : Nat) : Int) = 18446744073709551616 := rfl
  rw [e]
  dsimp only
  split <;> omega
theorem i_to {x : Int} (h : r32 x) : (Int32.ofInt x).toInt = x := Int32.toInt_ofInt_of_le h.1 h.2
theorem l_to {x : Int} (h : r64 x) : (Int64.ofInt x).toInt = x := Int64.toInt_ofInt_of_le h.1 h.2
theorem i_tw (x : Int) : (Int32.ofInt x).toInt = w32 x := by rw [Int32.toInt_ofInt]; exact w32_bmod x
theorem l_tw (x : Int) : (Int64.ofInt x).toInt = w64 x := by rw [Int64.toInt_ofInt]; exact w64_bmod x
theorem i_of {x : Int} {c : Int32} (h : c.toInt = x) : Int32.ofInt x = c := by rw [← h]; exact Int32.ofInt_toInt c
theorem l_of {x : Int} {c : Int64} (h : c.toInt = x) : Int64.ofInt x = c := by rw [← h]; exact Int64.ofInt_toInt c
theorem i_r (c : Int32) : r32 c.toInt := ⟨Int32.le_toInt c, Int32.toInt_lt c⟩
theorem l_r (c : Int64) : r64 c.toInt := ⟨Int64.le_toInt c, Int64.toInt_lt c⟩
theorem i_add (x y : Int) : Int32.ofInt x + Int32.ofInt y = Int32.ofInt (w32 (x + y)) := by
  rw [← Int32.ofInt_add]; exact (i_of (i_tw (x + y))).symm
theorem i_sub (x y : Int) : Int32.ofInt x - Int32.ofInt y = Int32.ofInt (w32 (x - y)) := by
  rw [← Int32.ofInt_sub]; exact (i_of (i_tw (x - y))).symm
theorem i_mul (x y : Int) : Int32.ofInt x * Int32.ofInt y = Int32.ofInt (w32 (x * y)) := by
  rw [← Int32.ofInt_mul]; exact (i_of (i_tw (x * y))).symm
theorem i_neg (x : Int) : -Int32.ofInt x = Int32.ofInt (w32 (-x)) := by
  rw [← Int32.ofInt_neg]; exact (i_of (i_tw (-x))).symm
theorem i_div {x y : Int} (hx : r32 x) (hy : r32 y) : Int32.ofInt x / Int32.ofInt y = Int32.ofInt (w32 (x.tdiv y)) := by
  refine (i_of ?_).symm
  rw [Int32.toInt_div, i_to hx, i_to hy]; exact w32_bmod _
theorem l_add (x y : Int) : Int64.ofInt x + Int64.ofInt y = Int64.ofInt (w64 (x + y)) := by
  rw [← Int64.ofInt_add]; exact (l_of (l_tw (x + y))).symm
theorem l_mul (x y : Int) : Int64.ofInt x * Int64.ofInt y = Int64.ofInt (w64 (x * y)) := by
  rw [← Int64.ofInt_mul]; exact (l_of (l_tw (x * y))).symm
theorem l_div {x y : Int} (hx : r64 x) (hy : r64 y) : Int64.ofInt x / Int64.ofInt y = Int64.ofInt (w64 (x.tdiv y)) := by
  refine (l_of ?_).symm
  rw [Int64.toInt_div, l_to hx, l_to hy]; exact w64_bmod _
theorem i_eq {x y : Int} (hx : r32 x) (hy : r32 y) : Int32.ofInt x = Int32.ofInt y ↔ x = y :=
  ⟨fun h => by rw [← i_to hx, ← i_to hy, h], fun h => by rw [h]⟩
theorem i_lt {x y : Int} (hx : r32 x) (hy : r32 y) : Int32.ofInt x < Int32.ofInt y ↔ x < y := by
  rw [Int32.lt_iff_toInt_lt, i_to hx, i_to hy]
theorem i_le {x y : Int} (hx : r32 x) (hy : r32 y) : Int32.ofInt x ≤ Int32.ofInt y ↔ x ≤ y := by
  rw [Int32.le_iff_toInt_le, i_to hx, i_to hy]
theorem r32_0 : r32 0 := by unfold r32; omega
theorem i_0 : (0 : Int32) = Int32.ofInt 0 := by decide +kernel
theorem i_ne0 {y : Int} (hy : r32 y) (h : y ≠ 0) : ¬ Int32.ofInt y = 0 := by rw [i_0, i_eq hy r32_0]; exact h
theorem l_ne0 {y : Int} (hy : r64 y) (h : y ≠ 0) : ¬ Int64.ofInt y = 0 := fun e => h (by
  have h1 := l_to hy
  rw [e] at h1
  rw [← h1]; rfl)
theorem i_clamp {x : Int} (hx : r32 x) : (Int32.ofInt x).toNatClampNeg = x.toNat := by
  show (Int32.ofInt x).toInt.toNat = _
  rw [i_to hx]
theorem i_in {x : Int} {n : Nat} (hx : r32 x) (h0 : 0 ≤ x) (h1 : x < n) : vp_in (Int32.ofInt x) n := by
  rw [vp_in_iff, i_to hx]; exact ⟨h0, h1⟩
theorem tmod_r {x y : Int} (hx : r32 x) (hy : r32 y) (h : y ≠ 0) : r32 (x.tmod y) := by
  unfold r32 at *
  rcases Int.lt_or_gt_of_ne h with h0 | h0
  · have e : x.tmod y = x.tmod (-y) := by rw [Int.tmod_neg]
    rw [e]
    have := tmod_bounds (a := x) (M := -y) (by omega)
    omega
  · have := tmod_bounds (a := x) (M := y) h0
    omega
theorem i_rem {x y : Int} (hx : r32 x) (hy : r32 y) (h : y ≠ 0) : Int32.ofInt x - Int32.ofInt x / Int32.ofInt y * Int32.ofInt y = Int32.ofInt (x.tmod y) := by
  rw [i_div hx hy, i_mul, i_sub]
  refine (i_of ?_)
  rw [i_to (tmod_r hx hy h)]
  have e := Int.tmod_def x y
  have h1 := w32_id (tmod_r hx hy h).1 (tmod_r hx hy h).2
  rw [← h1, e]
  have key : ∀ a b : Int, w32 (x - w32 (w32 a * b)) = w32 (x - a * b) := by
    intro a b
    have q : Int32.ofInt (w32 (x - w32 (w32 a * b))) = Int32.ofInt (w32 (x - a * b)) := by
      rw [← i_sub, ← i_mul, ← i_sub, i_of (i_tw a), Int32.ofInt_mul]
    exact (i_eq (w32_r _) (w32_r _)).mp q
  rw [key, Int.mul_comm]
