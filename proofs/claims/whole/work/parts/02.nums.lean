/-! whole numbers for ints and longs: within their range -/
def zk_I (x : Int) : Int32 := Int32.ofInt x
def zk_J (x : Int) : Int64 := Int64.ofInt x
def zk_rI (x : Int) : Prop := -2147483648 ≤ x ∧ x ≤ 2147483647
def zk_rJ (x : Int) : Prop := -9223372036854775808 ≤ x ∧ x ≤ 9223372036854775807
theorem zk_bm {x : Int} (h : zk_rI x) : x.bmod 4294967296 = x := Int.bmod_eq_of_le (by have := h.1; omega) (by have := h.2; omega)
theorem zk_bmJ {x : Int} (h : zk_rJ x) : x.bmod 18446744073709551616 = x := Int.bmod_eq_of_le (by have := h.1; omega) (by have := h.2; omega)
theorem zk_I_toInt {x : Int} (h : zk_rI x) : (zk_I x).toInt = x := by
  unfold zk_I
  rw [Int32.toInt_ofInt]
  exact zk_bm h
theorem zk_J_toInt {x : Int} (h : zk_rJ x) : (zk_J x).toInt = x := by
  unfold zk_J
  rw [Int64.toInt_ofInt]
  exact zk_bmJ h
theorem zk_rI_of (x : Int32) : zk_rI x.toInt := by
  have h1 := Int32.le_toInt x
  have h2 := Int32.toInt_lt x
  unfold zk_rI
  omega
theorem zk_rJ_of (x : Int64) : zk_rJ x.toInt := by
  have h1 := Int64.le_toInt x
  have h2 := Int64.toInt_lt x
  unfold zk_rJ
  omega
theorem zk_I_of (x : Int32) : zk_I x.toInt = x := Int32.ofInt_toInt x
theorem zk_J_of (x : Int64) : zk_J x.toInt = x := Int64.ofInt_toInt x
theorem zk_I_eq {x : Int} {y : Int32} (h : y.toInt = x) : y = zk_I x := by rw [← h, zk_I_of]
theorem zk_J_eq {x : Int} {y : Int64} (h : y.toInt = x) : y = zk_J x := by rw [← h, zk_J_of]
theorem zk_I_add (x y : Int) : zk_I x + zk_I y = zk_I (x + y) := (Int32.ofInt_add x y).symm
theorem zk_I_sub (x y : Int) : zk_I x - zk_I y = zk_I (x - y) := (Int32.ofInt_sub x y).symm
theorem zk_I_mul (x y : Int) : zk_I x * zk_I y = zk_I (x * y) := (Int32.ofInt_mul x y).symm
theorem zk_I_neg (x : Int) : - zk_I x = zk_I (-x) := (Int32.ofInt_neg x).symm
theorem zk_J_add (x y : Int) : zk_J x + zk_J y = zk_J (x + y) := (Int64.ofInt_add x y).symm
theorem zk_J_sub (x y : Int) : zk_J x - zk_J y = zk_J (x - y) := (Int64.ofInt_sub x y).symm
theorem zk_J_mul (x y : Int) : zk_J x * zk_J y = zk_J (x * y) := (Int64.ofInt_mul x y).symm
theorem zk_J_neg (x : Int) : - zk_J x = zk_J (-x) := (Int64.ofInt_neg x).symm
theorem zk_I_lt {x y : Int} (hx : zk_rI x) (hy : zk_rI y) : zk_I x < zk_I y ↔ x < y := by
  rw [Int32.lt_iff_toInt_lt, zk_I_toInt hx, zk_I_toInt hy]
theorem zk_I_le {x y : Int} (hx : zk_rI x) (hy : zk_rI y) : zk_I x ≤ zk_I y ↔ x ≤ y := by
  rw [Int32.le_iff_toInt_le, zk_I_toInt hx, zk_I_toInt hy]
theorem zk_I_inj {x y : Int} (hx : zk_rI x) (hy : zk_rI y) : zk_I x = zk_I y ↔ x = y := by
  rw [← Int32.toInt_inj, zk_I_toInt hx, zk_I_toInt hy]
theorem zk_J_lt {x y : Int} (hx : zk_rJ x) (hy : zk_rJ y) : zk_J x < zk_J y ↔ x < y := by
  rw [Int64.lt_iff_toInt_lt, zk_J_toInt hx, zk_J_toInt hy]
theorem zk_J_inj {x y : Int} (hx : zk_rJ x) (hy : zk_rJ y) : zk_J x = zk_J y ↔ x = y := by
  rw [← Int64.toInt_inj, zk_J_toInt hx, zk_J_toInt hy]
theorem zk_I_0 : zk_I 0 = 0 := rfl
theorem zk_J_0 : zk_J 0 = 0 := rfl
theorem zk_r0 : zk_rI 0 := by unfold zk_rI; omega
theorem zk_rJ0 : zk_rJ 0 := by unfold zk_rJ; omega
theorem zk_rIJ {x : Int} (h : zk_rI x) : zk_rJ x := by unfold zk_rI at h; unfold zk_rJ; omega
theorem zk_I_div {x y : Int} (hx : zk_rI x) (hy : zk_rI y) (hq : zk_rI (x.tdiv y)) : zk_I x / zk_I y = zk_I (x.tdiv y) := by
  apply zk_I_eq
  rw [Int32.toInt_div, zk_I_toInt hx, zk_I_toInt hy]
  exact zk_bm hq
theorem zk_J_div {x y : Int} (hx : zk_rJ x) (hy : zk_rJ y) (hq : zk_rJ (x.tdiv y)) : zk_J x / zk_J y = zk_J (x.tdiv y) := by
  apply zk_J_eq
  rw [Int64.toInt_div, zk_J_toInt hx, zk_J_toInt hy]
  exact zk_bmJ hq
theorem zk_I_rem {x y : Int} (hx : zk_rI x) (hy : zk_rI y) (hq : zk_rI (x.tdiv y)) : zk_I x - zk_I x / zk_I y * zk_I y = zk_I (x.tmod y) := by
  rw [zk_I_div hx hy hq, zk_I_mul, zk_I_sub, Int.tmod_def, Int.mul_comm y]
theorem zk_ilong {x : Int} (hx : zk_rI x) : (zk_I x).toInt64 = zk_J x := by
  apply zk_J_eq
  rw [Int32.toInt_toInt64, zk_I_toInt hx]
theorem zk_lint {x : Int} (hx : zk_rI x) : (zk_J x).toInt32 = zk_I x := by
  apply zk_I_eq
  rw [Int64.toInt_toInt32, zk_J_toInt (zk_rIJ hx)]
  exact zk_bm hx
theorem zk_clamp {i : Int} (h0 : 0 ≤ i) (h : zk_rI i) : (zk_I i).toNatClampNeg = i.toNat := by
  show (zk_I i).toInt.toNat = i.toNat
  rw [zk_I_toInt h]
/-! the bits, by the machine's own words -/
def zk_and (x y : Int) : Int := (zk_I x &&& zk_I y).toInt
def zk_or (x y : Int) : Int := (zk_I x ||| zk_I y).toInt
def zk_xor (x y : Int) : Int := (zk_I x ^^^ zk_I y).toInt
def zk_shl (x y : Int) : Int := (zk_I x <<< (zk_I y &&& 31)).toInt
def zk_shr (x y : Int) : Int := (zk_I x >>> (zk_I y &&& 31)).toInt
def zk_ushr (x y : Int) : Int := ((zk_I x).toUInt32 >>> ((zk_I y).toUInt32 &&& Int32.toUInt32 31)).toInt32.toInt
def zk_lor (x y : Int) : Int := (zk_J x ||| zk_J y).toInt
def zk_lshl (x y : Int) : Int := (zk_J x <<< ((zk_I y).toInt64 &&& 63)).toInt
def zk_cmp (x y : Int) : Int := if x < y then -1 else if x = y then 0 else 1
theorem zk_cmp_eq {x y : Int} (hx : zk_rJ x) (hy : zk_rJ y) : lg_cmp (zk_J x) (zk_J y) = zk_I (zk_cmp x y) := by
  unfold lg_cmp zk_cmp
  by_cases h1 : x < y
  · have h2 := (zk_J_lt hx hy).mpr h1
    have h3 : ¬ zk_J x > zk_J y := fun h => by
      have := (zk_J_lt hy hx).mp h
      omega
    have h4 : ¬ zk_J x = zk_J y := fun h => by
      have := (zk_J_inj hx hy).mp h
      omega
    simp [h1, h2, h3, h4]
    rfl
  · by_cases h2 : x = y
    · subst h2
      simp
      rfl
    · have h3 : y < x := by omega
      have h4 := (zk_J_lt hy hx).mpr h3
      have h5 : ¬ zk_J x < zk_J y := fun h => h1 ((zk_J_lt hx hy).mp h)
      have h6 : ¬ zk_J x = zk_J y := fun h => h2 ((zk_J_inj hx hy).mp h)
      simp [h1, h2, h4, h5, h6]
      rfl
theorem zk_rI_cmp (x y : Int) : zk_rI (zk_cmp x y) := by
  unfold zk_cmp zk_rI
  split
  · omega
  · split <;> omega
