/-! Integer.bitCount counts bits *-/
theorem zp_land {B b M m : Nat} (hb : b < 256) (hm : m < 256) : (256 * B + b) &&& (256 * M + m) = 256 * (B &&& M) + (b &&& m) := by
  apply Nat.eq_of_testBit_eq
  intro i
  have h1 := Nat.testBit_two_pow_mul_add B (i := 8) (b := b) hb i
  have h2 := Nat.testBit_two_pow_mul_add M (i := 8) (b := m) hm i
  have h3 := Nat.testBit_two_pow_mul_add (B &&& M) (i := 8) (b := b &&& m) (Nat.lt_of_le_of_lt Nat.and_le_left hb) i
  rw [show 256 = 2 ^ 8 from rfl, Nat.testBit_and, h1, h2, h3]
  split <;> simp [Nat.testBit_and]
theorem zp_h1 : ∀ b, b < 256 → ∀ c, c < 2 → (b / 2 + 128 * c) &&& 85 = b / 2 &&& 85 := by decide +kernel
theorem zp_h2 : ∀ b, b < 256 → ∀ c, c < 4 → (b / 4 + 64 * c) &&& 51 = b / 4 &&& 51 := by decide +kernel
def zp_c (b : Nat) : Nat := b - (b / 2 &&& 85)
def zp_d (b : Nat) : Nat := (zp_c b &&& 51) + (zp_c b / 4 &&& 51)
def zp_p (b : Nat) : Nat := (zp_d b + zp_d b / 16) % 16
theorem zp_byte : ∀ b, b < 256 → (b / 2 &&& 85) ≤ b ∧ zp_c b < 256 ∧ zp_d b ≤ 68 ∧ zp_d b % 16 ≤ 4 ∧ zp_p b ≤ 8 ∧ zp_p b = zb_c b.testBit 8 := by decide +kernel
theorem zp_h3 : ∀ d, d < 69 → ∀ e, e < 5 → (d + d / 16 + 16 * e) &&& 15 = (d + d / 16) % 16 := by decide +kernel
theorem zp_s1 {b0 b1 b2 b3 : Nat} (h0 : b0 < 256) (h1 : b1 < 256) (h2 : b2 < 256) (h3 : b3 < 256) : (256 * (256 * (256 * b3 + b2) + b1) + b0) / 2 &&& 1431655765 = 256 * (256 * (256 * (b3 / 2 &&& 85) + (b2 / 2 &&& 85)) + (b1 / 2 &&& 85)) + (b0 / 2 &&& 85) := by
  have e : (256 * (256 * (256 * b3 + b2) + b1) + b0) / 2 = 256 * (256 * (256 * (b3 / 2) + (b2 / 2 + 128 * (b3 % 2))) + (b1 / 2 + 128 * (b2 % 2))) + (b0 / 2 + 128 * (b1 % 2)) := by omega
  rw [e, show 1431655765 = 256 * (256 * (256 * 85 + 85) + 85) + 85 from rfl, zp_land (by omega) (by omega), zp_land (by omega) (by omega), zp_land (by omega) (by omega), zp_h1 b0 h0 _ (by omega), zp_h1 b1 h1 _ (by omega), zp_h1 b2 h2 _ (by omega)]
theorem zp_s2 {b0 b1 b2 b3 : Nat} (h0 : b0 < 256) (h1 : b1 < 256) (h2 : b2 < 256) (h3 : b3 < 256) : (256 * (256 * (256 * b3 + b2) + b1) + b0) / 4 &&& 858993459 = 256 * (256 * (256 * (b3 / 4 &&& 51) + (b2 / 4 &&& 51)) + (b1 / 4 &&& 51)) + (b0 / 4 &&& 51) := by
  have e : (256 * (256 * (256 * b3 + b2) + b1) + b0) / 4 = 256 * (256 * (256 * (b3 / 4) + (b2 / 4 + 64 * (b3 % 4))) + (b1 / 4 + 64 * (b2 % 4))) + (b0 / 4 + 64 * (b1 % 4)) := by omega
  rw [e, show 858993459 = 256 * (256 * (256 * 51 + 51) + 51) + 51 from rfl, zp_land (by omega) (by omega), zp_land (by omega) (by omega), zp_land (by omega) (by omega), zp_h2 b0 h0 _ (by omega), zp_h2 b1 h1 _ (by omega), zp_h2 b2 h2 _ (by omega)]
theorem zp_s2b {b0 b1 b2 b3 : Nat} (h0 : b0 < 256) (h1 : b1 < 256) (h2 : b2 < 256) (h3 : b3 < 256) : (256 * (256 * (256 * b3 + b2) + b1) + b0) &&& 858993459 = 256 * (256 * (256 * (b3 &&& 51) + (b2 &&& 51)) + (b1 &&& 51)) + (b0 &&& 51) := by
  rw [show 858993459 = 256 * (256 * (256 * 51 + 51) + 51) + 51 from rfl, zp_land (by omega) (by omega), zp_land (by omega) (by omega), zp_land (by omega) (by omega)]
theorem zp_s3 {d0 d1 d2 d3 : Nat} (h0 : d0 ≤ 68) (h1 : d1 ≤ 68 ∧ d1 % 16 ≤ 4) (h2 : d2 ≤ 68 ∧ d2 % 16 ≤ 4) (h3 : d3 ≤ 68 ∧ d3 % 16 ≤ 4) : ((256 * (256 * (256 * d3 + d2) + d1) + d0) + (256 * (256 * (256 * d3 + d2) + d1) + d0) / 16) &&& 252645135 = 256 * (256 * (256 * ((d3 + d3 / 16) % 16) + ((d2 + d2 / 16) % 16)) + ((d1 + d1 / 16) % 16)) + ((d0 + d0 / 16) % 16) := by
  have e : (256 * (256 * (256 * d3 + d2) + d1) + d0) + (256 * (256 * (256 * d3 + d2) + d1) + d0) / 16 = 256 * (256 * (256 * (d3 + d3 / 16 + 16 * 0) + (d2 + d2 / 16 + 16 * (d3 % 16))) + (d1 + d1 / 16 + 16 * (d2 % 16))) + (d0 + d0 / 16 + 16 * (d1 % 16)) := by omega
  rw [e, show 252645135 = 256 * (256 * (256 * 15 + 15) + 15) + 15 from rfl, zp_land (by omega) (by omega), zp_land (by omega) (by omega), zp_land (by omega) (by omega), zp_h3 d0 (by omega) _ (by omega), zp_h3 d1 (by omega) _ (by omega), zp_h3 d2 (by omega) _ (by omega), zp_h3 d3 (by omega) _ (by omega)]
theorem zb_ushr {a k : Nat} (hk : k < 32) (h : a < 2147483648) : zk_ushr (a : Int) (k : Int) = ((a / 2 ^ k : Nat) : Int) := by
  unfold zk_ushr
  have hs : ∀ k, k < 32 → (((nI k).toUInt32 &&& Int32.toUInt32 31).toBitVec % 32).toNat = k := by decide +kernel
  have e := pk_ushrN (n := a) (by omega) (nI k) k (hs k hk)
  rw [zk_I_nat a h, zk_I_nat k (by omega), e, zk_toInt_nI (Nat.lt_of_le_of_lt (Nat.div_le_self _ _) h)]
theorem zb_c_split (f : Nat → Bool) (m : Nat) : ∀ n, zb_c f (m + n) = zb_c f m + zb_c (fun j => f (m + j)) n
  | 0 => rfl
  | n + 1 => by rw [← Nat.add_assoc, zb_c, zb_c_split f m n, zb_c, Nat.add_assoc]
theorem zp_pc {B b n : Nat} (hb : b < 256) : zb_c (256 * B + b).testBit (8 + n) = zb_c b.testBit 8 + zb_c B.testBit n := by
  have ht : ∀ i, (256 * B + b).testBit i = if i < 8 then b.testBit i else B.testBit (i - 8) := fun i => Nat.testBit_two_pow_mul_add B (i := 8) (b := b) hb i
  rw [zb_c_split]
  congr 1
  · apply zb_c_congr
    intro j hj
    rw [ht, if_pos hj]
  · apply zb_c_congr
    intro j hj
    rw [ht, if_neg (by omega), Nat.add_sub_cancel_left]
theorem zp_small : ∀ b, b < 64 → zb_c b.testBit 6 = zb_c b.testBit 8 := by decide +kernel
set_option maxHeartbeats 1000000 in
theorem sp_bitCount {μ : zk_M} {B : Int → zk_M → Prop} {x : Nat} (hx : x < 1073741824) (h : B (zb_c x.testBit 30 : Nat) μ) : zk_C 244 [.inl (x : Int)] μ (zk_RI B) := by
  obtain ⟨b0, b1, b2, b3, h0, h1, h2, h3, rfl⟩ : ∃ b0 b1 b2 b3 : Nat, b0 < 256 ∧ b1 < 256 ∧ b2 < 256 ∧ b3 < 64 ∧ x = 256 * (256 * (256 * b3 + b2) + b1) + b0 := ⟨x % 256, x / 256 % 256, x / 65536 % 256, x / 16777216, by omega, by omega, by omega, by omega, by omega⟩
  obtain ⟨p00, p01, p02, p03, p04, p05⟩ := zp_byte b0 h0
  obtain ⟨p10, p11, p12, p13, p14, p15⟩ := zp_byte b1 h1
  obtain ⟨p20, p21, p22, p23, p24, p25⟩ := zp_byte b2 h2
  obtain ⟨p30, p31, p32, p33, p34, p35⟩ := zp_byte b3 (by omega)
  have hres : zb_c (256 * (256 * (256 * b3 + b2) + b1) + b0).testBit 30 = zp_p b0 + zp_p b1 + zp_p b2 + zp_p b3 := by
    rw [show (30 : Nat) = 8 + (8 + (8 + 6)) from rfl, zp_pc h0, zp_pc h1, zp_pc h2, zp_small b3 h3, p05, p15, p25, p35]
    omega
  rw [hres] at h
  have lit : ∀ n : Nat, ((n : Nat) : Int) = ((n : Nat) : Int) := fun _ => rfl
  have eA : zk_and (zk_ushr ((256 * (256 * (256 * b3 + b2) + b1) + b0 : Nat) : Int) 1) 1431655765 = ((256 * (256 * (256 * (b3 / 2 &&& 85) + (b2 / 2 &&& 85)) + (b1 / 2 &&& 85)) + (b0 / 2 &&& 85) : Nat) : Int) := by
    have u := zb_ushr (a := 256 * (256 * (256 * b3 + b2) + b1) + b0) (k := 1) (by omega) (by omega)
    rw [show ((1 : Nat) : Int) = 1 from rfl, show (2 : Nat) ^ 1 = 2 from rfl] at u
    rw [u]
    have a := zb_and (a := (256 * (256 * (256 * b3 + b2) + b1) + b0) / 2) (b := 1431655765) (by omega) (by omega)
    rw [zp_s1 h0 h1 h2 (by omega)] at a
    exact a
  have e1 : ((256 * (256 * (256 * b3 + b2) + b1) + b0 : Nat) : Int) - zk_and (zk_ushr ((256 * (256 * (256 * b3 + b2) + b1) + b0 : Nat) : Int) 1) 1431655765 = ((256 * (256 * (256 * zp_c b3 + zp_c b2) + zp_c b1) + zp_c b0 : Nat) : Int) := by
    rw [eA]
    unfold zp_c
    omega
  have e2a : zk_and ((256 * (256 * (256 * zp_c b3 + zp_c b2) + zp_c b1) + zp_c b0 : Nat) : Int) 858993459 = ((256 * (256 * (256 * (zp_c b3 &&& 51) + (zp_c b2 &&& 51)) + (zp_c b1 &&& 51)) + (zp_c b0 &&& 51) : Nat) : Int) := by
    have hc3 : zp_c b3 ≤ b3 := Nat.sub_le _ _
    have a := zb_and (a := 256 * (256 * (256 * zp_c b3 + zp_c b2) + zp_c b1) + zp_c b0) (b := 858993459) (by omega) (by omega)
    rw [zp_s2b p01 p11 p21 p31] at a
    exact a
  have e2b : zk_and (zk_ushr ((256 * (256 * (256 * zp_c b3 + zp_c b2) + zp_c b1) + zp_c b0 : Nat) : Int) 2) 858993459 = ((256 * (256 * (256 * (zp_c b3 / 4 &&& 51) + (zp_c b2 / 4 &&& 51)) + (zp_c b1 / 4 &&& 51)) + (zp_c b0 / 4 &&& 51) : Nat) : Int) := by
    have hc3 : zp_c b3 ≤ b3 := Nat.sub_le _ _
    have u := zb_ushr (a := 256 * (256 * (256 * zp_c b3 + zp_c b2) + zp_c b1) + zp_c b0) (k := 2) (by omega) (by omega)
    rw [show ((2 : Nat) : Int) = 2 from rfl, show (2 : Nat) ^ 2 = 4 from rfl] at u
    rw [u]
    have a := zb_and (a := (256 * (256 * (256 * zp_c b3 + zp_c b2) + zp_c b1) + zp_c b0) / 4) (b := 858993459) (by omega) (by omega)
    rw [zp_s2 p01 p11 p21 p31] at a
    exact a
  have e2 : zk_and ((256 * (256 * (256 * zp_c b3 + zp_c b2) + zp_c b1) + zp_c b0 : Nat) : Int) 858993459 + zk_and (zk_ushr ((256 * (256 * (256 * zp_c b3 + zp_c b2) + zp_c b1) + zp_c b0 : Nat) : Int) 2) 858993459 = ((256 * (256 * (256 * zp_d b3 + zp_d b2) + zp_d b1) + zp_d b0 : Nat) : Int) := by
    rw [e2a, e2b]
    unfold zp_d
    omega
  have u4 : zk_ushr ((256 * (256 * (256 * zp_d b3 + zp_d b2) + zp_d b1) + zp_d b0 : Nat) : Int) 4 = (((256 * (256 * (256 * zp_d b3 + zp_d b2) + zp_d b1) + zp_d b0) / 16 : Nat) : Int) := zb_ushr (k := 4) (by omega) (by omega)
  have e3 : zk_and (((256 * (256 * (256 * zp_d b3 + zp_d b2) + zp_d b1) + zp_d b0 : Nat) : Int) + zk_ushr ((256 * (256 * (256 * zp_d b3 + zp_d b2) + zp_d b1) + zp_d b0 : Nat) : Int) 4) 252645135 = ((256 * (256 * (256 * zp_p b3 + zp_p b2) + zp_p b1) + zp_p b0 : Nat) : Int) := by
    rw [u4]
    have a := zb_and (a := (256 * (256 * (256 * zp_d b3 + zp_d b2) + zp_d b1) + zp_d b0) + (256 * (256 * (256 * zp_d b3 + zp_d b2) + zp_d b1) + zp_d b0) / 16) (b := 252645135) (by omega) (by omega)
    rw [zp_s3 p02 ⟨p12, p13⟩ ⟨p22, p23⟩ ⟨p32, p33⟩] at a
    exact a
  have u8 : zk_ushr ((256 * (256 * (256 * zp_p b3 + zp_p b2) + zp_p b1) + zp_p b0 : Nat) : Int) 8 = ((256 * (256 * zp_p b3 + zp_p b2) + zp_p b1 : Nat) : Int) := by
    have u := zb_ushr (a := 256 * (256 * (256 * zp_p b3 + zp_p b2) + zp_p b1) + zp_p b0) (k := 8) (by omega) (by omega)
    rw [show (2 : Nat) ^ 8 = 256 from rfl] at u
    rw [show ((8 : Nat) : Int) = 8 from rfl] at u
    rw [u]
    omega
  have u16 : zk_ushr (((256 * (256 * (256 * zp_p b3 + zp_p b2) + zp_p b1) + zp_p b0 : Nat) : Int) + ((256 * (256 * zp_p b3 + zp_p b2) + zp_p b1 : Nat) : Int)) 16 = ((256 * zp_p b3 + (zp_p b2 + zp_p b3) : Nat) : Int) := by
    have u := zb_ushr (a := (256 * (256 * (256 * zp_p b3 + zp_p b2) + zp_p b1) + zp_p b0) + (256 * (256 * zp_p b3 + zp_p b2) + zp_p b1)) (k := 16) (by omega) (by omega)
    rw [show (2 : Nat) ^ 16 = 65536 from rfl] at u
    rw [show ((16 : Nat) : Int) = 16 from rfl] at u
    rw [← Int.natCast_add, u]
    omega
  have e5 : zk_and ((((256 * (256 * (256 * zp_p b3 + zp_p b2) + zp_p b1) + zp_p b0 : Nat) : Int) + ((256 * (256 * zp_p b3 + zp_p b2) + zp_p b1 : Nat) : Int)) + ((256 * zp_p b3 + (zp_p b2 + zp_p b3) : Nat) : Int)) 63 = ((zp_p b0 + zp_p b1 + zp_p b2 + zp_p b3 : Nat) : Int) := by
    have a := zb_and (a := (256 * (256 * (256 * zp_p b3 + zp_p b2) + zp_p b1) + zp_p b0) + (256 * (256 * zp_p b3 + zp_p b2) + zp_p b1) + (256 * zp_p b3 + (zp_p b2 + zp_p b3))) (b := 63) (by omega) (by omega)
    rw [show (63 : Nat) = 2 ^ 6 - 1 from rfl, Nat.and_two_pow_sub_one_eq_mod] at a
    rw [← Int.natCast_add, ← Int.natCast_add]
    refine a.trans ?_
    omega
  refine c_Int_bitCount ?_
  rw [e1, e2, e3, u4, u8, u16, e5]
  exact ⟨by omega, by omega, by omega, by omega, by omega, h⟩
