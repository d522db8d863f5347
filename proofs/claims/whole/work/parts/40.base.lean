/-! plain facts: loops, bits, counts *-/
/-- a loop upwards: from the end back -/
theorem zl_up {P : Nat → Prop} {e : Nat} (hx : P e) (hs : ∀ n, n < e → P (n + 1) → P n) : ∀ n, n ≤ e → P n := by
  have key : ∀ m n, n + m = e → P n := by
    intro m
    induction m with
    | zero => intro n h; have : n = e := by omega
              rw [this]; exact hx
    | succ m ih => intro n h; exact hs n (by omega) (ih (n + 1) (by omega))
  intro n h
  exact key (e - n) n (by omega)
theorem zk_I_nat (n : Nat) (h : n < 2147483648) : zk_I (n : Int) = nI n := by
  apply Int32.toInt_inj.mp
  rw [zk_I_toInt (by unfold zk_rI; omega), nI_toInt (by omega)]
theorem zk_toInt_nI {n : Nat} (h : n < 2147483648) : (nI n).toInt = (n : Int) := nI_toInt (by omega)
theorem zb_nand (a b : Nat) : nI a &&& nI b = nI (a &&& b) := by
  apply Int32.toBitVec_inj.1
  show BitVec.ofNat 32 a &&& BitVec.ofNat 32 b = BitVec.ofNat 32 (a &&& b)
  apply BitVec.eq_of_getLsbD_eq
  intro i hi
  simp [hi]
theorem zb_nor (a b : Nat) : nI a ||| nI b = nI (a ||| b) := by
  apply Int32.toBitVec_inj.1
  show BitVec.ofNat 32 a ||| BitVec.ofNat 32 b = BitVec.ofNat 32 (a ||| b)
  apply BitVec.eq_of_getLsbD_eq
  intro i hi
  simp [hi]
theorem zb_nxor (a b : Nat) : nI a ^^^ nI b = nI (a ^^^ b) := by
  apply Int32.toBitVec_inj.1
  show BitVec.ofNat 32 a ^^^ BitVec.ofNat 32 b = BitVec.ofNat 32 (a ^^^ b)
  apply BitVec.eq_of_getLsbD_eq
  intro i hi
  simp [hi]
theorem zb_and {a b : Nat} (ha : a < 2147483648) (hb : b < 2147483648) : zk_and (a : Int) (b : Int) = ((a &&& b : Nat) : Int) := by
  unfold zk_and
  rw [zk_I_nat a ha, zk_I_nat b hb]
  have e : nI a &&& nI b = nI (a &&& b) := zb_nand a b
  rw [e, zk_toInt_nI (Nat.lt_of_le_of_lt Nat.and_le_left ha)]
theorem zb_or {a b : Nat} (ha : a < 2147483648) (hb : b < 2147483648) : zk_or (a : Int) (b : Int) = ((a ||| b : Nat) : Int) := by
  unfold zk_or
  rw [zk_I_nat a ha, zk_I_nat b hb]
  have e : nI a ||| nI b = nI (a ||| b) := zb_nor a b
  have h : a ||| b < 2 ^ 31 := Nat.or_lt_two_pow (by omega) (by omega)
  rw [e, zk_toInt_nI (by omega)]
theorem zb_xor {a b : Nat} (ha : a < 2147483648) (hb : b < 2147483648) : zk_xor (a : Int) (b : Int) = ((a ^^^ b : Nat) : Int) := by
  unfold zk_xor
  rw [zk_I_nat a ha, zk_I_nat b hb]
  have e : nI a ^^^ nI b = nI (a ^^^ b) := zb_nxor a b
  have h : a ^^^ b < 2 ^ 31 := Nat.xor_lt_two_pow (by omega) (by omega)
  rw [e, zk_toInt_nI (by omega)]
theorem zb_k31 : ∀ k, k < 32 → ((nI k &&& 31).toBitVec.smod 32).toNat = k := by decide +kernel
theorem zb_shl {a k : Nat} (hk : k < 32) (h : a * 2 ^ k < 2147483648) : zk_shl (a : Int) (k : Int) = ((a * 2 ^ k : Nat) : Int) := by
  unfold zk_shl
  have ha : a < 2147483648 := Nat.lt_of_le_of_lt (Nat.le_mul_of_pos_right a (Nat.two_pow_pos k)) h
  rw [zk_I_nat a ha, zk_I_nat k (by omega), pk_shlN (n := a) (nI k &&& 31) k (zb_k31 k hk) (by omega), zk_toInt_nI h]
theorem zb_shr {a k : Nat} (hk : k < 32) (h : a < 2147483648) : zk_shr (a : Int) (k : Int) = ((a / 2 ^ k : Nat) : Int) := by
  unfold zk_shr
  rw [zk_I_nat a h, zk_I_nat k (by omega), pk_shrN (n := a) (by omega) (nI k &&& 31) k (zb_k31 k hk), zk_toInt_nI (Nat.lt_of_le_of_lt (Nat.div_le_self _ _) h)]
theorem zb_one {k : Nat} (hk : k < 31) : zk_shl 1 (k : Int) = ((2 ^ k : Nat) : Int) := by
  have h : 2 ^ k < 2147483648 := by
    have : 2 ^ k ≤ 2 ^ 30 := Nat.pow_le_pow_right (by omega) (by omega)
    omega
  have := zb_shl (a := 1) (k := k) (by omega) (by omega)
  rw [Nat.one_mul] at this
  exact this
/-- a set of numbers below n as bits -/
def zb_t (f : Nat → Bool) : Nat → Nat
  | 0 => 0
  | n + 1 => zb_t f n + (if f n then 2 ^ n else 0)
theorem zb_t_lt (f : Nat → Bool) : ∀ n, zb_t f n < 2 ^ n
  | 0 => Nat.lt_succ_self 0
  | n + 1 => by
    have ih := zb_t_lt f n
    rw [zb_t, Nat.pow_succ]
    split <;> omega
theorem zb_t_le30 {f : Nat → Bool} {n : Nat} (h : n ≤ 30) : zb_t f n < 1073741824 := by
  have h1 := zb_t_lt f n
  have h2 : 2 ^ n ≤ 2 ^ 30 := Nat.pow_le_pow_right (by omega) h
  omega
theorem zb_t_congr {f g : Nat → Bool} : ∀ n, (∀ j, j < n → f j = g j) → zb_t f n = zb_t g n
  | 0, _ => rfl
  | n + 1, h => by rw [zb_t, zb_t, zb_t_congr n (fun j hj => h j (by omega)), h n (by omega)]
theorem zb_or_pow {a n : Nat} (h : a < 2 ^ n) : a ||| 2 ^ n = a + 2 ^ n := by
  have := Nat.two_pow_add_eq_or_of_lt h 1
  rw [Nat.mul_one] at this
  rw [Nat.or_comm, ← this, Nat.add_comm]
theorem zb_t_or {f : Nat → Bool} {n : Nat} (hn : n < 30) : zk_or ((zb_t f n : Nat) : Int) (zk_shl 1 (n : Int)) = ((zb_t f n + 2 ^ n : Nat) : Int) := by
  have h1 := zb_t_lt f n
  have h2 : 2 ^ n ≤ 2 ^ 29 := Nat.pow_le_pow_right (by omega) (by omega)
  rw [zb_one (by omega), zb_or (by omega) (by omega), zb_or_pow h1]
theorem zb_t_bit (f : Nat → Bool) : ∀ n j, (zb_t f n).testBit j = (decide (j < n) && f j)
  | 0, j => by simp [zb_t]
  | n + 1, j => by
    have hl := zb_t_lt f n
    rw [zb_t]
    by_cases hf : f n = true
    · rw [if_pos hf, Nat.add_comm]
      by_cases hj : j = n
      · subst hj
        rw [Nat.testBit_two_pow_add_eq, Nat.testBit_lt_two_pow hl]
        simp [hf]
      · rcases Nat.lt_or_gt_of_ne hj with q | q
        · rw [Nat.testBit_two_pow_add_gt q, zb_t_bit f n j]
          simp [q, Nat.lt_succ_of_lt q]
        · have : 2 ^ n + zb_t f n < 2 ^ j := by
            have : 2 ^ (n + 1) ≤ 2 ^ j := Nat.pow_le_pow_right (by omega) q
            rw [Nat.pow_succ] at this
            omega
          rw [Nat.testBit_lt_two_pow this]
          simp
          omega
    · have hf : f n = false := by simpa using hf
      rw [hf]
      simp only [Bool.false_eq_true, if_false, Nat.add_zero]
      rw [zb_t_bit f n j]
      by_cases hj : j = n
      · subst hj; simp [hf]
      · by_cases q : j < n
        · simp [q, Nat.lt_succ_of_lt q]
        · have : ¬ j < n + 1 := by omega
          simp [q, this]
/-- how many -/
def zb_c (f : Nat → Bool) : Nat → Nat
  | 0 => 0
  | n + 1 => zb_c f n + (if f n then 1 else 0)
theorem zb_c_le (f : Nat → Bool) : ∀ n, zb_c f n ≤ n
  | 0 => Nat.le_refl 0
  | n + 1 => by have := zb_c_le f n; rw [zb_c]; split <;> omega
theorem zb_c_congr {f g : Nat → Bool} : ∀ n, (∀ j, j < n → f j = g j) → zb_c f n = zb_c g n
  | 0, _ => rfl
  | n + 1, h => by rw [zb_c, zb_c, zb_c_congr n (fun j hj => h j (by omega)), h n (by omega)]
/-- the bit k of a small number -/
theorem zb_has {a k : Nat} (hk : k < 31) (ha : a < 2147483648) : zk_and (zk_shr (a : Int) (k : Int)) 1 = if a.testBit k then 1 else 0 := by
  rw [zb_shr (by omega) ha]
  have h1 : a / 2 ^ k < 2147483648 := Nat.lt_of_le_of_lt (Nat.div_le_self _ _) ha
  have e : zk_and ((a / 2 ^ k : Nat) : Int) ((1 : Nat) : Int) = ((a / 2 ^ k &&& 1 : Nat) : Int) := zb_and h1 (by omega)
  rw [show (1 : Int) = ((1 : Nat) : Int) from rfl, e, Nat.and_one_is_mod, Nat.testBit_eq_decide_div_mod_eq]
  rcases Nat.mod_two_eq_zero_or_one (a / 2 ^ k) with h | h <;> simp [h]
/-- search upwards: the first from n on, of m -/
def zb_s (f : Nat → Bool) : Nat → Nat → Int
  | 0, _ => -1
  | m + 1, n => if f n then (n : Int) else zb_s f m (n + 1)
theorem zb_s_congr {f g : Nat → Bool} : ∀ m n, (∀ j, n ≤ j → j < n + m → f j = g j) → zb_s f m n = zb_s g m n
  | 0, _, _ => rfl
  | m + 1, n, h => by rw [zb_s, zb_s, h n (by omega) (by omega), zb_s_congr m (n + 1) (fun j h1 h2 => h j (by omega) (by omega))]
theorem zb_s_spec (f : Nat → Bool) : ∀ m n, (zb_s f m n = -1 ∧ ∀ j, n ≤ j → j < n + m → f j = false) ∨ ∃ j, n ≤ j ∧ j < n + m ∧ zb_s f m n = (j : Int) ∧ f j = true ∧ ∀ i, n ≤ i → i < j → f i = false
  | 0, n => Or.inl ⟨rfl, fun j h1 h2 => by omega⟩
  | m + 1, n => by
    rw [zb_s]
    by_cases hf : f n = true
    · exact Or.inr ⟨n, by omega, by omega, by rw [if_pos hf], hf, fun i h1 h2 => by omega⟩
    · rw [if_neg hf]
      have hf : f n = false := by simpa using hf
      rcases zb_s_spec f m (n + 1) with ⟨h1, h2⟩ | ⟨j, h1, h2, h3, h4, h5⟩
      · refine Or.inl ⟨h1, fun j g1 g2 => ?_⟩
        by_cases e : j = n
        · rw [e]; exact hf
        · exact h2 j (by omega) (by omega)
      · refine Or.inr ⟨j, by omega, by omega, h3, h4, fun i g1 g2 => ?_⟩
        by_cases e : i = n
        · rw [e]; exact hf
        · exact h5 i (by omega) g2
/-! a stone's word *-/
def zw_kd (w : Int) : Int := zk_and w 7
def zw_sw (w : Int) : Int := zk_and (zk_shr w 3) 1023
def zw_pl (w : Int) : Int := zk_and (zk_shr w 13) 7
def zw_ow (w : Int) : Int := zk_and (zk_shr w 16) 7
theorem zw_pack {k d p o : Nat} (hk : k < 8) (hd : d < 1024) (hp : p < 8) (ho : o < 8) : zk_or (zk_or (zk_or (k : Int) (zk_shl (d : Int) 3)) (zk_shl (p : Int) 13)) (zk_shl (o : Int) 16) = ((k + 8 * d + 8192 * p + 65536 * o : Nat) : Int) := by
  have e1 : zk_shl (d : Int) 3 = ((d * 2 ^ 3 : Nat) : Int) := zb_shl (k := 3) (by omega) (by omega)
  have e2 : zk_shl (p : Int) 13 = ((p * 2 ^ 13 : Nat) : Int) := zb_shl (k := 13) (by omega) (by omega)
  have e3 : zk_shl (o : Int) 16 = ((o * 2 ^ 16 : Nat) : Int) := zb_shl (k := 16) (by omega) (by omega)
  have f1 : k ||| d * 2 ^ 3 = k + 8 * d := by
    have := Nat.two_pow_add_eq_or_of_lt (i := 3) (b := k) (by omega) d
    rw [Nat.or_comm, Nat.mul_comm, ← this]; omega
  have f2 : (k + 8 * d) ||| p * 2 ^ 13 = k + 8 * d + 8192 * p := by
    have := Nat.two_pow_add_eq_or_of_lt (i := 13) (b := k + 8 * d) (by omega) p
    rw [Nat.or_comm, Nat.mul_comm, ← this]; omega
  have f3 : (k + 8 * d + 8192 * p) ||| o * 2 ^ 16 = k + 8 * d + 8192 * p + 65536 * o := by
    have := Nat.two_pow_add_eq_or_of_lt (i := 16) (b := k + 8 * d + 8192 * p) (by omega) o
    rw [Nat.or_comm, Nat.mul_comm, ← this]; omega
  rw [e1, e2, e3, zb_or (by omega) (by omega), f1, zb_or (by omega) (by omega), f2, zb_or (by omega) (by omega), f3]
theorem zw_mask {a : Nat} (ha : a < 2147483648) : zk_and (a : Int) 7 = ((a % 8 : Nat) : Int) ∧ zk_and (a : Int) 1023 = ((a % 1024 : Nat) : Int) := by
  have e1 : zk_and (a : Int) ((7 : Nat) : Int) = ((a &&& 7 : Nat) : Int) := zb_and ha (by omega)
  have e2 : zk_and (a : Int) ((1023 : Nat) : Int) = ((a &&& 1023 : Nat) : Int) := zb_and ha (by omega)
  refine ⟨?_, ?_⟩
  · rw [show (7 : Int) = ((7 : Nat) : Int) from rfl, e1, show (7 : Nat) = 2 ^ 3 - 1 from rfl, Nat.and_two_pow_sub_one_eq_mod]
  · rw [show (1023 : Int) = ((1023 : Nat) : Int) from rfl, e2, show (1023 : Nat) = 2 ^ 10 - 1 from rfl, Nat.and_two_pow_sub_one_eq_mod]
theorem zw_word {k d p o : Nat} (hk : k < 8) (hd : d < 1024) (hp : p < 8) (ho : o < 8) : zw_kd ((k + 8 * d + 8192 * p + 65536 * o : Nat) : Int) = (k : Int) ∧ zw_sw ((k + 8 * d + 8192 * p + 65536 * o : Nat) : Int) = (d : Int) ∧ zw_pl ((k + 8 * d + 8192 * p + 65536 * o : Nat) : Int) = (p : Int) ∧ zw_ow ((k + 8 * d + 8192 * p + 65536 * o : Nat) : Int) = (o : Int) := by
  have hl : k + 8 * d + 8192 * p + 65536 * o < 2147483648 := by omega
  generalize hw : k + 8 * d + 8192 * p + 65536 * o = w at hl ⊢
  have e1 : zk_shr (w : Int) 3 = ((w / 2 ^ 3 : Nat) : Int) := zb_shr (k := 3) (by omega) hl
  have e2 : zk_shr (w : Int) 13 = ((w / 2 ^ 13 : Nat) : Int) := zb_shr (k := 13) (by omega) hl
  have e3 : zk_shr (w : Int) 16 = ((w / 2 ^ 16 : Nat) : Int) := zb_shr (k := 16) (by omega) hl
  refine ⟨?_, ?_, ?_, ?_⟩
  · unfold zw_kd
    rw [(zw_mask hl).1]
    omega
  · unfold zw_sw
    rw [e1, (zw_mask (by omega)).2]
    omega
  · unfold zw_pl
    rw [e2, (zw_mask (by omega)).1]
    omega
  · unfold zw_ow
    rw [e3, (zw_mask (by omega)).1]
    omega
