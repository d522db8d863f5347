/-! what the small methods answer: stones *-/
section zs_stones
variable {μ : zk_M} {B : Int → zk_M → Prop} {BV : zk_M → Prop} {x1 x2 x3 n : Int}
theorem sp_word (h0 : 0 ≤ n) (h1 : n < 30) (h : B (μ 4 n) μ) : zk_C 93 [.inr (.inr (.inl 3)), .inl n] μ (zk_RI B) :=
  c_Sto_word ⟨fun q => by omega, fun _ => ⟨fun q => by omega, fun _ => ⟨⟨h0, by omega⟩, h⟩⟩⟩
theorem sp_kindOf (h0 : 0 ≤ n) (h1 : n < 30) (h : B (zw_kd (μ 4 n)) μ) : zk_C 94 [.inr (.inr (.inl 3)), .inl n] μ (zk_RI B) := c_Sto_kindOf (sp_word h0 h1 h)
theorem sp_sewnOn (h0 : 0 ≤ n) (h1 : n < 30) (h : B (zw_sw (μ 4 n)) μ) : zk_C 95 [.inr (.inr (.inl 3)), .inl n] μ (zk_RI B) := c_Sto_sewnOn (sp_word h0 h1 h)
theorem sp_placeOf (h0 : 0 ≤ n) (h1 : n < 30) (h : B (zw_pl (μ 4 n)) μ) : zk_C 96 [.inr (.inr (.inl 3)), .inl n] μ (zk_RI B) := c_Sto_placeOf (sp_word h0 h1 h)
theorem sp_ownerOf (h0 : 0 ≤ n) (h1 : n < 30) (h : B (zw_ow (μ 4 n)) μ) : zk_C 97 [.inr (.inr (.inl 3)), .inl n] μ (zk_RI B) := c_Sto_ownerOf (sp_word h0 h1 h)
theorem sp_has (hc : μ 4 30 ≤ 30) (hy : 0 ≤ n → n < μ 4 30 → B 1 μ) (hn : ¬ (0 ≤ n ∧ n < μ 4 30) → B 0 μ) : zk_C 92 [.inr (.inr (.inl 3)), .inl n] μ (zk_RI B) :=
  c_Sto_has ⟨fun q => hn (by omega), fun q => ⟨fun q2 => hn (by omega), fun _ => ⟨fun q2 => hn (by omega), fun q2 => hy (by omega) (by omega)⟩⟩⟩
/-- the stones of the row r that are at p, as bits -/
def zs_ins (μ : zk_M) (p : Int) (c : Nat) : Nat := zb_t (fun n => zw_pl (μ 4 n) == p) c
theorem sp_inside {c : Nat} {p : Int} (hc : μ 4 30 = (c : Int)) (hc2 : c ≤ 30) (h : B (zs_ins μ p c : Nat) μ) : zk_C 98 [.inr (.inr (.inl 3)), .inl p] μ (zk_RI B) := by
  refine c_Sto_inside ?_
  have key := zl_up (P := fun n => zk_K 98 4 [.inr (.inr (.inl 3)), .inl p, .inl (zs_ins μ p n : Nat), .inl (n : Int)] [] μ (zk_RI B)) (e := c) ?_ ?_ 0 (Nat.zero_le c)
  · exact key
  · exact t_Sto_inside_4 (c_Sto_count ⟨fun _ => h, fun q => by omega⟩)
  · intro n hn ih
    refine t_Sto_inside_4 (c_Sto_count ⟨fun q => by omega, fun _ => sp_placeOf (by omega) (by omega) ⟨fun q => ⟨by omega, ?_⟩, fun q => ⟨by omega, ?_⟩⟩⟩)
    · have e : zs_ins μ p (n + 1) = zs_ins μ p n := by
        unfold zs_ins
        rw [zb_t, if_neg (by simpa using q), Nat.add_zero]
      have ih := ih
      rw [e] at ih
      exact ih
    · have e : zk_or (zs_ins μ p n : Nat) (zk_shl 1 (n : Int)) = (zs_ins μ p (n + 1) : Nat) := by
        unfold zs_ins
        rw [zb_t_or (by omega), zb_t, if_pos (by simpa using q)]
      rw [e]
      exact ih
theorem sp_move {p o : Nat} (hc : μ 4 30 ≤ 30) (h0 : 0 ≤ n) (h1 : n < μ 4 30) (h : BV (zk_set μ 4 n (zk_or (zk_or (zk_or (zw_kd (μ 4 n)) (zk_shl (zw_sw (μ 4 n)) 3)) (zk_shl (p : Int) 13)) (zk_shl (o : Int) 16)))) : zk_C 102 [.inr (.inr (.inl 3)), .inl n, .inl (p : Int), .inl (o : Int)] μ (zk_RV BV) :=
  c_Sto_move (sp_has hc (fun _ _ => ⟨fun q => absurd q (by omega), fun _ => sp_kindOf h0 (by omega) (sp_sewnOn h0 (by omega) ⟨⟨h0, by omega⟩, h⟩)⟩) (fun q => absurd ⟨h0, h1⟩ q))
/-! the reference's *-/
theorem sp_isIn {v lo hi : Int} (hy : lo ≤ v → v ≤ hi → B 1 μ) (hn : ¬ (lo ≤ v ∧ v ≤ hi) → B 0 μ) : zk_C 147 [.inl v, .inl lo, .inl hi] μ (zk_RI B) :=
  c_Mod_isIn ⟨fun q => hn (by omega), fun q => ⟨fun q2 => hn (by omega), fun q2 => hy (by omega) (by omega)⟩⟩
theorem sp_mhas {a k : Nat} (hk : k < 31) (ha : a < 2147483648) (h : B (if a.testBit k then 1 else 0) μ) : zk_C 148 [.inl (a : Int), .inl (k : Int)] μ (zk_RI B) := by
  refine c_Mod_has ?_
  rw [zb_has hk ha]
  cases hb : a.testBit k
  · rw [hb] at h
    exact ⟨fun _ => h, fun q => absurd q (by decide)⟩
  · rw [hb] at h
    exact ⟨fun q => absurd rfl q, fun _ => h⟩
theorem sp_isSister (h6 : 0 ≤ μ 61 0 ∧ μ 61 0 ≤ 6) (hy : 0 ≤ n → n < μ 61 0 → B 1 μ) (hn : ¬ (0 ≤ n ∧ n < μ 61 0) → B 0 μ) : zk_C 150 [.inr (.inr (.inl 60)), .inl n] μ (zk_RI B) :=
  c_Mod_isSister ⟨by omega, sp_isIn (fun a b => ⟨Or.inr rfl, hy a (by omega)⟩) (fun q => ⟨Or.inl rfl, hn (by omega)⟩)⟩
theorem sp_isStone (h6 : 0 ≤ μ 61 1 ∧ μ 61 1 ≤ 30) (hy : 0 ≤ n → n < μ 61 1 → B 1 μ) (hn : ¬ (0 ≤ n ∧ n < μ 61 1) → B 0 μ) : zk_C 151 [.inr (.inr (.inl 60)), .inl n] μ (zk_RI B) :=
  c_Mod_isStone ⟨by omega, sp_isIn (fun a b => ⟨Or.inr rfl, hy a (by omega)⟩) (fun q => ⟨Or.inl rfl, hn (by omega)⟩)⟩
theorem sp_isKind (hy : 0 ≤ n → n ≤ 5 → B 1 μ) (hn : ¬ (0 ≤ n ∧ n ≤ 5) → B 0 μ) : zk_C 152 [.inl n] μ (zk_RI B) :=
  c_Mod_isKind (sp_isIn (fun a b => ⟨Or.inr rfl, hy a b⟩) (fun q => ⟨Or.inl rfl, hn q⟩))
theorem sp_get {k : Int} (h0 : 0 ≤ n) (h1 : n < 30) (hk0 : 0 ≤ k) (hk : k < 4) (h : B (μ 61 (46 + 4 * n + k)) μ) : zk_C 153 [.inr (.inr (.inl 60)), .inl n, .inl k] μ (zk_RI B) :=
  c_Mod_get ⟨by omega, by omega, by omega, by omega, h⟩
theorem sp_set {k x : Int} (h0 : 0 ≤ n) (h1 : n < 30) (hk0 : 0 ≤ k) (hk : k < 4) (h : BV (zk_set μ 61 (46 + 4 * n + k) x)) : zk_C 154 [.inr (.inr (.inl 60)), .inl n, .inl k, .inl x] μ (zk_RV BV) :=
  c_Mod_set ⟨by omega, by omega, by omega, by omega, h⟩
/-- the same set by the reference's row -/
def zs_mof (μ : zk_M) (p : Int) (c : Nat) : Nat := zb_t (fun n => μ 61 (48 + 4 * n) == p) c
theorem zb_or0 {a : Nat} (h : a < 2147483648) : zk_or (a : Int) 0 = (a : Int) := by
  have := zb_or (a := a) (b := 0) h (by omega)
  rw [Nat.or_zero] at this
  exact this
theorem sp_stonesOf {c : Nat} {p : Int} (hc : μ 61 1 = (c : Int)) (hc2 : c ≤ 30) (h : B (zs_mof μ p c : Nat) μ) : zk_C 155 [.inr (.inr (.inl 60)), .inl p] μ (zk_RI B) := by
  refine c_Mod_stonesOf ?_
  have key := zl_up (P := fun n => zk_K 155 4 [.inr (.inr (.inl 60)), .inl p, .inl (zs_mof μ p n : Nat), .inl (n : Int)] [] μ (zk_RI B)) (e := c) ?_ ?_ 0 (Nat.zero_le c)
  · exact key
  · exact t_Mod_stonesOf_4 ⟨fun _ => h, fun q => by omega⟩
  · intro n hn ih
    refine t_Mod_stonesOf_4 ⟨fun q => by omega, fun _ => sp_get (by omega) (by omega) (by omega) (by omega) ?_⟩
    rw [show (46 + 4 * (n : Int) + 2) = 48 + 4 * n by omega]
    have hlt : zs_mof μ p n < 1073741824 := zb_t_le30 (by omega)
    refine ⟨fun q => ⟨by omega, ?_⟩, fun q => ⟨by omega, ?_⟩⟩
    · have e : zs_mof μ p (n + 1) = zs_mof μ p n := by
        unfold zs_mof
        rw [zb_t, if_neg (by simpa using q), Nat.add_zero]
      rw [zb_or0 (by omega)]
      have ih := ih
      rw [e] at ih
      exact ih
    · have e : zk_or (zs_mof μ p n : Nat) (zk_shl 1 (n : Int)) = (zs_mof μ p (n + 1) : Nat) := by
        unfold zs_mof
        rw [zb_t_or (by omega), zb_t, if_pos (by simpa using q)]
      rw [e]
      exact ih
/-- how many bits: the reference counts them -/
theorem sp_bits {a : Nat} (ha : a < 2147483648) (h : B (zb_c a.testBit 30 : Nat) μ) : zk_C 149 [.inl (a : Int)] μ (zk_RI B) := by
  refine c_Mod_bits ?_
  have key := zl_up (P := fun n => zk_K 149 4 [.inl (a : Int), .inl (zb_c a.testBit n : Nat), .inl (n : Int)] [] μ (zk_RI B)) (e := 30) ?_ ?_ 0 (Nat.zero_le 30)
  · exact key
  · exact t_Mod_bits_4 ⟨fun _ => h, fun q => by omega⟩
  · intro n hn ih
    have hle := zb_c_le a.testBit n
    refine t_Mod_bits_4 ⟨fun q => by omega, fun _ => ?_⟩
    rw [zb_has (by omega) ha]
    have e : ((zb_c a.testBit n : Nat) : Int) + (if a.testBit n then 1 else 0) = (zb_c a.testBit (n + 1) : Nat) := by
      rw [zb_c]
      split <;> simp
    rw [e]
    have hle2 := zb_c_le a.testBit (n + 1)
    exact ⟨by omega, by omega, ih⟩
theorem zb_c_t {f : Nat → Bool} {n m : Nat} (h : n ≤ m) : zb_c (zb_t f n).testBit m = zb_c f n := by
  induction m with
  | zero =>
    have : n = 0 := by omega
    subst this; rfl
  | succ m ih =>
    rw [zb_c, zb_t_bit]
    by_cases hm : n = m + 1
    · subst hm
      rw [zb_c]
      have e : zb_c (zb_t f (m + 1)).testBit m = zb_c f m := by
        apply zb_c_congr
        intro j hj
        rw [zb_t_bit]
        simp
        omega
      rw [e]
      simp
    · rw [ih (by omega)]
      have : ¬ m < n := by omega
      simp [this]
end zs_stones
