/-! room, and the steps that can be taken back *-/
section zs_steps
variable {μ : zk_M} {B : Int → zk_M → Prop} {BV : zk_M → Prop} {n p : Int}
theorem sp_hasSister (hy : 0 ≤ n → n < μ 2 0 → B 1 μ) (hn : ¬ (0 ≤ n ∧ n < μ 2 0) → B 0 μ) : zk_C 2 [.inr (.inr (.inl 2)), .inl n] μ (zk_RI B) :=
  c_Con_hasSister ⟨fun q => hn (by omega), fun q => ⟨fun q2 => hn (by omega), fun q2 => hy (by omega) (by omega)⟩⟩
theorem sp_hasText (hy : 0 ≤ n → n < μ 2 1 → B 1 μ) (hn : ¬ (0 ≤ n ∧ n < μ 2 1) → B 0 μ) : zk_C 3 [.inr (.inr (.inl 2)), .inl n] μ (zk_RI B) :=
  c_Con_hasText ⟨fun q => hn (by omega), fun q => ⟨fun q2 => hn (by omega), fun q2 => hy (by omega) (by omega)⟩⟩
theorem sp_cbits {c : Nat} (hc2 : c ≤ 30) (h : B (zb_c (fun n => zw_pl (μ 4 n) == p) c : Nat) μ) : zk_C 244 [.inl (zs_ins μ p c : Nat)] μ (zk_RI B) := by
  refine sp_bitCount (zb_t_le30 hc2) ?_
  unfold zs_ins
  rw [zb_c_t hc2]
  exact h
theorem sp_hasRoom {c : Nat} (hc : μ 4 30 = (c : Int)) (hc2 : c ≤ 30) (hy : zb_c (fun n => zw_pl (μ 4 n) == p) c < 8 → B 1 μ) (hn : ¬ zb_c (fun n => zw_pl (μ 4 n) == p) c < 8 → B 0 μ) : zk_C 4 [.inr (.inr (.inl 2)), .inl p] μ (zk_RI B) :=
  c_Con_hasRoom (sp_inside hc hc2 (sp_cbits hc2 ⟨fun q => hn (by omega), fun q => hy (by omega)⟩))
theorem sp_mbits {c : Nat} (hc2 : c ≤ 30) (h : B (zb_c (fun n => μ 61 (48 + 4 * n) == p) c : Nat) μ) : zk_C 149 [.inl (zs_mof μ p c : Nat)] μ (zk_RI B) := by
  have := zb_t_le30 (f := fun n => μ 61 (48 + 4 * n) == p) hc2
  refine sp_bits (by unfold zs_mof; omega) ?_
  unfold zs_mof
  rw [zb_c_t hc2]
  exact h
theorem sp_mhasRoom {c : Nat} (hc : μ 61 1 = (c : Int)) (hc2 : c ≤ 30) (hy : zb_c (fun n => μ 61 (48 + 4 * n) == p) c < 8 → B 1 μ) (hn : ¬ zb_c (fun n => μ 61 (48 + 4 * n) == p) c < 8 → B 0 μ) : zk_C 156 [.inr (.inr (.inl 60)), .inl p] μ (zk_RI B) :=
  c_Mod_hasRoom (sp_stonesOf hc hc2 (sp_mbits hc2 ⟨fun q => hn (by omega), fun q => hy (by omega)⟩))
/-! keep *-/
/-- d is 1 if there are 30 already: the oldest goes; m2 are left, and the new one is number m2 -/
def zd_d (m : Nat) : Nat := if m = 30 then 1 else 0
def zd_m (m : Nat) : Nat := if m = 30 then 29 else m
/-- the class's: r the row, s oldest and count, t the ring -/
def zd_kC (r s t s' t' : Int → Int) (m o : Nat) : Prop := s' 1 = ((o + zd_d m) % 30 : Nat) ∧ s' 2 = (zd_m m : Int) + 1 ∧ (∀ j : Nat, j < zd_m m → ∀ q : Int, 0 ≤ q → q < 32 → t' (32 * ((o + zd_d m + j) % 30 : Nat) + q) = t (32 * ((o + zd_d m + j) % 30 : Nat) + q)) ∧ ∀ q : Int, 0 ≤ q → q < 32 → t' (32 * ((o + zd_d m + zd_m m) % 30 : Nat) + q) = r q
/-- the reference's -/
def zd_kM (a a' : Int → Int) (m : Nat) : Prop := (∀ i : Int, i < 166 → i ≠ 5 → a' i = a i) ∧ a' 5 = (zd_m m : Int) + 1 ∧ (∀ j : Nat, j < zd_m m → ∀ q : Int, 0 ≤ q → q < 62 → a' (166 + 62 * j + q) = a (166 + 62 * (j + zd_d m : Nat) + q)) ∧ a' (166 + 62 * (zd_m m)) = a 1 ∧ a' (167 + 62 * (zd_m m)) = a 2 ∧ ∀ n : Nat, n < 30 → a' (168 + 62 * (zd_m m) + 2 * n) = a (48 + 4 * n) ∧ a' (169 + 62 * (zd_m m) + 2 * n) = a (49 + 4 * n)
theorem zd_tmod {a : Nat} : Int.tmod (a : Int) 30 = ((a % 30 : Nat) : Int) := by
  rw [Int.tmod_eq_emod_of_nonneg (by omega)]; rfl
theorem zd_tdiv {a : Nat} : Int.tdiv (a : Int) 30 = ((a / 30 : Nat) : Int) := by
  rw [Int.tdiv_eq_ediv_of_nonneg (by omega)]; rfl
theorem sp_placeB {o k : Nat} (ho : o < 30) (hk : k ≤ 30) (h1 : μ 5 1 = (o : Int)) (h : B ((((o + k) % 30 : Nat) : Int) * 32) μ) : zk_C 256 [.inr (.inr (.inl 5)), .inl (k : Int)] μ (zk_RI B) := by
  refine c_Ste_placeBehind ?_
  rw [h1, ← Int.natCast_add]
  have hp : (o + k) % 30 < 30 := Nat.mod_lt _ (by omega)
  have e2 : Int.tdiv ((o + k : Nat) : Int) 30 = (((o + k) / 30 : Nat) : Int) := zd_tdiv
  have e1 : Int.tmod ((o + k : Nat) : Int) 30 = (((o + k) % 30 : Nat) : Int) := zd_tmod
  have e3 : zk_xor ((o + k : Nat) : Int) 30 = ((o + k ^^^ 30 : Nat) : Int) := zb_xor (a := o + k) (b := 30) (by omega) (by decide)
  refine ⟨by omega, c_Math_floorMod ?_⟩
  rw [e1, e2, e3]
  exact ⟨⟨by decide, by omega, by omega⟩, fun _ => ⟨by omega, h⟩, fun q => absurd (Int.natCast_nonneg _) q⟩
theorem sp_keep {m o : Nat} (hm : m ≤ 30) (ho : o < 30) (h2 : μ 5 2 = (m : Int)) (h1 : μ 5 1 = (o : Int)) (h : ∀ μ', zq [5, 6] μ μ' → zd_kC (μ 4) (μ 5) (μ 6) (μ' 5) (μ' 6) m o → BV μ') : zk_C 85 [.inr (.inr (.inl 5)), .inr (.inr (.inl 3))] μ (zk_RV BV) := by
  refine c_Ste_keep ?_
  rw [h2]
  refine sp_placeB ho hm h1 ?_
  rw [h1, h2]
  have e3 : Int.tmod ((o : Int) + 1) 30 = (((o + 1) % 30 : Nat) : Int) := zd_tmod (a := o + 1)
  have e4 : Int.tdiv ((o : Int) + 1) 30 = (((o + 1) / 30 : Nat) : Int) := zd_tdiv (a := o + 1)
  rw [e3, e4]
  have hp : (o + m) % 30 < 30 := Nat.mod_lt _ (by omega)
  have ring : ∀ s5 : zk_M → zk_M, (∀ ν c, c ≠ 5 → s5 ν c = ν c) → ∀ j : Nat, j < zd_m m → ∀ q : Int, 0 ≤ q → q < 32 → s5 (zk_cpy μ 4 0 6 ((((o + m) % 30 : Nat) : Int) * 32) 32) 6 (32 * ((o + zd_d m + j) % 30 : Nat) + q) = μ 6 (32 * ((o + zd_d m + j) % 30 : Nat) + q) := by
    intro s5 hs j hj q q0 q1
    rw [hs _ 6 (by decide)]
    simp only [zk_cpy, if_true]
    rw [if_neg]
    unfold zd_m at hj
    unfold zd_d
    have : (o + zd_d m + j) % 30 ≠ (o + m) % 30 := by unfold zd_d; split at hj <;> split <;> omega
    unfold zd_d at this
    omega
  have newr : ∀ s5 : zk_M → zk_M, (∀ ν c, c ≠ 5 → s5 ν c = ν c) → ∀ q : Int, 0 ≤ q → q < 32 → s5 (zk_cpy μ 4 0 6 ((((o + m) % 30 : Nat) : Int) * 32) 32) 6 (32 * ((o + zd_d m + zd_m m) % 30 : Nat) + q) = μ 4 q := by
    intro s5 hs q q0 q1
    rw [hs _ 6 (by decide)]
    simp only [zk_cpy, if_true]
    have : (o + zd_d m + zd_m m) % 30 = (o + m) % 30 := by unfold zd_d zd_m; split <;> omega
    rw [this, if_pos (by omega)]
    congr 1
    omega
  have same : ∀ (i x : Int), zq [5, 6] μ (zk_set (zk_cpy μ 4 0 6 ((((o + m) % 30 : Nat) : Int) * 32) 32) 5 i x) := by
    intro i x c hc
    have h5 : c ≠ 5 := fun q => hc (by simp [q])
    have h6 : c ≠ 6 := fun q => hc (by simp [q])
    rw [zk_set_o h5]
    funext j
    simp [zk_cpy, h6]
  refine ⟨by omega, fun q => ⟨by omega, by omega, h _ (same _ _) ⟨?_, ?_, ring (fun ν => zk_set ν 5 1 _) (fun ν c hc => zk_set_o hc), newr (fun ν => zk_set ν 5 1 _) (fun ν c hc => zk_set_o hc)⟩⟩, fun q => ⟨by omega, h _ (same _ _) ⟨?_, ?_, ring (fun ν => zk_set ν 5 2 _) (fun ν c hc => zk_set_o hc), newr (fun ν => zk_set ν 5 2 _) (fun ν c hc => zk_set_o hc)⟩⟩⟩
  · have : m = 30 := by omega
    subst this
    rw [zk_set_s]; rfl
  · have : m = 30 := by omega
    subst this
    rw [zk_set_n (by decide)]
    show μ 5 2 = _
    rw [h2]; rfl
  · have : ¬ m = 30 := by omega
    rw [zk_set_n (by decide)]
    show μ 5 1 = _
    rw [h1]
    unfold zd_d
    rw [if_neg this]
    omega
  · have : ¬ m = 30 := by omega
    rw [zk_set_s]
    unfold zd_m
    rw [if_neg this]
end zs_steps
