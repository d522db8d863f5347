/-! next *-/
def zf_k (a : Nat) (g : Nat → Int) (is : Int) (n : Nat) : Nat := zb_c (fun t => a.testBit t && g t == is) n
def zf_mx (a : Nat) (g : Nat → Int) (n : Nat) : Int := max (zf_k a g (-1) n : Nat) (max (zf_k a g 0 n : Nat) (zf_k a g 1 n : Nat))
theorem zb_c_ext {f : Nat → Bool} {n : Nat} : ∀ m, n ≤ m → (∀ j, n ≤ j → f j = false) → zb_c f m = zb_c f n
  | 0, h, _ => by rw [show n = 0 by omega]
  | m + 1, h, hf => by
    by_cases q : n = m + 1
    · rw [q]
    · rw [zb_c, hf m (by omega), zb_c_ext m (by omega) hf]
      rfl
theorem zf_sg_r (x y : Int) : zf_sg x y = 1 ∨ zf_sg x y = 0 ∨ zf_sg x y = -1 := by
  unfold zf_sg
  split
  · exact Or.inl rfl
  · split
    · exact Or.inr (Or.inr rfl)
    · exact Or.inr (Or.inl rfl)
theorem zf_k_s (a : Nat) (g : Nat → Int) (is : Int) (n : Nat) : ((zf_k a g is (n + 1) : Nat) : Int) = (zf_k a g is n : Nat) + (if a.testBit n = true ∧ g n = is then 1 else 0) := by
  unfold zf_k
  rw [zb_c]
  by_cases q : a.testBit n = true ∧ g n = is
  · rw [if_pos q, if_pos (by simp [q])]
    push_cast
    rfl
  · rw [if_neg q, if_neg (by simpa using q)]
    rfl
theorem zf_m3 (p q r : Nat) : max (max (max 0 (p : Int)) q) r = max (p : Int) (max q r) := by omega
theorem zf_k_le (a : Nat) (g : Nat → Int) (is : Int) (n : Nat) : zf_k a g is n ≤ n := zb_c_le _ n
def zf_i (v : Int → Int → Int) (a : Nat) : Nat → Nat → Int × Int → Int × Int
  | 0, _, p => p
  | m + 1, b, p => zf_i v a m (b + 1) (if v a b < p.1 then (v a b, 6 * (a : Int) + b) else p)
def zf_o (v : Int → Int → Int) (e : Nat) : Nat → Nat → Int × Int → Int × Int
  | 0, _, p => p
  | m + 1, a, p => zf_o v e m (a + 1) (zf_i v a (e - (a + 1)) (a + 1) p)
section
variable {μ : zk_M} {BV : zk_M → Prop} {B : Int → zk_M → Prop} {σ : za_S} {sis : Int} {V : Nat → Int → Int} {e c a : Nat}
theorem sp_mostAlike {x y : Int} (hV : zf_V μ V e) (he : e ≤ 4) (ha : ∀ t, a.testBit t = true → t < e) (hl : a < 2147483648) (x0 : 0 ≤ x) (x6 : x < 6) (y0 : 0 ≤ y) (y6 : y < 6) (h : B (zf_mx a (fun t => zf_sg (V t x) (V t y)) 4) μ) : zk_C 68 [.inr (.inr (.inl 7)), .inl (a : Int), .inl x, .inl y] μ (zk_RI B) := by
  have lp : ∀ n, n ≤ 4 → zk_K 68 12 [.inr (.inr (.inl 7)), .inl (a : Int), .inl x, .inl y, .inl (zf_k a (fun t => zf_sg (V t x) (V t y)) (-1) n : Nat), .inl (zf_k a (fun t => zf_sg (V t x) (V t y)) 0 n : Nat), .inl (zf_k a (fun t => zf_sg (V t x) (V t y)) 1 n : Nat), .inl (n : Int), .inr (.inr (.inr 0))] [] μ (zk_RI B) := by
    refine zl_up (P := fun n => zk_K 68 12 [.inr (.inr (.inl 7)), .inl (a : Int), .inl x, .inl y, .inl (zf_k a (fun t => zf_sg (V t x) (V t y)) (-1) n : Nat), .inl (zf_k a (fun t => zf_sg (V t x) (V t y)) 0 n : Nat), .inl (zf_k a (fun t => zf_sg (V t x) (V t y)) 1 n : Nat), .inl (n : Int), .inr (.inr (.inr 0))] [] μ (zk_RI B)) (t_Sca_mostAlike_12 ⟨fun _ => h, fun q => absurd (by decide) q⟩) (fun n hn ih => ?_)
    rw [zf_k_s, zf_k_s, zf_k_s] at ih
    have l1 := zf_k_le a (fun t => zf_sg (V t x) (V t y)) (-1) n
    have l2 := zf_k_le a (fun t => zf_sg (V t x) (V t y)) 0 n
    have l3 := zf_k_le a (fun t => zf_sg (V t x) (V t y)) 1 n
    refine t_Sca_mostAlike_12 ⟨fun q => by omega, fun _ => ?_⟩
    rw [zb_has (by omega) hl]
    by_cases w : a.testBit n = true
    · rw [if_pos w]
      refine ⟨fun q => absurd rfl q, fun _ => sp_sBy hV he (ha n w) x0 x6 y0 y6 ?_⟩
      simp only [w, true_and] at ih
      have hr := zf_sg_r (V n x) (V n y)
      generalize zf_sg (V n x) (V n y) = r at ih hr ⊢
      rcases hr with rfl | rfl | rfl
      · rw [if_neg (by decide), if_neg (by decide), if_pos rfl] at ih
        exact ⟨fun _ => ⟨by omega, fun _ => t_Sca_mostAlike_65 ⟨by omega, fun q => absurd q (by decide), fun _ => ⟨by omega, by omega, ih⟩⟩, fun q => absurd q (by decide)⟩, fun q => absurd (by decide) q⟩
      · rw [if_neg (by decide), if_pos rfl, if_neg (by decide)] at ih
        exact ⟨fun _ => ⟨by omega, fun q => absurd rfl q, fun _ => t_Sca_mostAlike_65 ⟨by omega, fun _ => ⟨by omega, by omega, ih⟩, fun q => absurd (by decide) q⟩⟩, fun q => absurd (by decide) q⟩
      · rw [if_pos rfl, if_neg (by decide), if_neg (by decide)] at ih
        exact ⟨fun q => absurd q (by decide), fun _ => ⟨by omega, fun _ => t_Sca_mostAlike_65 ⟨by omega, fun _ => ⟨by omega, by omega, ih⟩, fun q => absurd (by decide) q⟩, fun q => absurd q (by decide)⟩⟩
    · rw [if_neg w]
      refine ⟨fun _ => ⟨by omega, ?_⟩, fun q => absurd q (by decide)⟩
      simp only [w, false_and, if_false, Int.add_zero] at ih
      exact ih
  exact c_Sca_mostAlike (lp 0 (by decide))
theorem zf_i_st {v : Int → Int → Int} {x c n : Nat} {p : Int × Int} (h : n < c) : zf_i v x (c - n) n p = zf_i v x (c - (n + 1)) (n + 1) (if v x n < p.1 then (v x n, 6 * (x : Int) + n) else p) := by
  rw [show c - n = (c - (n + 1)) + 1 by omega, zf_i]
theorem zf_o_st {v : Int → Int → Int} {c n : Nat} {p : Int × Int} (h : n < c) : zf_o v c (c - n) n p = zf_o v c (c - (n + 1)) (n + 1) (zf_i v n (c - (n + 1)) (n + 1) p) := by
  rw [show c - n = (c - (n + 1)) + 1 by omega, zf_o]
/-- the pairs, on the class's side -/
theorem sp_mostTelling {m : Nat} (hm : m ≤ 6) (hV : zf_V μ V e) (he : e ≤ 4) (ha : ∀ t, a.testBit t = true → t < e) (hl : a < 2147483648) (h : B (if a = 0 then -1 else (zf_o (fun x y => zf_mx a (fun t => zf_sg (V t x) (V t y)) 4) m m 0 (5, -1)).2) μ) : zk_C 67 [.inr (.inr (.inl 7)), .inl (m : Int), .inl (a : Int)] μ (zk_RI B) := by
  refine c_Sca_mostTelling ⟨fun q => ?_, fun q => ?_⟩
  · rw [if_neg (by omega)] at h
    have lp : ∀ n, n ≤ m → (∀ p : Int × Int, zf_o (fun x y => zf_mx a (fun t => zf_sg (V t x) (V t y)) 4) m (m - n) n p = zf_o (fun x y => zf_mx a (fun t => zf_sg (V t x) (V t y)) 4) m m 0 (5, -1) → zk_K 67 14 [.inr (.inr (.inl 7)), .inl (m : Int), .inl (a : Int), .inl p.1, .inl p.2, .inl (n : Int), .inr (.inr (.inr 0)), .inr (.inr (.inr 0))] [] μ (zk_RI B)) := by
      refine zl_up (fun p k => t_Sca_mostTelling_14 ⟨fun _ => ?_, fun q => absurd (Int.le_refl _) q⟩) (fun n hn ih p k => t_Sca_mostTelling_14 ⟨fun q => by omega, fun _ => ⟨by omega, ?_⟩⟩)
      · rw [← k, Nat.sub_self] at h
        exact h
      · rw [zf_o_st hn] at k
        have l2 : ∀ j, j ≤ m → (n + 1 ≤ j → ∀ p : Int × Int, zf_o (fun x y => zf_mx a (fun t => zf_sg (V t x) (V t y)) 4) m (m - (n + 1)) (n + 1) (zf_i (fun x y => zf_mx a (fun t => zf_sg (V t x) (V t y)) 4) n (m - j) j p) = zf_o (fun x y => zf_mx a (fun t => zf_sg (V t x) (V t y)) 4) m m 0 (5, -1) → zk_K 67 26 [.inr (.inr (.inl 7)), .inl (m : Int), .inl (a : Int), .inl p.1, .inl p.2, .inl (n : Int), .inl (j : Int), .inr (.inr (.inr 0))] [] μ (zk_RI B)) := by
          refine zl_up (fun _ p k => t_Sca_mostTelling_26 ⟨fun _ => ⟨by omega, ih p ?_⟩, fun q => absurd (Int.le_refl _) q⟩) (fun j hj ih2 hnj p k => t_Sca_mostTelling_26 ⟨fun q => by omega, fun _ => sp_mostAlike hV he ha hl (by omega) (by omega) (by omega) (by omega) ⟨fun w => ⟨by omega, ih2 (by omega) p ?_⟩, fun w => ⟨by omega, by omega, by omega, ih2 (by omega) (zf_mx a (fun t => zf_sg (V t n) (V t j)) 4, 6 * (n : Int) + j) ?_⟩⟩⟩)
          · rw [Nat.sub_self] at k
            exact k
          · rw [zf_i_st hj, if_neg (by omega)] at k
            exact k
          · rw [zf_i_st hj, if_pos (by omega)] at k
            exact k
        exact l2 (n + 1) hn (Nat.le_refl _) p k
    exact lp 0 (Nat.zero_le _) (5, -1) rfl
  · rw [if_pos (by omega)] at h
    exact h
/-! the reference's *-/
theorem sp_alin {Lw : Nat → Option (List (Int × Int))} {x y w is : Int} (hk : za_ok σ sis) (hs : sis ≤ 6) (h : za_M (μ 61) σ) (he : e ≤ 4) (h3 : μ 61 3 = (e : Int)) (hL : ∀ t : Nat, t < e → zvM μ (t : Int) 0 (0, 1) (Lw t)) (hl : a < 2147483648) (his : -1 ≤ is ∧ is ≤ 1) (hB : ∀ μ', zq zi_lm μ μ' → zk_K 238 6 [.inr (.inr (.inl 60)), .inl (a : Int), .inl x, .inl y, .inl (max w (zf_k a (fun t => zf_sg (zv_veil (Lw t) σ x σ.1.1) (zv_veil (Lw t) σ y σ.1.1)) is e : Nat)), .inl (is + 1), .inr (.inr (.inr 0)), .inr (.inr (.inr 0))] [] μ' (zk_RI B)) : zk_K 238 18 [.inr (.inr (.inl 60)), .inl (a : Int), .inl x, .inl y, .inl w, .inl is, .inl 0, .inl 0] [] μ (zk_RI B) := by
  have lp : ∀ n, n ≤ e → (∀ ν, zq zi_lm μ ν → zk_K 238 18 [.inr (.inr (.inl 60)), .inl (a : Int), .inl x, .inl y, .inl w, .inl is, .inl (zf_k a (fun t => zf_sg (zv_veil (Lw t) σ x σ.1.1) (zv_veil (Lw t) σ y σ.1.1)) is n : Nat), .inl (n : Int)] [] ν (zk_RI B)) := by
    refine zl_up (fun ν z => t_Mod_alike_18 ⟨fun _ => ⟨fun q => ⟨by omega, ?_⟩, fun q => ⟨by omega, ?_⟩⟩, fun q => absurd (by rw [z 61 (by decide), h3]; exact Int.le_refl _) q⟩) (fun n hn ih ν z => ?_)
    · have b := hB ν z
      rw [Int.max_eq_left q] at b
      exact b
    · have b := hB ν z
      rw [Int.max_eq_right (by omega)] at b
      exact b
    · have e61 : ν 61 = μ 61 := z 61 (by decide)
      have l1 := zf_k_le a (fun t => zf_sg (zv_veil (Lw t) σ x σ.1.1) (zv_veil (Lw t) σ y σ.1.1)) is n
      refine t_Mod_alike_18 ⟨fun q => by rw [e61] at q; omega, fun _ => sp_mhas (by omega) hl ?_⟩
      by_cases w : a.testBit n = true
      · rw [if_pos w]
        refine ⟨fun q => absurd q (by decide), fun _ => sp_tells hk hs (by rw [e61]; exact h) (zvM_q (z 63 (by decide)) (hL n hn)) (fun ξ y2 => ?_)⟩
        have i0 := ih ξ (z.tr y2)
        rw [zf_k_s] at i0
        refine ⟨fun q => ⟨by omega, by omega, ?_⟩, fun q => ⟨by omega, by omega, ?_⟩⟩
        · rw [if_neg (fun p => q p.2)] at i0
          exact i0
        · rw [if_pos ⟨w, q⟩] at i0
          exact i0
      · rw [if_neg w]
        have i0 := ih ν z
        rw [zf_k_s, if_neg (fun p => w p.1)] at i0
        exact ⟨fun _ => ⟨by omega, by omega, i0⟩, fun q => absurd rfl q⟩
  exact lp 0 (Nat.zero_le _) μ (zq.rf _ _)
theorem sp_alike {Lw : Nat → Option (List (Int × Int))} {x y : Int} (hk : za_ok σ sis) (hs : sis ≤ 6) (h : za_M (μ 61) σ) (he : e ≤ 4) (h3 : μ 61 3 = (e : Int)) (hL : ∀ t : Nat, t < e → zvM μ (t : Int) 0 (0, 1) (Lw t)) (ha : ∀ t, a.testBit t = true → t < e) (hl : a < 2147483648) (hB : ∀ μ', zq zi_lm μ μ' → B (zf_mx a (fun t => zf_sg (zv_veil (Lw t) σ x σ.1.1) (zv_veil (Lw t) σ y σ.1.1)) 4) μ') : zk_C 238 [.inr (.inr (.inl 60)), .inl (a : Int), .inl x, .inl y] μ (zk_RI B) := by
  have ek : ∀ is, zf_k a (fun t => zf_sg (zv_veil (Lw t) σ x σ.1.1) (zv_veil (Lw t) σ y σ.1.1)) is 4 = zf_k a (fun t => zf_sg (zv_veil (Lw t) σ x σ.1.1) (zv_veil (Lw t) σ y σ.1.1)) is e := fun is => zb_c_ext 4 he (fun j hj => by
    have : a.testBit j = false := by
      cases q : a.testBit j
      · rfl
      · have := ha j q
        omega
    simp [this])
  have cg : ∀ {ν : zk_M}, zq zi_lm μ ν → za_M (ν 61) σ ∧ ν 61 3 = (e : Int) ∧ ∀ t : Nat, t < e → zvM ν (t : Int) 0 (0, 1) (Lw t) := fun z => ⟨by rw [z 61 (by decide)]; exact h, by rw [z 61 (by decide)]; exact h3, fun t ht => zvM_q (z 63 (by decide)) (hL t ht)⟩
  refine c_Mod_alike (t_Mod_alike_6 ⟨fun q => absurd q (by decide), fun _ => sp_alin hk hs h he h3 hL hl (by decide) (fun μ1 z1 => t_Mod_alike_6 ⟨fun q => absurd q (by decide), fun _ => sp_alin hk hs (cg z1).1 he (cg z1).2.1 (cg z1).2.2 hl (by decide) (fun μ2 z2 => t_Mod_alike_6 ⟨fun q => absurd q (by decide), fun _ => sp_alin hk hs (cg (z1.tr z2)).1 he (cg (z1.tr z2)).2.1 (cg (z1.tr z2)).2.2 hl (by decide) (fun μ3 z3 => t_Mod_alike_6 ⟨fun _ => ?_, fun q => absurd (by decide) q⟩)⟩)⟩)⟩)
  have b := hB μ3 (z1.tr (z2.tr z3))
  rw [zf_mx, ek, ek, ek] at b
  rw [show (-1 + 1 + 1 : Int) = 1 from rfl, show (-1 + 1 : Int) = 0 from rfl, zf_m3]
  exact b
theorem sp_nextM {Lw : Nat → Option (List (Int × Int))} {m : Nat} (hm : m ≤ 6) (h0 : μ 61 0 = (m : Int)) (hk : za_ok σ sis) (hs : sis ≤ 6) (h : za_M (μ 61) σ) (he : e ≤ 4) (h3 : μ 61 3 = (e : Int)) (hL : ∀ t : Nat, t < e → zvM μ (t : Int) 0 (0, 1) (Lw t)) (ha : ∀ t, a.testBit t = true → t < e) (hl : a < 2147483648) (hB : ∀ μ', zq zi_lm μ μ' → B (zf_o (fun x y => zf_mx a (fun t => zf_sg (zv_veil (Lw t) σ x σ.1.1) (zv_veil (Lw t) σ y σ.1.1)) 4) m m 0 (5, -1)).2 μ') : zk_K 239 18 [.inr (.inr (.inl 60)), .inl (a : Int), .inl (-1), .inl 5, .inl 0, .inr (.inr (.inr 0)), .inr (.inr (.inr 0))] [] μ (zk_RI B) := by
  have cg : ∀ {ν : zk_M}, zq zi_lm μ ν → za_M (ν 61) σ ∧ ν 61 3 = (e : Int) ∧ (∀ t : Nat, t < e → zvM ν (t : Int) 0 (0, 1) (Lw t)) ∧ ν 61 0 = (m : Int) := fun z => ⟨by rw [z 61 (by decide)]; exact h, by rw [z 61 (by decide)]; exact h3, fun t ht => zvM_q (z 63 (by decide)) (hL t ht), by rw [z 61 (by decide)]; exact h0⟩
  have lp : ∀ n, n ≤ m → (∀ (p : Int × Int) (ν : zk_M), zq zi_lm μ ν → zf_o (fun x y => zf_mx a (fun t => zf_sg (zv_veil (Lw t) σ x σ.1.1) (zv_veil (Lw t) σ y σ.1.1)) 4) m (m - n) n p = zf_o (fun x y => zf_mx a (fun t => zf_sg (zv_veil (Lw t) σ x σ.1.1) (zv_veil (Lw t) σ y σ.1.1)) 4) m m 0 (5, -1) → zk_K 239 18 [.inr (.inr (.inl 60)), .inl (a : Int), .inl p.2, .inl p.1, .inl (n : Int), .inr (.inr (.inr 0)), .inr (.inr (.inr 0))] [] ν (zk_RI B)) := by
    refine zl_up (fun p ν z k => t_Mod_next_18 ⟨fun _ => ?_, fun q => absurd (by rw [(cg z).2.2.2]; exact Int.le_refl _) q⟩) (fun n hn ih p ν z k => t_Mod_next_18 ⟨fun q => by have := (cg z).2.2.2; omega, fun _ => ⟨by omega, ?_⟩⟩)
    · have b := hB ν z
      rw [← k, Nat.sub_self] at b
      exact b
    · rw [zf_o_st hn] at k
      have l2 : ∀ j, j ≤ m → (n + 1 ≤ j → ∀ (p : Int × Int) (ν : zk_M), zq zi_lm μ ν → zf_o (fun x y => zf_mx a (fun t => zf_sg (zv_veil (Lw t) σ x σ.1.1) (zv_veil (Lw t) σ y σ.1.1)) 4) m (m - (n + 1)) (n + 1) (zf_i (fun x y => zf_mx a (fun t => zf_sg (zv_veil (Lw t) σ x σ.1.1) (zv_veil (Lw t) σ y σ.1.1)) 4) n (m - j) j p) = zf_o (fun x y => zf_mx a (fun t => zf_sg (zv_veil (Lw t) σ x σ.1.1) (zv_veil (Lw t) σ y σ.1.1)) 4) m m 0 (5, -1) → zk_K 239 35 [.inr (.inr (.inl 60)), .inl (a : Int), .inl p.2, .inl p.1, .inl (n : Int), .inl (j : Int), .inr (.inr (.inr 0))] [] ν (zk_RI B)) := by
        refine zl_up (fun _ p ν z k => t_Mod_next_35 ⟨fun _ => ⟨by omega, ih p ν z ?_⟩, fun q => absurd (by rw [(cg z).2.2.2]; exact Int.le_refl _) q⟩) (fun j hj ih2 hnj p ν z k => t_Mod_next_35 ⟨fun q => by have := (cg z).2.2.2; omega, fun _ => sp_alike (Lw := Lw) hk hs (cg z).1 he (cg z).2.1 (cg z).2.2.1 ha hl (fun ξ y => ⟨fun w => ⟨by omega, by omega, by omega, ih2 (by omega) (zf_mx a (fun t => zf_sg (zv_veil (Lw t) σ n σ.1.1) (zv_veil (Lw t) σ j σ.1.1)) 4, 6 * (n : Int) + j) ξ (z.tr y) ?_⟩, fun w => ⟨by omega, ih2 (by omega) p ξ (z.tr y) ?_⟩⟩)⟩)
        · rw [Nat.sub_self] at k
          exact k
        · rw [zf_i_st hj, if_pos (by omega)] at k
          exact k
        · rw [zf_i_st hj, if_neg (by omega)] at k
          exact k
      exact l2 (n + 1) hn (Nat.le_refl _) p ν z k
  exact lp 0 (Nat.zero_le _) (5, -1) μ (zq.rf _ _) rfl
end
/-- the weighing laws of all texts -/
theorem zi_lawsW {μ : zk_M} (hi : zi μ) : ∃ Lw : Nat → Option (List (Int × Int)), ∀ t : Nat, (t : Int) < μ 61 3 → zvC μ (t : Int) (Lw t) ∧ zvM μ (t : Int) 0 (0, 1) (Lw t) := by
  have h : ∀ t : Nat, ∃ L, (t : Int) < μ 61 3 → zvC μ (t : Int) L ∧ zvM μ (t : Int) 0 (0, 1) L := fun t => by
    by_cases q : (t : Int) < μ 61 3
    · obtain ⟨Lw, Lg, l1, l2, l3, l4⟩ := zi_laws hi (x := (t : Int)) ⟨by omega, q⟩
      exact ⟨Lw, fun _ => ⟨l1, l3⟩⟩
    · exact ⟨none, fun p => absurd p q⟩
  exact ⟨fun t => Classical.choose (h t), fun t => Classical.choose_spec (h t)⟩
theorem zo_fits : zo 140 237 [] := fun μ hi => by
  obtain ⟨⟨s1, s2, s3⟩, ⟨t1, t2, t3⟩, ⟨r1, r2, r3⟩, ⟨σ, c1, c2, hk⟩, td1, td2, td3, td4⟩ := hi.1
  obtain ⟨Lw, hL⟩ := zi_lawsW hi
  obtain ⟨e, he⟩ := Int.eq_ofNat_of_zero_le t2
  obtain ⟨c, hc⟩ := Int.eq_ofNat_of_zero_le td2
  have he4 : e ≤ 4 := by omega
  refine c_Vos_fits (sp_weigh (Lw := Lw) (e := e) hk s3 c1 he4 (by rw [t1]; exact he) (fun t ht => (hL t (by omega)).1) (fun μ1 z1 g1 => ?_))
  have e61 : μ1 61 = μ 61 := z1 61 (by decide)
  rw [show μ1 2 1 = (e : Int) by rw [z1 2 (by decide), t1]; exact he]
  refine sp_fitting (T := fun i => (μ 61 (10 + 3 * i), μ 61 (11 + 3 * i), μ 61 (12 + 3 * i))) (c := c) g1 he4 ⟨by omega, fun i hi => ?_⟩ ?_ (fun i hi => ?_) ⟨z1 0 (by decide), sp_fitsM (T := fun i => (μ 61 (10 + 3 * i), μ 61 (11 + 3 * i), μ 61 (12 + 3 * i))) (c := c) (e := e) (Lw := Lw) hk s3 (by rw [e61]; exact c2) he4 (by rw [e61]; exact he) (fun t ht => zvM_q (z1 63 (by decide)) (hL t (by omega)).2) (by omega) (by rw [e61]; exact hc) (fun i hi => by rw [e61]; exact ⟨rfl, rfl, rfl⟩) (fun μ2 z2 => ⟨rfl, zi_scq ((z1.up (by decide)).tr (z2.up (by decide))) hi, ?_⟩)⟩
  · have := td4 i (by omega)
    simp only
    omega
  · rw [z1 7 (by decide)]
    exact td1.trans hc
  · have := td4 i (by omega)
    rw [z1 8 (by decide), z1 9 (by decide), z1 10 (by decide)]
    exact ⟨this.1, this.2.1, this.2.2.1⟩
  · rw [z2 0 (by decide), z1 0 (by decide)]
theorem zo_next : zo 141 239 [] := fun μ hi => by
  obtain ⟨⟨s1, s2, s3⟩, ⟨t1, t2, t3⟩, ⟨r1, r2, r3⟩, ⟨σ, c1, c2, hk⟩, td1, td2, td3, td4⟩ := hi.1
  obtain ⟨Lw, hL⟩ := zi_lawsW hi
  obtain ⟨e, he⟩ := Int.eq_ofNat_of_zero_le t2
  obtain ⟨c, hc⟩ := Int.eq_ofNat_of_zero_le td2
  obtain ⟨m, hm⟩ := Int.eq_ofNat_of_zero_le s2
  have he4 : e ≤ 4 := by omega
  refine c_Vos_next (sp_weigh (Lw := Lw) (e := e) hk s3 c1 he4 (by rw [t1]; exact he) (fun t ht => (hL t (by omega)).1) (fun μ1 z1 g1 => ?_))
  have e61 : μ1 61 = μ 61 := z1 61 (by decide)
  rw [show μ1 2 1 = (e : Int) by rw [z1 2 (by decide), t1]; exact he, show μ1 2 0 = (m : Int) by rw [z1 2 (by decide), s1]; exact hm]
  have hbit : ∀ t, (zb_t (fun t => zf_al (zf_f (fun t s => zv_veil (Lw t) σ s σ.1.1) (fun i => (μ 61 (10 + 3 * i), μ 61 (11 + 3 * i), μ 61 (12 + 3 * i))) t) c 0) e).testBit t = true → t < e := fun t ht => by
    rw [zb_t_bit] at ht
    simp at ht
    exact ht.1
  have hlt : zb_t (fun t => zf_al (zf_f (fun t s => zv_veil (Lw t) σ s σ.1.1) (fun i => (μ 61 (10 + 3 * i), μ 61 (11 + 3 * i), μ 61 (12 + 3 * i))) t) c 0) e < 2147483648 := Nat.lt_trans (zb_t_le30 (by omega)) (by decide)
  refine sp_fitting (T := fun i => (μ 61 (10 + 3 * i), μ 61 (11 + 3 * i), μ 61 (12 + 3 * i))) (c := c) g1 he4 ⟨by omega, fun i hi => ?_⟩ ?_ (fun i hi => ?_) (sp_mostTelling (m := m) (by omega) g1 he4 hbit hlt ⟨z1 0 (by decide), c_Mod_next (sp_fitsM (T := fun i => (μ 61 (10 + 3 * i), μ 61 (11 + 3 * i), μ 61 (12 + 3 * i))) (c := c) (e := e) (Lw := Lw) hk s3 (by rw [e61]; exact c2) he4 (by rw [e61]; exact he) (fun t ht => zvM_q (z1 63 (by decide)) (hL t (by omega)).2) (by omega) (by rw [e61]; exact hc) (fun i hi => by rw [e61]; exact ⟨rfl, rfl, rfl⟩) (fun μ2 z2 => ?_))⟩)
  · have := td4 i (by omega)
    simp only
    omega
  · rw [z1 7 (by decide)]
    exact td1.trans hc
  · have := td4 i (by omega)
    rw [z1 8 (by decide), z1 9 (by decide), z1 10 (by decide)]
    exact ⟨this.1, this.2.1, this.2.2.1⟩
  · have f61 : μ2 61 = μ 61 := (z2 61 (by decide)).trans e61
    refine ⟨fun q => ?_, fun q => ?_⟩
    · rw [if_neg (by omega)]
      refine sp_nextM (Lw := Lw) (e := e) (m := m) (by omega) (by rw [f61]; exact hm) hk s3 (by rw [f61]; exact c2) he4 (by rw [f61]; exact he) (fun t ht => zvM_q ((z2 63 (by decide)).trans (z1 63 (by decide))) (hL t (by omega)).2) hbit hlt (fun μ3 z3 => ⟨rfl, zi_scq ((z1.up (by decide)).tr ((z2.tr z3).up (by decide))) hi, ?_⟩)
      rw [z3 0 (by decide), z2 0 (by decide), z1 0 (by decide)]
    · rw [if_pos (by omega)]
      refine ⟨rfl, zi_scq ((z1.up (by decide)).tr (z2.up (by decide))) hi, ?_⟩
      rw [z2 0 (by decide), z1 0 (by decide)]
