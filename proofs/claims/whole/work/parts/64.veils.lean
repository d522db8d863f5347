/-! the weight of a veil *-/
def zs_sum (f : Nat → Int) : Nat → Int
  | 0 => 0
  | n + 1 => zs_sum f n + f n
theorem zs_sum_cg {f g : Nat → Int} : ∀ n, (∀ i, i < n → f i = g i) → zs_sum f n = zs_sum g n
  | 0, _ => rfl
  | n + 1, h => by rw [zs_sum, zs_sum, zs_sum_cg n (fun i hi => h i (by omega)), h n (by omega)]
theorem zs_sum_r {f : Nat → Int} {m : Int} (hm : 0 ≤ m) : ∀ n, (∀ i, i < n → 0 ≤ f i ∧ f i ≤ m) → 0 ≤ zs_sum f n ∧ zs_sum f n ≤ m * n
  | 0, _ => by simp [zs_sum]
  | n + 1, h => by
    have a := zs_sum_r hm n (fun i hi => h i (by omega))
    have b := h n (by omega)
    have e : m * ((n + 1 : Nat) : Int) = m * (n : Int) + m := by rw [Int.natCast_add, Int.mul_add]; simp
    rw [zs_sum, e]
    omega
def zv_w (L : Option (List (Int × Int))) (σ : za_S) (n : Nat) : Int := zv_wt L (σ.1.2.2 n) σ.1.2.1 n
def zv_veil (L : Option (List (Int × Int))) (σ : za_S) (s : Int) (c : Nat) : Int := zs_sum (fun n => if (σ.1.2.2 n).2.2.1 = s then zv_w L σ n else 0) c
def zv_set (L : Option (List (Int × Int))) (σ : za_S) (a : Nat) (c : Nat) : Int := zs_sum (fun n => if a.testBit n then zv_w L σ n else 0) c
theorem zv_w_r {L : Option (List (Int × Int))} {σ : za_S} {sis : Int} (hk : za_ok σ sis) {n : Nat} (hn : n < σ.1.1) : 0 ≤ zv_w L σ n ∧ zv_w L σ n ≤ 99 := zv_wt_r (hk.1.2.2.1 n hn)
theorem zv_veil_r {L : Option (List (Int × Int))} {σ : za_S} {sis : Int} (hk : za_ok σ sis) (s : Int) {n : Nat} (hn : n ≤ σ.1.1) : 0 ≤ zv_veil L σ s n ∧ zv_veil L σ s n ≤ 99 * n := zs_sum_r (by decide) n (fun i hi => by
  have := zv_w_r (L := L) hk (n := i) (by omega)
  split <;> omega)
theorem zv_set_r {L : Option (List (Int × Int))} {σ : za_S} {sis : Int} (hk : za_ok σ sis) (a : Nat) {n : Nat} (hn : n ≤ σ.1.1) : 0 ≤ zv_set L σ a n ∧ zv_set L σ a n ≤ 99 * n := zs_sum_r (by decide) n (fun i hi => by
  have := zv_w_r (L := L) hk (n := i) (by omega)
  split <;> omega)
section
variable {μ : zk_M} {BV : zk_M → Prop} {B : Int → zk_M → Prop} {σ : za_S} {sis : Int}
theorem sp_weightOf {x : Int} {a : Nat} {L : Option (List (Int × Int))} (hk : za_ok σ sis) (hs : sis ≤ 6) (h : za_M (μ 61) σ) (ha : a < 2147483648) (hL : zvM μ x 0 (0, 1) L) (hB : ∀ μ', zq zi_lm μ μ' → B (zv_set L σ a σ.1.1) μ') : zk_C 202 [.inr (.inr (.inl 60)), .inl x, .inl (a : Int)] μ (zk_RI B) := by
  have hc30 := hk.1.1
  have lp : ∀ n, n ≤ σ.1.1 → (∀ ν, zq zi_lm μ ν → zk_K 202 5 [.inr (.inr (.inl 60)), .inl x, .inl (a : Int), .inl (zv_set L σ a n), .inl (n : Int)] [] ν (zk_RI B)) := by
    refine zl_up (fun ν z => t_Mod_weightOf_5 ⟨fun _ => hB ν z, fun q => absurd (by rw [z 61 (by decide)]; exact Int.le_of_eq h.1) q⟩) (fun n hn ih ν z => ?_)
    have hM : za_M (ν 61) σ := by rw [z 61 (by decide)]; exact h
    have hc := hM.1
    have hw := zv_w_r (L := L) hk hn
    have hr := zv_set_r (L := L) hk a (Nat.le_of_lt hn)
    have es : zv_set L σ a (n + 1) = zv_set L σ a n + (if a.testBit n then zv_w L σ n else 0) := rfl
    refine t_Mod_weightOf_5 ⟨fun q => by omega, fun _ => sp_mhas (by omega) ha ?_⟩
    by_cases q : a.testBit n = true
    · rw [q]
      refine ⟨fun e => absurd e (by decide), fun _ => sp_weightM hk hs hM (by omega) (by omega) (zvM_q (z 63 (by decide)) hL) (fun ξ y => ?_)⟩
      rw [Int.toNat_natCast]
      refine ⟨by show _ ≤ _ + zv_w L σ n ∧ _ + zv_w L σ n ≤ _; omega, by omega, ?_⟩
      have := ih ξ (z.tr y)
      rw [es, if_pos q] at this
      exact this
    · rw [if_neg q]
      refine ⟨fun _ => ⟨by omega, by omega, ?_⟩, fun e => absurd rfl e⟩
      have := ih ν z
      rw [es, if_neg q] at this
      exact this
  exact c_Mod_weightOf (lp 0 (Nat.zero_le _) μ (zq.rf _ _))
theorem zv_set_mof {L : Option (List (Int × Int))} {g : zk_M} (h : za_M (g 61) σ) (s : Int) : zv_set L σ (zs_mof g s σ.1.1) σ.1.1 = zv_veil L σ s σ.1.1 := zs_sum_cg _ (fun i hi => by
  have w := h.2.2.1 i hi
  have w3 : g 61 (48 + 4 * (i : Int)) = (σ.1.2.2 i).2.2.1 := congrArg (fun t : za_W => t.2.2.1) w
  unfold zs_mof
  rw [zb_t_bit]
  simp only [hi, decide_true, Bool.true_and, w3]
  by_cases q : (σ.1.2.2 i).2.2.1 = s
  · simp [q]
  · simp [q])
theorem sp_veilBy {x s : Int} {L : Option (List (Int × Int))} (hk : za_ok σ sis) (hs : sis ≤ 6) (h : za_M (μ 61) σ) (hL : zvM μ x 0 (0, 1) L) (hB : ∀ μ', zq zi_lm μ μ' → B (zv_veil L σ s σ.1.1) μ') : zk_C 203 [.inr (.inr (.inl 60)), .inl x, .inl s] μ (zk_RI B) := by
  refine c_Mod_veilBy (sp_stonesOf h.1 hk.1.1 (sp_weightOf hk hs h (Nat.lt_trans (zb_t_le30 hk.1.1) (by decide)) hL (fun ν z => ?_)))
  rw [zv_set_mof h]
  exact hB ν z
end
