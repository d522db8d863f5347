/-! spread *-/
def zs_lo (f : Nat → Int) : Nat → Int
  | 0 => f 0
  | n + 1 => min (zs_lo f n) (f (n + 1))
def zs_hi (f : Nat → Int) : Nat → Int
  | 0 => f 0
  | n + 1 => max (zs_hi f n) (f (n + 1))
/-- greatest and least of n numbers apart -/
def zs_sp (f : Nat → Int) (n : Nat) : Int := if n = 0 then 0 else zs_hi f (n - 1) - zs_lo f (n - 1)
theorem zs_lh {f : Nat → Int} {m : Int} (h : ∀ n, 0 ≤ f n ∧ f n ≤ m) : ∀ n, (0 ≤ zs_lo f n ∧ zs_lo f n ≤ m) ∧ (0 ≤ zs_hi f n ∧ zs_hi f n ≤ m)
  | 0 => ⟨h 0, h 0⟩
  | n + 1 => by
    have a := zs_lh h n
    have b := h (n + 1)
    simp only [zs_lo, zs_hi]
    omega
def zi_lw : List Nat := [66, 67, 68, 69, 70]
section
variable {μ : zk_M} {BV : zk_M → Prop} {B : Int → zk_M → Prop} {σ : za_S} {sis : Int}
theorem sp_findWeights {L : Option (List (Int × Int))} (hk : za_ok σ sis) (hs : 0 ≤ sis ∧ sis ≤ 6) (h0 : μ 61 0 = sis) (h : za_M (μ 61) σ) (hL : zvM μ (μ 61 4) 0 (0, 1) L) (hB : ∀ μ', zq zi_lw μ μ' → (∀ s : Int, 0 ≤ s → s < sis → μ' 69 s = zv_veil L σ s σ.1.1 ∧ μ' 70 s = (za_n σ s : Nat)) → BV μ') : zk_C 219 [.inr (.inr (.inl 60))] μ (zk_RV BV) := by
  obtain ⟨e, he⟩ := Int.eq_ofNat_of_zero_le hs.1
  have lp : ∀ n, n ≤ e → (∀ ν, zq zi_lw μ ν → (∀ s : Int, 0 ≤ s → s < (n : Int) → ν 69 s = zv_veil L σ s σ.1.1 ∧ ν 70 s = (za_n σ s : Nat)) → zk_K 219 2 [.inr (.inr (.inl 60)), .inl (n : Int)] [] ν (zk_RV BV)) := by
    refine zl_up (fun ν z g => t_Mod_findWeights_2 ⟨fun _ => hB ν z (fun s a b => g s a (by omega)), fun q => absurd (by rw [z 61 (by decide), h0, he]; exact Int.le_refl _) q⟩) (fun n hn ih ν z g => ?_)
    have e61 : ν 61 = μ 61 := z 61 (by decide)
    refine t_Mod_findWeights_2 ⟨fun q => by rw [e61] at q; omega, fun _ => sp_veilBy hk hs.2 (by rw [e61]; exact h) (by rw [e61]; exact zvM_q (z 63 (by decide)) hL) (fun ξ y => ⟨by omega, ?_⟩)⟩
    have x61 : zk_set ξ 69 (n : Int) (zv_veil L σ (n : Int) σ.1.1) 61 = μ 61 := by rw [zk_set_o (by decide), y 61 (by decide), e61]
    refine sp_stonesOf (by rw [x61]; exact h.1) hk.1.1 (sp_mbits hk.1.1 ⟨by omega, by omega, ih _ (((z.tr (y.up (by decide))).set (by decide) _ _).set (by decide) _ _) (fun s a b => ?_)⟩)
    have en : zb_c (fun j => zk_set ξ 69 (n : Int) (zv_veil L σ (n : Int) σ.1.1) 61 (48 + 4 * j) == (n : Int)) σ.1.1 = za_n σ n := by rw [x61]; exact za_M_n h n
    by_cases q : s = n
    · rw [q, zk_set_o (by decide), zk_set_s, zk_set_s, en]
      exact ⟨rfl, rfl⟩
    · rw [zk_set_n q, zk_set_n q, zk_set_n q, zk_set_n q, y 69 (by decide), y 70 (by decide)]
      exact g s a (by omega)
  exact c_Mod_findWeights (lp 0 (Nat.zero_le _) μ (zq.rf _ _) (fun s a b => by omega))
theorem sp_spreadNow {f : Nat → Int} {e : Nat} (he : e ≤ 6) (hf : ∀ n, 0 ≤ f n ∧ f n ≤ 10000) (h0 : μ 61 0 = (e : Int)) (hw : ∀ n, n < e → μ 69 (n : Int) = f n) (hB : B (zs_sp f e) μ) : zk_C 220 [.inr (.inr (.inl 60))] μ (zk_RI B) := by
  refine c_Mod_spreadNow ⟨fun q => ?_, fun q => ?_⟩
  · obtain ⟨m, rfl⟩ : ∃ m, e = m + 1 := ⟨e - 1, by omega⟩
    have lp : ∀ n, n ≤ m → zk_K 220 27 [.inr (.inr (.inl 60)), .inl (zs_lo f n), .inl (zs_hi f n), .inl ((n : Int) + 1)] [] μ (zk_RI B) := by
      refine zl_up (t_Mod_spreadNow_27 ⟨fun _ => ?_, fun q => absurd (by rw [h0]; push_cast; exact Int.le_refl _) q⟩) (fun n hn ih => ?_)
      · have := zs_lh hf m
        exact ⟨by omega, hB⟩
      · have w := hw (n + 1) (by omega)
        rw [show (((n + 1 : Nat) : Int)) = (n : Int) + 1 by push_cast; rfl] at w
        have i1 : zk_K 220 27 [.inr (.inr (.inl 60)), .inl (min (zs_lo f n) (f (n + 1))), .inl (max (zs_hi f n) (f (n + 1))), .inl (((n : Int) + 1) + 1)] [] μ (zk_RI B) := ih
        refine t_Mod_spreadNow_27 ⟨fun q => by omega, fun _ => ?_⟩
        rw [w]
        refine ⟨by omega, fun a => ⟨by omega, fun b => ⟨by omega, ?_⟩, fun b => ⟨by omega, by omega, ?_⟩⟩, fun a => ⟨by omega, by omega, fun b => ⟨by omega, ?_⟩, fun b => ⟨by omega, by omega, ?_⟩⟩⟩
        · rw [Int.min_eq_left a, Int.max_eq_left b] at i1
          exact i1
        · rw [Int.min_eq_left a, Int.max_eq_right (by omega)] at i1
          exact i1
        · rw [Int.min_eq_right (by omega), Int.max_eq_left b] at i1
          exact i1
        · rw [Int.min_eq_right (by omega), Int.max_eq_right (by omega)] at i1
          exact i1
    have l0 := lp 0 (Nat.zero_le _)
    have w0 := hw 0 (by omega)
    rw [show ((0 : Nat) : Int) = (0 : Int) from rfl] at w0
    rw [w0]
    exact l0
  · have : e = 0 := by omega
    subst this
    exact hB
end
