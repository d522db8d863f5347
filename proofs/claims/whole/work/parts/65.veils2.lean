/-! the weight of a veil on the class's side *-/
def zi_lv : List Nat := [24, 25, 29, 33, 37, 41]
section
variable {μ : zk_M} {BV : zk_M → Prop} {B : Int → zk_M → Prop} {σ : za_S} {sis : Int}
theorem sp_weighVeils {x : Int} {L : Option (List (Int × Int))} (hk : za_ok σ sis) (hs : sis ≤ 6) (h : za_C μ 4 σ) (hL : zvC μ x L) (hB : ∀ μ', zq zi_lv μ μ' → (∀ s : Int, 0 ≤ s → s < 6 → μ' 25 s = zv_veil L σ s σ.1.1) → BV μ') : zk_C 17 [.inr (.inr (.inl 22)), .inl x, .inr (.inr (.inl 3))] μ (zk_RV BV) := by
  have hc30 := hk.1.1
  have lp : ∀ n, n ≤ σ.1.1 → (∀ ν, zq zi_lv μ ν → (∀ s : Int, 0 ≤ s → s < 6 → ν 25 s = zv_veil L σ s n) → zk_K 17 23 [.inr (.inr (.inl 22)), .inl x, .inr (.inr (.inl 3)), .inl (n : Int), .inr (.inr (.inr 0))] [] ν (zk_RV BV)) := by
    refine zl_up (fun ν z g => t_Law_weighVeils_23 (c_Sto_count ⟨fun _ => hB ν z g, fun q => absurd (by rw [z 4 (by decide), za_C_c h]; exact Int.le_refl _) q⟩)) (fun n hn ih ν z g => ?_)
    have hC : za_C ν 4 σ := za_C_cg (z _ (by decide)) (z _ (by decide)) (z _ (by decide)) h
    have hcc := za_C_c hC
    have hw := hk.1.2.2.1 n hn
    have hwr := zv_w_r (L := L) hk hn
    unfold za_w1 at hw
    have es : ∀ s, zv_veil L σ s (n + 1) = zv_veil L σ s n + (if (σ.1.2.2 n).2.2.1 = s then zv_w L σ n else 0) := fun s => rfl
    refine t_Law_weighVeils_23 (c_Sto_count ⟨fun q => by omega, fun _ => za_plC hk hC (by omega) (by omega) ?_⟩)
    rw [Int.toNat_natCast]
    refine ⟨fun q => by omega, fun q => ⟨fun p => ⟨by omega, ih ν z (fun s s0 s6 => ?_)⟩, fun p => ⟨by omega, sp_weightC hk hs hC (by omega) (by omega) (zvC_q (fun c hc => z c (by simp [zi_lv]; omega)) hL) (fun ξ y => ?_)⟩⟩⟩
    · rw [g s s0 s6, es, if_neg (by omega)]
      omega
    · rw [Int.toNat_natCast]
      have hr := zv_veil_r (L := L) hk (σ.1.2.2 n).2.2.1 (Nat.le_of_lt hn)
      have g0 := g (σ.1.2.2 n).2.2.1 (by omega) (by omega)
      rw [g0]
      refine ⟨by show _ ≤ _ + zv_w L σ n ∧ _ + zv_w L σ n ≤ _; omega, by omega, by omega, ih _ ((z.tr (y.up (by decide))).set (by decide) _ _) (fun s s0 s6 => ?_)⟩
      rw [es]
      by_cases e : s = (σ.1.2.2 n).2.2.1
      · rw [e, zk_set_s, if_pos rfl]
        rfl
      · rw [zk_set_n e, y 25 (by decide), g s s0 s6, if_neg (fun w => e w.symm)]
        omega
  have l0 : ∀ n : Nat, n ≤ 6 → (∀ ν, zq zi_lv μ ν → (∀ s : Int, 0 ≤ s → s < n → ν 25 s = 0) → zk_K 17 2 [.inr (.inr (.inl 22)), .inl x, .inr (.inr (.inl 3)), .inl (n : Int), .inr (.inr (.inr 0))] [] ν (zk_RV BV)) := by
    refine zl_up (P := fun n => ∀ ν, zq zi_lv μ ν → (∀ s : Int, 0 ≤ s → s < n → ν 25 s = 0) → zk_K 17 2 [.inr (.inr (.inl 22)), .inl x, .inr (.inr (.inl 3)), .inl (n : Int), .inr (.inr (.inr 0))] [] ν (zk_RV BV)) (fun ν z g => t_Law_weighVeils_2 ⟨fun _ => lp 0 (Nat.zero_le _) ν z (fun s s0 s6 => g s s0 s6), fun q => absurd (by decide) q⟩) (fun n hn ih ν z g => t_Law_weighVeils_2 ⟨fun q => by omega, fun _ => ⟨by omega, by omega, ih _ (z.set (by decide) _ _) (fun s s0 s6 => ?_)⟩⟩)
    by_cases e : s = n
    · rw [zk_set_e e]
    · rw [zk_set_n e]
      exact g s s0 (by omega)
  exact c_Law_weighVeils (l0 0 (by decide) μ (zq.rf _ _) (fun s s0 s6 => by omega))
theorem sp_veilOf {s : Int} (h0 : 0 ≤ s) (h6 : s < 6) (h : B (μ 25 s) μ) : zk_C 18 [.inr (.inr (.inl 22)), .inl s] μ (zk_RI B) :=
  c_Law_veilOf ⟨fun q => by omega, fun _ => ⟨fun q => by omega, fun _ => ⟨by omega, h⟩⟩⟩
end
