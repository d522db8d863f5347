theorem zo_spread : zo 133 221 [] := fun μ hi => by
  obtain ⟨⟨s1, s2, s3⟩, t, ⟨r1, r2, r3⟩, ⟨σ, c1, c2, hk⟩, _⟩ := hi.1
  obtain ⟨Lw, Lg, l1, l2, l3, l4⟩ := zi_laws hi (x := μ 61 4) ⟨r2, r3⟩
  obtain ⟨e, he⟩ := Int.eq_ofNat_of_zero_le s2
  have hf : ∀ n : Nat, 0 ≤ zv_veil Lw σ (n : Int) σ.1.1 ∧ zv_veil Lw σ (n : Int) σ.1.1 ≤ 10000 := fun n => by
    have := zv_veil_r (L := Lw) hk (n : Int) (Nat.le_refl σ.1.1)
    have := hk.1.1
    omega
  refine c_Vos_spread (sp_weighVeils hk s3 c1 (by rw [r1]; exact l1) (fun μ1 z1 g1 => sp_veilOf (by decide) (by decide) ?_))
  rw [g1 0 (by decide) (by decide)]
  have fin : (fun r1 μ1 => μ1 0 = μ 0 ∧ zk_C 221 (.inr (.inr (.inl 60)) :: []) μ1 (zk_RI fun r2 μ2 => r1 = r2 ∧ zi μ2 ∧ μ2 0 = μ 0)) (zs_sp (fun n => zv_veil Lw σ (n : Int) σ.1.1) e) μ1 := by
    have e61 : μ1 61 = μ 61 := z1 61 (by decide)
    refine ⟨z1 0 (by decide), c_Mod_spread (sp_findWeights (sis := μ 61 0) hk ⟨s2, s3⟩ (by rw [e61]) (by rw [e61]; exact c2) (by rw [e61]; exact zvM_q (z1 63 (by decide)) l3) (fun μ2 z2 g2 => sp_spreadNow (e := e) (by omega) hf (by rw [z2 61 (by decide), e61, he]) (fun n hn => (g2 n (by omega) (by omega)).1) ⟨rfl, zi_scq ((z1.up (by decide)).tr (z2.up (by decide))) hi, ?_⟩))⟩
    rw [z2 0 (by decide), z1 0 (by decide)]
  have h20 : μ1 2 0 = (e : Int) := by rw [z1 2 (by decide), s1, he]
  by_cases q : e = 0
  · subst q
    have : zs_sp (fun n => zv_veil Lw σ (n : Int) σ.1.1) 0 = 0 := rfl
    rw [this] at fin
    refine t_Vos_spread_34 ⟨fun _ => ?_, fun q => absurd (by rw [h20]; decide) q⟩
    rw [Int.sub_self]
    exact ⟨by decide, fin⟩
  · obtain ⟨m, rfl⟩ : ∃ m, e = m + 1 := ⟨e - 1, by omega⟩
    have lp : ∀ n, n ≤ m → zk_K 133 34 [.inr (.inr (.inl 1)), .inl (zs_lo (fun n => zv_veil Lw σ (n : Int) σ.1.1) n), .inl (zs_hi (fun n => zv_veil Lw σ (n : Int) σ.1.1) n), .inl ((n : Int) + 1)] [] μ1 (zk_RI fun r1 μ1 => μ1 0 = μ 0 ∧ zk_C 221 (.inr (.inr (.inl 60)) :: []) μ1 (zk_RI fun r2 μ2 => r1 = r2 ∧ zi μ2 ∧ μ2 0 = μ 0)) := by
      refine zl_up (t_Vos_spread_34 ⟨fun _ => ?_, fun q => absurd (by rw [h20]; push_cast; exact Int.le_refl _) q⟩) (fun n hn ih => t_Vos_spread_34 ⟨fun q => by omega, fun _ => sp_veilOf (by omega) (by omega) (sp_veilOf (by omega) (by omega) ⟨by omega, ?_⟩)⟩)
      · have := zs_lh hf m
        exact ⟨by omega, fin⟩
      · rw [g1 ((n : Int) + 1) (by omega) (by omega)]
        exact ih
    exact lp 0 (Nat.zero_le _)
