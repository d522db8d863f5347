/-! the law's loop *-/
theorem zl_arm {cm rm : Nat} {as : List zk_V} {μ : zk_M} {KK QQ : zk_M → Prop} {G : Int → zk_M → Prop} (ho : zo cm rm as) (hi : zi μ) (hk : ∀ μ', zi μ' → μ' 0 = μ 0 → KK μ') (hG : ∀ r μ1, μ1 0 = μ 0 → zk_C rm (.inr (.inr (.inl 60)) :: as) μ1 (zk_RI fun r8 μ7 => (r = r8 → KK μ7) ∧ (¬ r = r8 → QQ μ7)) → G r μ1) : zk_C cm (.inr (.inr (.inl 1)) :: as) μ (zk_RI G) :=
  zk_iI (ho μ hi) (fun r μ1 h => hG r μ1 h.1 (zk_iI h.2 (fun r2 μ2 q => ⟨fun _ => hk μ2 q.2.1 q.2.2, fun w => absurd q.1 w⟩)))
theorem zl_loop {S0 : Int → Int} (h0 : 0 ≤ S0 (-1)) (h9 : S0 (-1) ≤ 3072) : ∀ (n : Nat) (x3 : Int) (μ : zk_M), zi μ → μ 0 = S0 → 0 ≤ x3 → x3 ≤ 4000 → S0 (-1) - x3 ≤ 6 * n → zk_K 258 18 [.inr (.inr (.inr 2)), .inr (.inr (.inl 1)), .inr (.inr (.inl 60)), .inl x3] [] μ (zk_RI fun r _ => r = 1) := by
  intro n
  induction n with
  | zero =>
    intro x3 μ hi hS hx hx9 hn
    refine t_law_18 ?_
    rw [hS]
    exact ⟨by omega, fun _ => rfl, fun q => by omega⟩
  | succ n ih =>
    intro x3 μ hi hS hx hx9 hn
    refine t_law_18 ?_
    have hk : S0 (-1) - 6 ≥ x3 → ∀ μ', zi μ' → μ' 0 = μ 0 → zk_K 258 910 [.inr (.inr (.inr 2)), .inr (.inr (.inl 1)), .inr (.inr (.inl 60)), .inl x3] [] μ' (zk_RI fun r _ => r = 1) := fun hl μ' hi' e => t_law_910 ⟨by omega, ih (x3 + 6) μ' hi' (e.trans hS) (by omega) (by omega) (by omega)⟩
    have e0 : μ 0 (-1) = S0 (-1) := by rw [hS]
    refine ⟨by omega, fun _ => rfl, fun hl => ?_⟩
    have hk := hk (by omega)
    refine ⟨by omega, ?_⟩
    refine ⟨fun _ => zl_arm zo_sister hi hk (fun _ _ _ h => h), fun _ => ?_⟩
    refine ⟨fun _ => ⟨by omega, by omega, by omega, by omega, by omega, by omega, by omega, by omega, by omega, by omega, zl_arm (zo_feed _ _ _ _ _) hi hk (fun _ _ e h => by rw [e]; exact ⟨by omega, by omega, by omega, by omega, by omega, by omega, by omega, by omega, by omega, by omega, h⟩)⟩, fun _ => ?_⟩
    refine ⟨fun _ => ⟨by omega, by omega, zl_arm (zo_end _) hi hk (fun _ _ e h => by rw [e]; exact ⟨by omega, by omega, h⟩)⟩, fun _ => ?_⟩
    refine ⟨fun _ => zl_arm zo_text hi hk (fun _ _ _ h => h), fun _ => ?_⟩
    refine ⟨fun _ => ⟨by omega, by omega, zl_arm (zo_fault _) hi hk (fun _ _ e h => by rw [e]; exact ⟨by omega, by omega, h⟩)⟩, fun _ => ?_⟩
    refine ⟨fun _ => ⟨by omega, by omega, zl_arm (zo_by _) hi hk (fun _ _ e h => by rw [e]; exact ⟨by omega, by omega, h⟩)⟩, fun _ => ?_⟩
    refine ⟨fun _ => ⟨by omega, by omega, by omega, by omega, zl_arm (zo_vow _ _) hi hk (fun _ _ e h => by rw [e]; exact ⟨by omega, by omega, by omega, by omega, h⟩)⟩, fun _ => ?_⟩
    refine ⟨fun _ => ⟨by omega, by omega, by omega, by omega, zl_arm (zo_sin _ _) hi hk (fun _ _ e h => by rw [e]; exact ⟨by omega, by omega, by omega, by omega, h⟩)⟩, fun _ => ?_⟩
    refine ⟨fun _ => ⟨by omega, by omega, by omega, by omega, by omega, by omega, zl_arm (zo_pass _ _ _) hi hk (fun _ _ e h => by rw [e]; exact ⟨by omega, by omega, by omega, by omega, by omega, by omega, h⟩)⟩, fun _ => ?_⟩
    refine ⟨fun _ => ⟨by omega, by omega, zl_arm (zo_forgive _) hi hk (fun _ _ e h => by rw [e]; exact ⟨by omega, by omega, h⟩)⟩, fun _ => ?_⟩
    refine ⟨fun _ => ⟨by omega, by omega, zl_arm (zo_later _) hi hk (fun _ _ e h => by rw [e]; exact ⟨by omega, by omega, h⟩)⟩, fun _ => ?_⟩
    refine ⟨fun _ => ⟨by omega, by omega, zl_arm (zo_played _) hi hk (fun _ _ e h => by rw [e]; exact ⟨by omega, by omega, h⟩)⟩, fun _ => ?_⟩
    refine ⟨fun _ => ⟨by omega, by omega, by omega, by omega, zl_arm (zo_storm _ _) hi hk (fun _ _ e h => by rw [e]; exact ⟨by omega, by omega, by omega, by omega, h⟩)⟩, fun _ => ?_⟩
    refine ⟨fun _ => zl_arm zo_undo hi hk (fun _ _ _ h => h), fun _ => ?_⟩
    refine ⟨fun _ => ⟨by omega, by omega, by omega, by omega, zl_arm (zo_stone _ _) hi hk (fun _ _ e h => by rw [e]; exact ⟨by omega, by omega, by omega, by omega, h⟩)⟩, fun _ => ?_⟩
    refine ⟨fun _ => ⟨by omega, by omega, by omega, by omega, zl_arm (zo_veil _ _) hi hk (fun _ _ e h => by rw [e]; exact ⟨by omega, by omega, by omega, by omega, h⟩)⟩, fun _ => ?_⟩
    refine ⟨fun _ => zl_arm zo_spread hi hk (fun _ _ _ h => h), fun _ => ?_⟩
    refine ⟨fun _ => ⟨by omega, by omega, zl_arm (zo_level _) hi hk (fun _ _ e h => by rw [e]; exact ⟨by omega, by omega, h⟩)⟩, fun _ => ?_⟩
    refine ⟨fun _ => ⟨by omega, by omega, zl_arm (zo_procession _) hi hk (fun _ _ e h => by rw [e]; exact ⟨by omega, by omega, h⟩)⟩, fun _ => ?_⟩
    refine ⟨fun _ => ⟨by omega, by omega, by omega, by omega, by omega, by omega, zl_arm (zo_light _ _ _) hi hk (fun _ _ e h => by rw [e]; exact ⟨by omega, by omega, by omega, by omega, by omega, by omega, h⟩)⟩, fun _ => ?_⟩
    refine ⟨fun _ => ⟨by omega, by omega, by omega, by omega, by omega, by omega, by omega, by omega, fun q4 => zl_arm (zo_done _ _ _ _) hi hk (fun _ _ e h => by rw [e]; exact ⟨by omega, by omega, by omega, by omega, by omega, by omega, by omega, by omega, fun _ => h, fun q => absurd q4 q⟩), fun q4 => zl_arm (zo_done _ _ _ _) hi hk (fun _ _ e h => by rw [e]; exact ⟨by omega, by omega, by omega, by omega, by omega, by omega, by omega, by omega, fun q => absurd q q4, fun _ => h⟩)⟩, fun _ => ?_⟩
    refine ⟨fun _ => ⟨by omega, by omega, by omega, by omega, by omega, by omega, zl_arm (zo_tell _ _ _) hi hk (fun _ _ e h => by rw [e]; exact ⟨by omega, by omega, by omega, by omega, by omega, by omega, h⟩)⟩, fun _ => ?_⟩
    refine ⟨fun _ => zl_arm zo_hush hi hk (fun _ _ _ h => h), fun _ => ?_⟩
    refine ⟨fun _ => zl_arm zo_fits hi hk (fun _ _ _ h => h), fun _ => ?_⟩
    refine ⟨fun _ => zl_arm zo_next hi hk (fun _ _ _ h => h), fun _ => ?_⟩
    refine ⟨fun _ => zl_arm zo_image hi hk (fun _ _ _ h => h), fun _ => ?_⟩
    refine ⟨fun _ => zl_arm zo_back hi hk (fun _ _ _ h => h), fun _ => ?_⟩
    refine ⟨fun _ => ⟨by omega, by omega, zl_arm (zo_about _) hi hk (fun _ _ e h => by rw [e]; exact ⟨by omega, by omega, h⟩)⟩, fun _ => ?_⟩
    exact hk μ hi rfl
