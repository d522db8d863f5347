/-! the laws of a text that there is *-/
theorem zi_laws {μ : zk_M} (hi : zi μ) {x : Int} (hx : -1 ≤ x ∧ x < μ 61 3) : ∃ Lw Lg, zvC μ x Lw ∧ zgC μ x Lg ∧ zvM μ x 0 (0, 1) Lw ∧ zvM μ x 1 (1, 0) Lg := by
  have h4 := hi.1.2.1.2.2
  by_cases q : x = -1
  · exact ⟨none, none, Or.inl ⟨q, rfl⟩, Or.inl ⟨q, rfl⟩, Or.inl ⟨q, rfl⟩, Or.inl ⟨q, rfl⟩⟩
  · obtain ⟨t, rfl⟩ := Int.eq_ofNat_of_zero_le (show 0 ≤ x by omega)
    have ht : t < 4 := by omega
    obtain ⟨a1, a2, _, _, ⟨Lw, b1, b2, b3⟩, ⟨Lg, c1, c2, c3⟩⟩ := hi.2.2.2.2.2 t hx.2
    exact ⟨Lw, Lg, Or.inr ⟨t, ht, rfl, b2, b3⟩, Or.inr ⟨t, ht, rfl, c2, c3⟩, Or.inr ⟨t, ht, rfl, ⟨a1, a2⟩, b1, fun l e => (b3 l e).1⟩, Or.inr ⟨t, ht, rfl, ⟨a1, a2⟩, c1, c3⟩⟩
theorem zvC_q {μ μ' : zk_M} {x : Int} {L : Option (List (Int × Int))} (z : ∀ c, (26 ≤ c ∧ c ≤ 41 ∧ c % 4 ≠ 1) → μ' c = μ c) (h : zvC μ x L) : zvC μ' x L := by
  rcases h with h | ⟨t, ht, e, h1, h2⟩
  · exact Or.inl h
  · exact Or.inr ⟨t, ht, e, (zx_cls_cg (z _ (by omega)) (z _ (by omega)) 4 L).mpr h1, h2⟩
theorem zgC_q {μ μ' : zk_M} {x : Int} {L : Option (List (Int × Int))} (z : ∀ c, (26 ≤ c ∧ c ≤ 41 ∧ c % 4 ≠ 1) → μ' c = μ c) (h : zgC μ x L) : zgC μ' x L := by
  rcases h with h | ⟨t, ht, e, h1, h2⟩
  · exact Or.inl h
  · exact Or.inr ⟨t, ht, e, (zx_cls_cg (z _ (by omega)) (z _ (by omega)) 6 L).mpr h1, h2⟩
theorem zvM_q {μ μ' : zk_M} {x s : Int} {p : Nat × Nat} {L : Option (List (Int × Int))} (z : μ' 63 = μ 63) (h : zvM μ x s p L) : zvM μ' x s p L := by
  rcases h with h | ⟨t, ht, e, h0, h1, h2⟩
  · exact Or.inl h
  · exact Or.inr ⟨t, ht, e, by rw [z]; exact h0, (zx_law_cg z t s L).mpr h1, h2⟩
