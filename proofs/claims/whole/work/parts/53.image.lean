/-! image, back, feed *-/
theorem zi_cv_to {μ ν : zk_M} {k a k' a' : Nat} (h : zi_cv μ k a) (e0 : ∀ i : Int, 0 ≤ i → i < 3 → ν k' i = μ k i) (e2 : ∀ i : Int, 0 ≤ i → i < 32 → ν (k' + 2) i = μ (k + 2) i) (e3 : ∀ i : Int, 1 ≤ i → i < 3 → ν (k' + 3) i = μ (k + 3) i) (e4 : ∀ i : Int, 0 ≤ i → i < 960 → ν (k' + 4) i = μ (k + 4) i) (e5 : ν (k' + 5) 3 = μ (k + 5) 3) (e6 : ∀ i : Int, 0 ≤ i → i < 12 → ν (k' + 6) i = μ (k + 6) i ∧ ν (k' + 7) i = μ (k + 7) i ∧ ν (k' + 8) i = μ (k + 8) i) (ea : ∀ i : Int, 0 ≤ i → i < 2026 → ν a' i = μ a i) : zi_cv ν k' a' := by
  obtain ⟨h1, h2, h3, ⟨σ, ⟨⟨c1, c2, c3⟩, o, ho, c4, c5, c6⟩, ⟨m1, m2, m3, m4, m5⟩, hk⟩, t1, t2, t3, t4⟩ := h
  have hc := hk.1.1
  have hl := hk.2.1
  have hlen : ∀ (j : Nat) (r : za_R), σ.2[j]? = some r → j < 30 := fun j r hj => by
    have := (List.getElem?_eq_some_iff.mp hj).1
    omega
  refine ⟨by rw [e0 0 (by decide) (by decide), ea 0 (by decide) (by decide)]; exact h1, by rw [e0 1 (by decide) (by decide), ea 3 (by decide) (by decide)]; exact h2, by rw [e0 2 (by decide) (by decide), ea 3 (by decide) (by decide), ea 4 (by decide) (by decide)]; exact h3, ⟨σ, ⟨⟨?_, ?_, fun n hn => ?_⟩, o, ho, ?_, ?_, fun j r hj => ?_⟩, ⟨?_, ?_, fun n hn => ?_, ?_, fun j r hj => ?_⟩, ?_⟩, ?_, ?_, ?_, fun i hi => ?_⟩
  · rw [Int.zero_add, e2 30 (by decide) (by decide)]
    exact c1
  · rw [Int.zero_add, e2 31 (by decide) (by decide)]
    exact c2
  · rw [e2 _ (by omega) (by omega)]
    exact c3 n hn
  · exact (e3 1 (by decide) (by decide)).trans c4
  · exact (e3 2 (by decide) (by decide)).trans c5
  · obtain ⟨l1, l2, l3⟩ := c6 j r hj
    have hr := (hk.2.2.1 j r hj).1.1
    have hm : (o + j) % 30 < 30 := Nat.mod_lt _ (by decide)
    refine ⟨?_, ?_, fun n hn => ?_⟩
    · exact (e4 _ (by omega) (by omega)).trans l1
    · exact (e4 _ (by omega) (by omega)).trans l2
    · rw [show ν (k' + 2 + 2) (32 * ((o + j) % 30 : Nat) + n) = μ (k + 4) (32 * ((o + j) % 30 : Nat) + n) from e4 _ (by omega) (by omega)]
      exact l3 n hn
  · rw [ea 1 (by decide) (by decide)]
    exact m1
  · rw [ea 2 (by decide) (by decide)]
    exact m2
  · rw [ea _ (by omega) (by omega), ea (47 + 4 * n) (by omega) (by omega), ea (48 + 4 * n) (by omega) (by omega), ea (49 + 4 * n) (by omega) (by omega)]
    exact m3 n hn
  · rw [ea 5 (by decide) (by decide)]
    exact m4
  · have hj30 := hlen j r hj
    obtain ⟨l1, l2, l3⟩ := m5 j r hj
    have hr := (hk.2.2.1 j r hj).1.1
    rw [ea _ (by omega) (by omega), ea (167 + 62 * j) (by omega) (by omega)]
    refine ⟨l1, l2, fun n hn => ?_⟩
    rw [ea _ (by omega) (by omega), ea (47 + 4 * n) (by omega) (by omega), ea (168 + 62 * j + 2 * n) (by omega) (by omega), ea (169 + 62 * j + 2 * n) (by omega) (by omega)]
    exact l3 n hn
  · rw [ea 0 (by decide) (by decide)]
    exact hk
  · rw [e5, ea 6 (by decide) (by decide)]
    exact t1
  · rw [ea 6 (by decide) (by decide)]
    exact t2
  · rw [ea 6 (by decide) (by decide)]
    exact t3
  · rw [ea 6 (by decide) (by decide)] at hi
    obtain ⟨v1, v2, v3⟩ := e6 i (by omega) (by omega)
    rw [show ν (k' + 5 + 1) i = μ (k + 6) i from v1, show ν (k' + 5 + 2) i = μ (k + 7) i from v2, show ν (k' + 5 + 3) i = μ (k + 8) i from v3, ea (10 + 3 * i) (by omega) (by omega), ea (11 + 3 * i) (by omega) (by omega), ea (12 + 3 * i) (by omega) (by omega)]
    exact t4 i hi
/-- what a copy of the class's convent from cell k to cell l does -/
def zi_cc (k l : Nat) (μ ν : zk_M) : Prop := zq [l, l + 2, l + 3, l + 4, l + 5, l + 6, l + 7, l + 8] μ ν ∧ (∀ i : Int, 0 ≤ i → i < 3 → ν l i = μ k i) ∧ (∀ i : Int, 0 ≤ i → i < 32 → ν (l + 2) i = μ (k + 2) i) ∧ (∀ i : Int, 1 ≤ i → i < 3 → ν (l + 3) i = μ (k + 3) i) ∧ (∀ i : Int, 0 ≤ i → i < 960 → ν (l + 4) i = μ (k + 4) i) ∧ ν (l + 5) 3 = μ (k + 5) 3 ∧ ∀ i : Int, 0 ≤ i → i < 12 → ν (l + 6) i = μ (k + 6) i ∧ ν (l + 7) i = μ (k + 7) i ∧ ν (l + 8) i = μ (k + 8) i
def zi_ccf (k l : Nat) (μ : zk_M) : zk_M :=
  let μ0 := zk_set (zk_set (zk_set μ l 0 (μ k 0)) l 1 (μ k 1)) l 2 (μ k 2)
  let μ1 := zk_cpy μ0 (k + 2) 0 (l + 2) 0 32
  let μ2 := zk_set (zk_set (zk_cpy μ1 (k + 4) 0 (l + 4) 0 960) (l + 3) 1 (μ1 (k + 3) 1)) (l + 3) 2 (μ1 (k + 3) 2)
  zk_set (zk_cpy (zk_cpy (zk_cpy μ2 (k + 6) 0 (l + 6) 0 12) (k + 7) 0 (l + 7) 0 12) (k + 8) 0 (l + 8) 0 12) (l + 5) 3 (μ2 (k + 5) 3)
theorem zi_ccf_ok {k l : Nat} (h : (k = 2 ∧ l = 12) ∨ (k = 12 ∧ l = 2)) (μ : zk_M) : zi_cc k l μ (zi_ccf k l μ) := by
  have e : ∀ (i : Int), 0 + (i - 0) = i := fun i => by omega
  rcases h with ⟨rfl, rfl⟩ | ⟨rfl, rfl⟩
  all_goals
    refine ⟨fun c hc => ?_, fun i i1 i2 => ?_, fun i i1 i2 => ?_, fun i i1 i2 => ?_, fun i i1 i2 => ?_, ?_, fun i i1 i2 => ⟨?_, ?_, ?_⟩⟩
    · simp at hc
      funext i
      simp [zi_ccf, zk_set, zk_cpy, hc]
    · rcases (show i = 0 ∨ i = 1 ∨ i = 2 by omega) with rfl | rfl | rfl <;> simp [zi_ccf, zk_set, zk_cpy]
    · simp [zi_ccf, zk_set, zk_cpy, i1, i2]
    · rcases (show i = 1 ∨ i = 2 by omega) with rfl | rfl <;> simp [zi_ccf, zk_set, zk_cpy]
    · simp [zi_ccf, zk_set, zk_cpy, i1, i2]
    · simp [zi_ccf, zk_set, zk_cpy]
    · simp [zi_ccf, zk_set, zk_cpy, i1, i2]
    · simp [zi_ccf, zk_set, zk_cpy, i1, i2]
    · simp [zi_ccf, zk_set, zk_cpy, i1, i2]
section
variable {μ : zk_M} {BV : zk_M → Prop} {B : Int → zk_M → Prop}
theorem sp_cimg (h : ∀ ν, zi_cc 2 12 μ ν → BV ν) : zk_C 1 [.inr (.inr (.inl 12)), .inr (.inr (.inl 2))] μ (zk_RV BV) :=
  c_Con_copyFrom_img (c_Sto_copyFrom_img (c_Ste_copyFrom_img (c_Sca_copyFrom_img (h _ (zi_ccf_ok (Or.inl ⟨rfl, rfl⟩) μ)))))
theorem sp_cbck (h : ∀ ν, zi_cc 12 2 μ ν → BV ν) : zk_C 1 [.inr (.inr (.inl 2)), .inr (.inr (.inl 12))] μ (zk_RV BV) :=
  c_Con_copyFrom_bck (c_Sto_copyFrom_bck (c_Ste_copyFrom_bck (c_Sca_copyFrom_bck (h _ (zi_ccf_ok (Or.inr ⟨rfl, rfl⟩) μ)))))
theorem sp_mimg (h : ∀ ν, zq [62] μ ν → (∀ i : Int, 0 ≤ i → i < 2026 → ν 62 i = μ 61 i) → BV ν) : zk_C 146 [.inr (.inr (.inl 61)), .inr (.inr (.inl 62))] μ (zk_RV BV) := by
  have lp : ∀ n : Nat, n ≤ 2026 → (∀ ν, zq [62] μ ν → (∀ i : Int, 0 ≤ i → i < n → ν 62 i = μ 61 i) → zk_K 146 2 [.inr (.inr (.inl 61)), .inr (.inr (.inl 62)), .inl (n : Int)] [] ν (zk_RV BV)) := by
    refine zl_up (P := fun n => ∀ ν, zq [62] μ ν → (∀ i : Int, 0 ≤ i → i < n → ν 62 i = μ 61 i) → zk_K 146 2 [.inr (.inr (.inl 61)), .inr (.inr (.inl 62)), .inl (n : Int)] [] ν (zk_RV BV)) (fun ν z g => t_Mod_copy_2_img ⟨fun _ => h ν z g, fun q => absurd (by decide) q⟩) (fun n hn ih ν z g => by have hn : n < 2026 := hn; exact t_Mod_copy_2_img ⟨fun q => by omega, fun _ => ⟨by omega, by omega, by omega, ih _ (z.set (by decide) _ _) (fun i i1 i2 => by
      by_cases q : i = n
      · rw [zk_set_e q, z 61 (by decide), q]
      · rw [zk_set_n q]
        exact g i i1 (by omega))⟩⟩)
  exact c_Mod_copy_img (lp 0 (by decide) μ (zq.rf _ _) (fun i i1 i2 => by omega))
theorem sp_mbck (h : ∀ ν, zq [61] μ ν → (∀ i : Int, 0 ≤ i → i < 2026 → ν 61 i = μ 62 i) → BV ν) : zk_C 146 [.inr (.inr (.inl 62)), .inr (.inr (.inl 61))] μ (zk_RV BV) := by
  have lp : ∀ n : Nat, n ≤ 2026 → (∀ ν, zq [61] μ ν → (∀ i : Int, 0 ≤ i → i < n → ν 61 i = μ 62 i) → zk_K 146 2 [.inr (.inr (.inl 62)), .inr (.inr (.inl 61)), .inl (n : Int)] [] ν (zk_RV BV)) := by
    refine zl_up (P := fun n => ∀ ν, zq [61] μ ν → (∀ i : Int, 0 ≤ i → i < n → ν 61 i = μ 62 i) → zk_K 146 2 [.inr (.inr (.inl 62)), .inr (.inr (.inl 61)), .inl (n : Int)] [] ν (zk_RV BV)) (fun ν z g => t_Mod_copy_2_bck ⟨fun _ => h ν z g, fun q => absurd (by decide) q⟩) (fun n hn ih ν z g => by have hn : n < 2026 := hn; exact t_Mod_copy_2_bck ⟨fun q => by omega, fun _ => ⟨by omega, by omega, by omega, ih _ (z.set (by decide) _ _) (fun i i1 i2 => by
      by_cases q : i = n
      · rw [zk_set_e q, z 62 (by decide), q]
      · rw [zk_set_n q]
        exact g i i1 (by omega))⟩⟩)
  exact c_Mod_copy_bck (lp 0 (by decide) μ (zq.rf _ _) (fun i i1 i2 => by omega))
end
theorem zo_image : zo 142 240 [] := fun μ hi => by
  have hj := hi
  obtain ⟨h1, h2, h4, h5, h6, h7⟩ := hj
  refine c_Vos_image (sp_cimg fun ν ⟨z, c0, c2, c3, c4, c5, c6⟩ => c_Sto_day ⟨z 0 (by decide), c_Mod_image (sp_mimg fun ξ y g => ?_)⟩)
  have yz : zq [12, 14, 15, 16, 17, 18, 19, 20, 62] μ ξ := (z.up (by decide)).tr (y.up (by decide))
  obtain ⟨_, _, _, ⟨σ, k1, k2, hk⟩, _⟩ := h1
  refine ⟨?_, ⟨zi_cv_cg (fun c hc => yz c (by simp; omega)) hi.1, zi_cv_to hi.1 ?_ ?_ ?_ ?_ ?_ ?_ ?_, ?_, ?_, by rw [yz 44 (by decide), yz 60 (by decide)]; exact h6, fun t ht => ?_⟩, yz 0 (by decide)⟩
  · rw [yz 61 (by decide), z 4 (by decide), za_C_d k1, k2.2.1]
  · rw [y 12 (by decide)]; exact c0
  · rw [y (12 + 2) (by decide)]; exact c2
  · rw [y (12 + 3) (by decide)]; exact c3
  · rw [y (12 + 4) (by decide)]; exact c4
  · rw [y (12 + 5) (by decide)]; exact c5
  · rw [y (12 + 6) (by decide), y (12 + 7) (by decide), y (12 + 8) (by decide)]; exact c6
  · rw [z 61 (by decide)] at g; exact g
  · rw [g 3 (by decide) (by decide), yz 61 (by decide), z 61 (by decide)]
    exact Int.le_refl _
  · unfold zi_tp at *
    rw [yz 42 (by decide), yz 60 (by decide), yz 43 (by decide), yz 64 (by decide)]
    exact h5
  · rw [yz 61 (by decide)] at ht
    have := hi.1.2.1.2.2
    exact zx_txt_cg (yz 63 (by decide)) (yz _ (by simp; omega)) (yz _ (by simp; omega)) (yz _ (by simp; omega)) (h7 t ht)
theorem zo_back : zo 143 241 [] := fun μ hi => by
  have hj := hi
  obtain ⟨h1, h2, h4, h5, h6, h7⟩ := hj
  refine c_Vos_back (sp_cbck fun ν ⟨z, c0, c2, c3, c4, c5, c6⟩ => c_Sto_day ⟨z 0 (by decide), c_Mod_back (sp_mbck fun ξ y g => ?_)⟩)
  have yz : zq [2, 4, 5, 6, 7, 8, 9, 10, 61] μ ξ := (z.up (by decide)).tr (y.up (by decide))
  obtain ⟨_, _, _, ⟨σ, k1, k2, hk⟩, _⟩ := h2
  rw [z 62 (by decide)] at g
  refine ⟨?_, ⟨zi_cv_to hi.2.1 ?_ ?_ ?_ ?_ ?_ ?_ g, zi_cv_cg (fun c hc => yz c (by simp; omega)) hi.2.1, ?_, ?_, by rw [yz 44 (by decide), yz 60 (by decide)]; exact h6, fun t ht => ?_⟩, yz 0 (by decide)⟩
  · rw [g 2 (by decide) (by decide), show ν 4 31 = μ 14 31 from c2 31 (by decide) (by decide), show μ 14 31 = _ from za_C_d k1, k2.2.1]
  · rw [y 2 (by decide)]; exact c0
  · rw [y (2 + 2) (by decide)]; exact c2
  · rw [y (2 + 3) (by decide)]; exact c3
  · rw [y (2 + 4) (by decide)]; exact c4
  · rw [y (2 + 5) (by decide)]; exact c5
  · rw [y (2 + 6) (by decide), y (2 + 7) (by decide), y (2 + 8) (by decide)]; exact c6
  · rw [g 3 (by decide) (by decide), yz 62 (by decide)]
    exact Int.le_refl _
  · unfold zi_tp at *
    rw [yz 42 (by decide), yz 60 (by decide), yz 43 (by decide), yz 64 (by decide)]
    exact h5
  · rw [g 3 (by decide) (by decide)] at ht
    have := hi.1.2.1.2.2
    exact zx_txt_cg (yz 63 (by decide)) (yz _ (by simp; omega)) (yz _ (by simp; omega)) (yz _ (by simp; omega)) (h7 t (by omega))
