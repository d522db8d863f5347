/-! forgive, later, undo on each side; the stones' part of sin on the reference's side *-/
section
variable {μ : zk_M} {BV : zk_M → Prop} {B : Int → zk_M → Prop} {σ : za_S} {sis : Int}
theorem za_forgC {n : Int} (hk : za_ok σ sis) (hs6 : sis ≤ 6) (h : za_C μ 4 σ) (hB : ∀ μ', zq [4, 5, 6] μ μ' → za_C μ' 4 (za_forg n σ).2 → B (za_forg n σ).1 μ') : zk_C 9 [.inr (.inr (.inl 2)), .inl n] μ (zk_RI B) := by
  have hf : ¬ ((0 ≤ n ∧ n < σ.1.1) ∧ (σ.1.2.2 n.toNat).2.2.1 = 6 ∧ za_n σ (σ.1.2.2 n.toNat).2.2.2 < 8) → B (-1) μ := fun q => by
    have e : za_forg n σ = (-1, σ) := if_neg q
    rw [e] at hB
    exact hB μ (zq.rf _ _) h
  have hc := za_C_c h
  have hc30 := hk.1.1
  refine c_Con_pardon (sp_has (by omega) (fun a1 a2 => ⟨fun q => absurd q (by decide), fun _ => za_plC hk h a1 (by omega) ⟨fun b => za_ownC hk h a1 (by omega) (za_roomC hk h (fun q4 => ⟨fun _ => ?_, fun q => absurd q (by decide)⟩) (fun q => ⟨fun q => absurd rfl q, fun _ => hf (fun p => q p.2.2)⟩)), fun b => hf (fun p => b p.2.1)⟩⟩) (fun q => ⟨fun _ => hf (by omega), fun q => absurd rfl q⟩))
  have e2 : za_forg n σ = ((σ.1.2.2 n.toNat).2.2.2, za_mv n.toNat (σ.1.2.2 n.toNat).2.2.2 (σ.1.2.2 n.toNat).2.2.2 (za_keep σ)) := if_pos ⟨by omega, b, q4⟩
  rw [e2] at hB
  have w := (hk.1.2.2.1 n.toNat (by omega)).2.2.2.2.2
  exact za_keepC hk h fun μ1 z1 c1 => c_Sto_give (za_mvC (za_keep_ok hk) hs6 c1 a1 (by show n < (σ.1.1 : Int); omega) (by omega) (by omega) fun μ2 z2 c2 => hB μ2 ((z1.up (by decide)).tr (z2.up (by decide))) c2)
theorem za_stoM {n : Int} (hk : za_ok σ sis) (h : za_M (μ 61) σ) (hy : 0 ≤ n → n < σ.1.1 → B 1 μ) (hn : ¬ (0 ≤ n ∧ n < σ.1.1) → B 0 μ) : zk_C 151 [.inr (.inr (.inl 60)), .inl n] μ (zk_RI B) := by
  have hc := h.1
  have hc30 := hk.1.1
  exact sp_isStone (by omega) (fun a b => hy a (by omega)) (fun q => hn (by omega))
theorem za_forgM {n : Int} (hk : za_ok σ sis) (h : za_M (μ 61) σ) (hB : ∀ μ', zq [61] μ μ' → (∀ i : Int, i < 46 → i ≠ 1 → i ≠ 2 → i ≠ 5 → μ' 61 i = μ 61 i) → za_M (μ' 61) (za_forg n σ).2 → B (za_forg n σ).1 μ') : zk_C 211 [.inr (.inr (.inl 60)), .inl n] μ (zk_RI B) := by
  have hf : ¬ ((0 ≤ n ∧ n < σ.1.1) ∧ (σ.1.2.2 n.toNat).2.2.1 = 6 ∧ za_n σ (σ.1.2.2 n.toNat).2.2.2 < 8) → B (-1) μ := fun q => by
    have e : za_forg n σ = (-1, σ) := if_neg q
    rw [e] at hB
    exact hB μ (zq.rf _ _) (fun _ _ _ _ _ => rfl) h
  have hc := h.1
  have hc30 := hk.1.1
  refine c_Mod_forgive (za_stoM hk h (fun a1 a2 => ⟨fun q => absurd q (by decide), fun _ => za_getM hk h a1 a2 (by decide) (by decide) ?_⟩) (fun q => ⟨fun _ => hf (fun p => q p.1), fun q => absurd rfl q⟩))
  show (¬ (σ.1.2.2 n.toNat).2.2.1 = 6 → _) ∧ ((σ.1.2.2 n.toNat).2.2.1 = 6 → _)
  refine ⟨fun b => hf (fun p => b p.2.1), fun b => za_getM hk h a1 a2 (by decide) (by decide) (za_roomM hk h (fun q4 => ⟨fun _ => ?_, fun q => absurd q (by decide)⟩) (fun q => ⟨fun q => absurd rfl q, fun _ => hf (fun p => q p.2.2)⟩))⟩
  have e2 : za_forg n σ = ((σ.1.2.2 n.toNat).2.2.2, za_mv n.toNat (σ.1.2.2 n.toNat).2.2.2 (σ.1.2.2 n.toNat).2.2.2 (za_keep σ)) := if_pos ⟨by omega, b, q4⟩
  rw [e2] at hB
  refine za_keepM hk h fun μ1 z1 g1 c1 => za_getM (za_keep_ok hk) c1 a1 a2 (by decide) (by decide) (sp_set (by omega) (by omega) (by decide) (by decide) ?_)
  obtain ⟨m, rfl⟩ := Int.eq_ofNat_of_zero_le a1
  have w := c1.2.2.1 m (show m < σ.1.1 by omega)
  have w4 : μ1 61 (49 + 4 * (m : Int)) = (σ.1.2.2 m).2.2.2 := congrArg (fun t : za_W => t.2.2.2) w
  refine sp_get a1 (by omega) (by decide) (by decide) ?_
  rw [Int.toNat_natCast] at hB ⊢
  rw [zk_set_n (by omega), show (46 + 4 * (m : Int) + 3) = 49 + 4 * (m : Int) by omega, w4]
  refine hB _ (z1.set (by decide) _ _) (fun i i1 i2 i3 i4 => ?_) (za_mvM (za_keep_ok hk) (show m < σ.1.1 by omega) c1 ?_ ?_ fun i i1 i2 => ?_)
  · rw [zk_set_n (by omega), g1 i (by omega) i4]
  · rw [zk_set_e (by omega)]
    rfl
  · rw [zk_set_n (by omega), w4]
  · rw [zk_set_n (by omega)]
/-- a stone of the reference goes to the gravel -/
theorem za_dropM {n : Int} (hk : za_ok σ sis) (h : za_M (μ 61) σ) (h0 : 0 ≤ n) (hn : n < σ.1.1) (hB : ∀ μ', zq [61] μ μ' → (∀ i : Int, i < 46 → μ' 61 i = μ 61 i) → za_M (μ' 61) (za_mv n.toNat 6 (σ.1.2.2 n.toNat).2.2.2 σ) → BV μ') : zk_C 154 [.inr (.inr (.inl 60)), .inl n, .inl 2, .inl 6] μ (zk_RV BV) := by
  have hc30 := hk.1.1
  obtain ⟨m, rfl⟩ := Int.eq_ofNat_of_zero_le h0
  rw [Int.toNat_natCast] at hB
  have w := h.2.2.1 m (by omega)
  have w4 : μ 61 (49 + 4 * (m : Int)) = (σ.1.2.2 m).2.2.2 := congrArg (fun t : za_W => t.2.2.2) w
  refine sp_set h0 (by omega) (by decide) (by decide) (hB _ ((zq.rf _ _).set (by decide) _ _) (fun i hi => ?_) (za_mvM hk (by omega) h ?_ ?_ fun i i1 i2 => ?_))
  · rw [zk_set_n (by omega)]
  · rw [zk_set_e (by omega)]
  · rw [zk_set_n (by omega), w4]
  · rw [zk_set_n (by omega)]
theorem za_laterC {d : Int} (hk : za_ok σ sis) (h : za_C μ 4 σ) (hB : ∀ μ', zq [4, 5, 6] μ μ' → za_C μ' 4 (za_later d σ).2 → B (za_later d σ).1 μ') : zk_C 10 [.inr (.inr (.inl 2)), .inl d] μ (zk_RI B) := by
  have hf : ¬ ((1 ≤ d ∧ d ≤ 99) ∧ σ.1.2.1 + d ≤ 999) → B (-1) μ := fun q => by
    have e : za_later d σ = (-1, σ) := if_neg q
    rw [e] at hB
    exact hB μ (zq.rf _ _) h
  have hd := za_C_d h
  have hdd := hk.1.2.1
  refine c_Con_letGoBy ⟨fun q => hf (by omega), fun q1 => ⟨fun q => hf (by omega), fun q2 => c_Sto_day ⟨by omega, fun q3 => ?_, fun q => hf (by omega)⟩⟩⟩
  have e2 : za_later d σ = (σ.1.2.1 + d, za_days d.toNat σ) := if_pos ⟨by omega, by omega⟩
  rw [e2] at hB
  obtain ⟨m, rfl⟩ := Int.eq_ofNat_of_zero_le (show 0 ≤ d by omega)
  rw [Int.toNat_natCast] at hB
  have lp : ∀ n, n ≤ m → (∀ (τ : za_S) (ν : zk_M), za_ok τ sis → za_C ν 4 τ → zq [4, 5, 6] μ ν → τ.1.2.1 = σ.1.2.1 + n → za_days (m - n) τ = za_days m σ → zk_K 10 30 [.inr (.inr (.inl 2)), .inl (m : Int), .inl (n : Int)] [] ν (zk_RI B)) := by
    refine zl_up (fun τ ν k1 k2 k3 k4 k5 => t_Con_letGoBy_30 ⟨fun _ => c_Sto_day ?_, fun q => absurd (Int.le_refl _) q⟩) (fun n hn ih τ ν k1 k2 k3 k4 k5 => t_Con_letGoBy_30 ⟨fun q => by omega, fun _ => za_keepC k1 k2 fun ν1 z1 c1 => za_dayC (za_keep_ok k1) c1 fun ν2 z2 c2 => ⟨by omega, ih _ ν2 (za_day_ok (za_keep_ok k1) ?_) c2 (k3.tr ((z1.up (by decide)).tr (z2.up (by decide)))) ?_ ?_⟩⟩)
    · rw [za_C_d k2, k4]
      rw [Nat.sub_self] at k5
      have : τ = za_days m σ := k5
      rw [this] at k2
      exact hB ν k3 k2
    · show τ.1.2.1 + 1 ≤ 999
      omega
    · show τ.1.2.1 + 1 = _
      push_cast
      omega
    · rw [← k5, show m - n = (m - (n + 1)) + 1 by omega]
      rfl
  exact lp 0 (Nat.zero_le _) σ μ hk h (zq.rf _ _) (by simp) rfl
theorem za_laterM {d : Int} (hk : za_ok σ sis) (h : za_M (μ 61) σ) (hB : ∀ μ', zq [61] μ μ' → (∀ i : Int, i < 46 → i ≠ 1 → i ≠ 2 → i ≠ 5 → μ' 61 i = μ 61 i) → za_M (μ' 61) (za_later d σ).2 → B (za_later d σ).1 μ') : zk_C 212 [.inr (.inr (.inl 60)), .inl d] μ (zk_RI B) := by
  have hf : ¬ ((1 ≤ d ∧ d ≤ 99) ∧ σ.1.2.1 + d ≤ 999) → B (-1) μ := fun q => by
    have e : za_later d σ = (-1, σ) := if_neg q
    rw [e] at hB
    exact hB μ (zq.rf _ _) (fun _ _ _ _ _ => rfl) h
  have hd := h.2.1
  have hdd := hk.1.2.1
  refine c_Mod_later (sp_isIn (fun a1 a2 => ⟨fun q => absurd q (by decide), fun _ => ⟨by omega, fun q3 => ?_, fun q => hf (by omega)⟩⟩) (fun q => ⟨fun _ => hf (fun p => q p.1), fun q => absurd rfl q⟩))
  have e2 : za_later d σ = (σ.1.2.1 + d, za_days d.toNat σ) := if_pos ⟨by omega, by omega⟩
  rw [e2] at hB
  obtain ⟨m, rfl⟩ := Int.eq_ofNat_of_zero_le (show 0 ≤ d by omega)
  rw [Int.toNat_natCast] at hB
  have lp : ∀ n, n ≤ m → (∀ (τ : za_S) (ν : zk_M), za_ok τ sis → za_M (ν 61) τ → zq [61] μ ν → (∀ i : Int, i < 46 → i ≠ 1 → i ≠ 2 → i ≠ 5 → ν 61 i = μ 61 i) → τ.1.2.1 = σ.1.2.1 + n → za_days (m - n) τ = za_days m σ → zk_K 212 28 [.inr (.inr (.inl 60)), .inl (m : Int), .inl (n : Int)] [] ν (zk_RI B)) := by
    refine zl_up (fun τ ν k1 k2 k3 k6 k4 k5 => t_Mod_later_28 ⟨fun _ => ?_, fun q => absurd (Int.le_refl _) q⟩) (fun n hn ih τ ν k1 k2 k3 k6 k4 k5 => t_Mod_later_28 ⟨fun q => by omega, fun _ => za_keepM k1 k2 fun ν1 z1 g1 c1 => ?_⟩)
    · rw [k2.2.1, k4]
      rw [Nat.sub_self] at k5
      have : τ = za_days m σ := k5
      rw [this] at k2
      exact hB ν k3 k6 k2
    · have e3 : ν1 61 2 = τ.1.2.1 := c1.2.1
      rw [e3]
      refine ⟨by omega, by omega, ih (za_day (za_keep τ)) _ (za_day_ok (za_keep_ok k1) (show τ.1.2.1 + 1 ≤ 999 by omega)) (za_dayM c1 (by rw [zk_set_s, e3]) (fun i hi => zk_set_n hi)) (k3.tr (z1.set (by decide) _ _)) (fun i i1 i2 i3 i4 => by rw [zk_set_n i3, g1 i (by omega) i4, k6 i i1 i2 i3 i4]) ?_ ?_⟩
      · show τ.1.2.1 + 1 = _
        push_cast
        omega
      · rw [← k5, show m - n = (m - (n + 1)) + 1 by omega]
        rfl
  exact lp 0 (Nat.zero_le _) σ μ hk h (zq.rf _ _) (fun _ _ _ _ _ => rfl) (by simp) rfl
theorem za_last {σ : za_S} (h : 0 < σ.2.length) : ∃ r, σ.2[σ.2.length - 1]? = some r ∧ za_undo σ = ((σ.2.length : Int) - 1, (r, σ.2.dropLast)) := by
  refine ⟨σ.2[σ.2.length - 1], List.getElem?_eq_getElem (by omega), ?_⟩
  unfold za_undo
  rw [List.getLast?_eq_getElem?, List.getElem?_eq_getElem (by omega)]
theorem za_dl {l : List za_R} {j : Nat} {q : za_R} (hj : l.dropLast[j]? = some q) : j < l.length - 1 ∧ l[j]? = some q := by
  rw [List.getElem?_dropLast] at hj
  split at hj
  · exact ⟨by assumption, hj⟩
  · exact absurd hj (by simp)
theorem za_undo0 {σ : za_S} (h : σ.2.length = 0) : za_undo σ = (-1, σ) := by
  unfold za_undo
  rw [List.length_eq_zero_iff.mp h]
  rfl
theorem za_undoC (hk : za_ok σ sis) (h : za_C μ 4 σ) (hB : ∀ μ', zq [4, 5] μ μ' → za_C μ' 4 (za_undo σ).2 → B (za_undo σ).1 μ') : zk_C 130 [.inr (.inr (.inl 1))] μ (zk_RI B) := by
  have h' := h
  obtain ⟨h1, o, ho, h2, h3, h4⟩ := h'
  refine c_Vos_undo (sp_takeBack hk.2.1 ho h3 h2 (fun hm μ' z m1 m2 m3 => ⟨fun q => absurd q (by decide), fun _ => ?_⟩) (fun hm => ⟨fun _ => ?_, fun q => absurd rfl q⟩))
  · obtain ⟨r, hr, e⟩ := za_last hm
    rw [e] at hB
    rw [m2]
    refine hB μ' z ⟨?_, o, ho, m1, ?_, fun j q hj => ?_⟩
    · obtain ⟨k1, k2, k3⟩ := h4 _ _ hr
      have hb := (hk.2.2.1 _ _ hr).1.1
      refine ⟨by rw [Int.zero_add, m3 30 (by decide) (by decide)]; exact k1, by rw [Int.zero_add, m3 31 (by decide) (by decide)]; exact k2, fun n hn => by have hn2 : n < r.1 := hn; rw [Int.zero_add, m3 n (by omega) (by omega)]; exact k3 n hn⟩
    · rw [m2, List.length_dropLast]
      omega
    · show za_cr (μ' 6) _ q
      rw [z 6 (by decide)]
      exact h4 j q (za_dl hj).2
  · rw [za_undo0 hm] at hB
    exact hB μ (zq.rf _ _) h
theorem za_undoM (hk : za_ok σ sis) (h : za_M (μ 61) σ) (hB : ∀ μ', zq [61] μ μ' → (∀ i : Int, i < 46 → i ≠ 1 → i ≠ 2 → i ≠ 5 → μ' 61 i = μ 61 i) → za_M (μ' 61) (za_undo σ).2 → B (za_undo σ).1 μ') : zk_C 206 [.inr (.inr (.inl 60))] μ (zk_RI B) := by
  have h' := h
  obtain ⟨h1, h2, h3, h4, h5⟩ := h'
  refine sp_undoM hk.2.1 h4 (fun hm μ' z ⟨u1, u2, u3, u4, u5, u6⟩ => ?_) (fun hm => ?_)
  · obtain ⟨r, hr, e⟩ := za_last hm
    rw [e] at hB
    obtain ⟨k1, k2, k3⟩ := h5 _ _ hr
    have hb := (hk.2.2.1 _ _ hr).1.1
    have em : ((σ.2.length - 1 : Nat) : Int) = (σ.2.length : Int) - 1 := by omega
    rw [em] at k1 k2 k3
    refine hB μ' z u6 ⟨u2.trans k1, u3.trans k2, fun n hn => ?_, by rw [List.length_dropLast, em]; exact u1, fun j q hj => ?_⟩
    · have hn' : n < r.1 := hn
      obtain ⟨v1, v2, v3, v4⟩ := u4 n (by omega)
      rw [v1, v2, v3, v4]
      exact k3 n hn
    · obtain ⟨a, b⟩ := za_dl hj
      obtain ⟨l1, l2, l3⟩ := h5 j q b
      have hq := (hk.2.2.1 _ _ b).1.1
      rw [u5 _ (by omega), u5 (167 + 62 * j) (by omega)]
      refine ⟨l1, l2, fun n hn => ?_⟩
      obtain ⟨v1, v2, v3, v4⟩ := u4 n (by omega)
      rw [v3, v4, u5 _ (by omega), u5 (169 + 62 * j + 2 * n) (by omega)]
      exact l3 n hn
  · rw [za_undo0 hm] at hB
    exact hB μ (zq.rf _ _) (fun _ _ _ _ _ => rfl) h
end
