/-! the calls on stones, each side against the plain function *-/
def za_vow (k s sis : Int) (σ : za_S) : Int × za_S := if (0 ≤ k ∧ k ≤ 5) ∧ (0 ≤ s ∧ s < sis) ∧ σ.1.1 < 30 ∧ za_n σ s < 8 then ((σ.1.1 : Int), za_sew k s (za_keep σ)) else (-1, σ)
theorem za_vow_ok {k s sis : Int} {σ : za_S} (h : za_ok σ sis) : za_ok (za_vow k s sis σ).2 sis := by
  unfold za_vow
  split
  · rename_i q
    exact za_sew_ok (za_keep_ok h) q.2.2.1 q.1 q.2.1 q.2.2.2
  · exact h
theorem za_C_n {μ : zk_M} {k : Nat} {σ : za_S} (h : za_C μ k σ) (p : Int) : zb_c (fun n => zw_pl (μ k n) == p) σ.1.1 = za_n σ p := zb_c_congr _ (fun j hj => by
  have := h.1.2.2 j hj
  rw [Int.zero_add] at this
  rw [← this]
  rfl)
theorem za_M_n {g : Int → Int} {σ : za_S} (h : za_M g σ) (p : Int) : zb_c (fun n => g (48 + 4 * n) == p) σ.1.1 = za_n σ p := zb_c_congr _ (fun j hj => by rw [← h.2.2.1 j hj])
theorem za_C_c {μ : zk_M} {k : Nat} {σ : za_S} (h : za_C μ k σ) : μ k 30 = (σ.1.1 : Int) := h.1.1
theorem za_C_d {μ : zk_M} {k : Nat} {σ : za_S} (h : za_C μ k σ) : μ k 31 = σ.1.2.1 := h.1.2.1
theorem za_C_w {μ : zk_M} {k : Nat} {σ : za_S} (h : za_C μ k σ) {n : Nat} (hn : n < σ.1.1) : za_wd (μ k n) = σ.1.2.2 n := by
  have := h.1.2.2 n hn
  rw [Int.zero_add] at this
  exact this
theorem zk_set_e {μ : zk_M} {k : Nat} {i j x : Int} (h : j = i) : zk_set μ k i x k j = x := by rw [h, zk_set_s]
section
variable {μ : zk_M} {BV : zk_M → Prop} {B : Int → zk_M → Prop} {σ : za_S} {sis : Int}
theorem za_roomC {p : Int} (hk : za_ok σ sis) (h : za_C μ 4 σ) (hy : za_n σ p < 8 → B 1 μ) (hn : ¬ za_n σ p < 8 → B 0 μ) : zk_C 4 [.inr (.inr (.inl 2)), .inl p] μ (zk_RI B) :=
  sp_hasRoom (za_C_c h) hk.1.1 (fun q => hy (by rw [← za_C_n h]; exact q)) (fun q => hn (by rw [← za_C_n h]; exact q))
theorem za_roomM {p : Int} (hk : za_ok σ sis) (h : za_M (μ 61) σ) (hy : za_n σ p < 8 → B 1 μ) (hn : ¬ za_n σ p < 8 → B 0 μ) : zk_C 156 [.inr (.inr (.inl 60)), .inl p] μ (zk_RI B) :=
  sp_mhasRoom h.1 hk.1.1 (fun q => hy (by rw [← za_M_n h]; exact q)) (fun q => hn (by rw [← za_M_n h]; exact q))
theorem za_vowC {k s : Int} (hk : za_ok σ sis) (hs6 : sis ≤ 6) (hs : μ 2 0 = sis) (h : za_C μ 4 σ) (hB : ∀ μ', zq [4, 5, 6] μ μ' → za_C μ' 4 (za_vow k s sis σ).2 → B (za_vow k s sis σ).1 μ') : zk_C 5 [.inr (.inr (.inl 2)), .inl k, .inl s] μ (zk_RI B) := by
  have hf : ¬ ((0 ≤ k ∧ k ≤ 5) ∧ (0 ≤ s ∧ s < sis) ∧ σ.1.1 < 30 ∧ za_n σ s < 8) → B (-1) μ := fun q => by
    have e : za_vow k s sis σ = (-1, σ) := if_neg q
    rw [e] at hB
    exact hB μ (zq.rf _ _) h
  have hc := za_C_c h
  refine c_Con_addVow ⟨fun q => hf (by omega), fun q1 => ⟨fun q => hf (by omega), fun q2 => sp_hasSister (fun a b => ⟨fun _ => c_Sto_count ⟨fun q => hf (by omega), fun q3 => za_roomC hk h (fun q4 => ⟨fun _ => ?_, fun q => absurd q (by decide)⟩) (fun q => ⟨fun q => absurd rfl q, fun _ => hf (by omega)⟩)⟩, fun q => absurd q (by decide)⟩) (fun q => ⟨fun q => absurd rfl q, fun _ => hf (by omega)⟩)⟩⟩
  have hp : (0 ≤ k ∧ k ≤ 5) ∧ (0 ≤ s ∧ s < sis) ∧ σ.1.1 < 30 ∧ za_n σ s < 8 := ⟨by omega, by omega, by omega, q4⟩
  have e : za_vow k s sis σ = ((σ.1.1 : Int), za_sew k s (za_keep σ)) := if_pos hp
  rw [e] at hB
  exact za_keepC hk h fun μ1 z1 c1 => za_sewC (za_keep_ok hk) hs6 c1 hp.2.2.1 hp.1 hp.2.1 fun μ2 z2 c2 => hB μ2 ((z1.up (by decide)).tr (z2.up (by decide))) c2
theorem za_vowM {k s : Int} (hk : za_ok σ sis) (hs6 : 0 ≤ sis ∧ sis ≤ 6) (hs : μ 61 0 = sis) (h : za_M (μ 61) σ) (hB : ∀ μ', zq [61] μ μ' → (∀ i : Int, i < 46 → i ≠ 1 → i ≠ 2 → i ≠ 5 → μ' 61 i = μ 61 i) → za_M (μ' 61) (za_vow k s sis σ).2 → B (za_vow k s sis σ).1 μ') : zk_C 207 [.inr (.inr (.inl 60)), .inl k, .inl s] μ (zk_RI B) := by
  have hf : ¬ ((0 ≤ k ∧ k ≤ 5) ∧ (0 ≤ s ∧ s < sis) ∧ σ.1.1 < 30 ∧ za_n σ s < 8) → B (-1) μ := fun q => by
    have e : za_vow k s sis σ = (-1, σ) := if_neg q
    rw [e] at hB
    exact hB μ (zq.rf _ _) (fun _ _ _ _ _ => rfl) h
  have hc := h.1
  have hc30 := hk.1.1
  refine c_Mod_vow (sp_isKind (fun a1 a2 => ⟨fun q => absurd q (by decide), fun _ => sp_isSister (by omega) (fun a b => ⟨fun q => absurd q (by decide), fun _ => ⟨fun q => hf (by omega), fun q3 => za_roomM hk h (fun q4 => ⟨fun _ => ?_, fun q => absurd q (by decide)⟩) (fun q => ⟨fun q => absurd rfl q, fun _ => hf (by omega)⟩)⟩⟩) (fun q => ⟨fun _ => hf (by omega), fun q => absurd rfl q⟩)⟩) (fun q => ⟨fun _ => hf (by omega), fun q => absurd rfl q⟩))
  have hp : (0 ≤ k ∧ k ≤ 5) ∧ (0 ≤ s ∧ s < sis) ∧ σ.1.1 < 30 ∧ za_n σ s < 8 := ⟨by omega, by omega, by omega, q4⟩
  have e : za_vow k s sis σ = ((σ.1.1 : Int), za_sew k s (za_keep σ)) := if_pos hp
  rw [e] at hB
  refine za_keepM hk h fun μ1 z1 g1 c1 => ?_
  have c11 := c1.1
  have c12 := c1.2.1
  have hc1 : σ.1.1 < 30 := hp.2.2.1
  have e1 : μ1 61 1 = (σ.1.1 : Int) := c11
  rw [e1]
  refine sp_set (by omega) (by omega) (by decide) (by decide) (sp_set (by omega) (by omega) (by decide) (by decide) (sp_set (by omega) (by omega) (by decide) (by decide) (sp_set (by omega) (by omega) (by decide) (by decide) ?_)))
  have n1 : ∀ (ν : zk_M) (j x : Int) (i : Int), i ≠ 46 + 4 * (σ.1.1 : Int) + j → zk_set ν 61 (46 + 4 * (σ.1.1 : Int) + j) x 61 i = ν 61 i := fun ν j x i hi => zk_set_n hi
  rw [n1 _ _ _ 1 (by omega), n1 _ _ _ 1 (by omega), n1 _ _ _ 1 (by omega), n1 _ _ _ 1 (by omega), n1 _ _ _ 2 (by omega), e1]
  refine ⟨by omega, hB _ ((z1.set (by decide) _ _).set (by decide) _ _ |>.set (by decide) _ _ |>.set (by decide) _ _ |>.set (by decide) _ _) (fun i i1 i2 i3 i4 => ?_) (za_sewM (za_keep_ok hk) hc1 c1 ?_ ?_ fun i i1 i2 => ?_)⟩
  · rw [zk_set_n (by omega), n1 _ _ _ i (by omega), n1 _ _ _ i (by omega), n1 _ _ _ i (by omega), n1 _ _ _ i (by omega), g1 i (by omega) i4]
  · rw [zk_set_s, e1]
  · show _ = (k, σ.1.2.1, s, s)
    have e2 : μ1 61 2 = σ.1.2.1 := c12
    have ee : (za_keep σ).1.1 = σ.1.1 := rfl
    rw [ee]
    refine Prod.ext ?_ (Prod.ext ?_ (Prod.ext ?_ ?_))
    · show zk_set _ 61 1 _ 61 (46 + 4 * (σ.1.1 : Int)) = k
      rw [zk_set_n (by omega), n1 _ _ _ _ (by omega), n1 _ _ _ _ (by omega), n1 _ _ _ _ (by omega), zk_set_e (by omega)]
    · show zk_set _ 61 1 _ 61 (47 + 4 * (σ.1.1 : Int)) = σ.1.2.1
      rw [zk_set_n (by omega), n1 _ _ _ _ (by omega), n1 _ _ _ _ (by omega), zk_set_e (by omega), e2]
    · show zk_set _ 61 1 _ 61 (48 + 4 * (σ.1.1 : Int)) = s
      rw [zk_set_n (by omega), n1 _ _ _ _ (by omega), zk_set_e (by omega)]
    · show zk_set _ 61 1 _ 61 (49 + 4 * (σ.1.1 : Int)) = s
      rw [zk_set_n (by omega), zk_set_e (by omega)]
  · have i2' : i < 46 + 4 * (σ.1.1 : Int) ∨ 50 + 4 * (σ.1.1 : Int) ≤ i := i2
    rw [zk_set_n i1, n1 _ _ _ i (by omega), n1 _ _ _ i (by omega), n1 _ _ _ i (by omega), n1 _ _ _ i (by omega)]
/-- a stone is given up -/
def za_strip (n : Int) (σ : za_S) : Int × za_S := if n = -1 then (-1, σ) else (n, za_mv n.toNat 6 (σ.1.2.2 n.toNat).2.2.2 (za_keep σ))
theorem za_ownC {n : Int} (hk : za_ok σ sis) (h : za_C μ 4 σ) (h0 : 0 ≤ n) (hn : n < σ.1.1) (hB : B (σ.1.2.2 n.toNat).2.2.2 μ) : zk_C 97 [.inr (.inr (.inl 3)), .inl n] μ (zk_RI B) := by
  have := hk.1.1
  obtain ⟨n', rfl⟩ := Int.eq_ofNat_of_zero_le h0
  refine sp_ownerOf h0 (by omega) ?_
  have w := za_C_w h (n := n') (by omega)
  rw [show zw_ow (μ 4 (n' : Int)) = (σ.1.2.2 n').2.2.2 by rw [← w]; rfl]
  exact hB
theorem za_plC {n : Int} (hk : za_ok σ sis) (h : za_C μ 4 σ) (h0 : 0 ≤ n) (hn : n < σ.1.1) (hB : B (σ.1.2.2 n.toNat).2.2.1 μ) : zk_C 96 [.inr (.inr (.inl 3)), .inl n] μ (zk_RI B) := by
  have := hk.1.1
  obtain ⟨n', rfl⟩ := Int.eq_ofNat_of_zero_le h0
  refine sp_placeOf h0 (by omega) ?_
  have w := za_C_w h (n := n') (by omega)
  rw [show zw_pl (μ 4 (n' : Int)) = (σ.1.2.2 n').2.2.1 by rw [← w]; rfl]
  exact hB
theorem za_swC {n : Int} (hk : za_ok σ sis) (h : za_C μ 4 σ) (h0 : 0 ≤ n) (hn : n < σ.1.1) (hB : B (σ.1.2.2 n.toNat).2.1 μ) : zk_C 95 [.inr (.inr (.inl 3)), .inl n] μ (zk_RI B) := by
  have := hk.1.1
  obtain ⟨n', rfl⟩ := Int.eq_ofNat_of_zero_le h0
  refine sp_sewnOn h0 (by omega) ?_
  have w := za_C_w h (n := n') (by omega)
  rw [show zw_sw (μ 4 (n' : Int)) = (σ.1.2.2 n').2.1 by rw [← w]; rfl]
  exact hB
theorem za_kdC {n : Int} (hk : za_ok σ sis) (h : za_C μ 4 σ) (h0 : 0 ≤ n) (hn : n < σ.1.1) (hB : B (σ.1.2.2 n.toNat).1 μ) : zk_C 94 [.inr (.inr (.inl 3)), .inl n] μ (zk_RI B) := by
  have := hk.1.1
  obtain ⟨n', rfl⟩ := Int.eq_ofNat_of_zero_le h0
  refine sp_kindOf h0 (by omega) ?_
  have w := za_C_w h (n := n') (by omega)
  rw [show zw_kd (μ 4 (n' : Int)) = (σ.1.2.2 n').1 by rw [← w]; rfl]
  exact hB
/-- what the reference tells of a stone -/
def za_k (w : za_W) (k : Int) : Int := if k = 0 then w.1 else if k = 1 then w.2.1 else if k = 2 then w.2.2.1 else w.2.2.2
theorem za_getM {n k : Int} (hk : za_ok σ sis) (h : za_M (μ 61) σ) (h0 : 0 ≤ n) (hn : n < σ.1.1) (hk0 : 0 ≤ k) (hk4 : k < 4) (hB : B (za_k (σ.1.2.2 n.toNat) k) μ) : zk_C 153 [.inr (.inr (.inl 60)), .inl n, .inl k] μ (zk_RI B) := by
  have := hk.1.1
  obtain ⟨n', rfl⟩ := Int.eq_ofNat_of_zero_le h0
  refine sp_get h0 (by omega) hk0 hk4 ?_
  have w := h.2.2.1 n' (by omega)
  have e : μ 61 (46 + 4 * (n' : Int) + k) = za_k (σ.1.2.2 n') k := by
    rw [← w]
    rcases (show k = 0 ∨ k = 1 ∨ k = 2 ∨ k = 3 by omega) with q | q | q | q <;> subst q <;> simp only [za_k] <;> simp <;> congr 1 <;> omega
  rw [e]
  exact hB
theorem za_dropC {n : Int} (hk : za_ok σ sis) (hs6 : sis ≤ 6) (h : za_C μ 4 σ) (h0 : 0 ≤ n) (hn : n < σ.1.1) (hB : ∀ μ', zq [4] μ μ' → za_C μ' 4 (za_mv n.toNat 6 (σ.1.2.2 n.toNat).2.2.2 σ) → BV μ') : zk_C 100 [.inr (.inr (.inl 3)), .inl n] μ (zk_RV BV) := by
  have hw := hk.1.2.2.1 n.toNat (by omega)
  unfold za_w1 at hw
  exact c_Sto_drop (za_ownC hk h h0 hn (za_mvC hk hs6 h h0 hn (by decide) (by omega) hB))
theorem za_stripC {n : Int} (hk : za_ok σ sis) (hs6 : sis ≤ 6) (h : za_C μ 4 σ) (hn : n = -1 ∨ 0 ≤ n ∧ n < σ.1.1) (hB : ∀ μ', zq [4, 5, 6] μ μ' → za_C μ' 4 (za_strip n σ).2 → B (za_strip n σ).1 μ') : zk_C 7 [.inr (.inr (.inl 2)), .inl n] μ (zk_RI B) := by
  refine c_Con_strip ⟨fun q => ?_, fun q => ?_⟩
  · rw [za_strip, if_pos q] at hB
    rw [q]
    exact hB μ (zq.rf _ _) h
  · rw [za_strip, if_neg q] at hB
    refine za_keepC hk h fun μ1 z1 c1 => za_dropC (za_keep_ok hk) hs6 c1 (by omega) (by show n < (σ.1.1 : Int); omega) fun μ2 z2 c2 => hB μ2 ((z1.up (by decide)).tr (z2.up (by decide))) c2
end
