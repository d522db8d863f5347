/-! storm *-/
theorem za_td {x y : Int} (hx : 0 ≤ x ∧ x ≤ 2147483647) (hy : 0 < y) : y ≠ 0 ∧ -2147483648 ≤ Int.tdiv x y ∧ Int.tdiv x y ≤ 2147483647 := by
  rw [Int.tdiv_eq_ediv_of_nonneg hx.1]
  have h1 := Int.ediv_nonneg hx.1 (Int.le_of_lt hy)
  have h2 := Int.ediv_le_self y hx.1
  exact ⟨by omega, by omega, by omega⟩
theorem za_tm {x y : Int} (hx : 0 ≤ x) (hy : 0 < y) : 0 ≤ Int.tmod x y ∧ Int.tmod x y < y := by
  rw [Int.tmod_eq_emod_of_nonneg hx]
  exact ⟨Int.emod_nonneg _ (by omega), Int.emod_lt_of_pos _ hy⟩
def za_an (x : Int) : Int := Int.tmod (x * 167 + 71) 30047
theorem za_an_r {x : Int} (h : 0 ≤ x) : 0 ≤ za_an x ∧ za_an x < 30047 := za_tm (by omega) (by decide)
def za_stm (L : Option (List (Int × Int))) (sis : Int) : Nat → Int → Int → za_S → Int × za_S
  | 0, _, k, σ => (k, σ)
  | m + 1, x, k, σ => if za_ftg L σ (Int.tmod x sis) (Int.tmod (za_an x) 6) = -1 then za_stm L sis m (za_an (za_an x)) k σ else za_stm L sis m (za_an (za_an x)) (k + 1) (za_mv (za_ftg L σ (Int.tmod x sis) (Int.tmod (za_an x) 6)).toNat 6 (σ.1.2.2 (za_ftg L σ (Int.tmod x sis) (Int.tmod (za_an x) 6)).toNat).2.2.2 σ)
def za_storm (L : Option (List (Int × Int))) (seed n sis : Int) (σ : za_S) : Int × za_S := if (0 ≤ seed ∧ seed ≤ 9999) ∧ (1 ≤ n ∧ n ≤ 60) ∧ 0 < sis then za_stm L sis n.toNat (seed * 8 + 3) 0 (za_keep σ) else (-1, σ)
theorem za_drop_ok {σ : za_S} {sis n : Int} (h : za_ok σ sis) (h0 : 0 ≤ n) (hn : n < σ.1.1) : za_ok (za_mv n.toNat 6 (σ.1.2.2 n.toNat).2.2.2 σ) sis := by
  have hw := (h.1.2.2.1 n.toNat (by omega)).2.2.2.2.2
  exact za_mv_ok h (by omega) (Or.inr rfl) hw
theorem za_stm_ok {L : Option (List (Int × Int))} {sis : Int} : ∀ (m : Nat) (x k : Int) (σ : za_S), za_ok σ sis → za_ok (za_stm L sis m x k σ).2 sis
  | 0, _, _, _, h => h
  | m + 1, x, k, σ, h => by
    rw [za_stm]
    have hr := za_ftg_r (L := L) (σ := σ) (s := Int.tmod x sis) (sin := Int.tmod (za_an x) 6)
    split
    · exact za_stm_ok m _ _ _ h
    · rename_i q
      exact za_stm_ok m _ _ _ (za_drop_ok h (by omega) (by omega))
theorem za_storm_ok {L : Option (List (Int × Int))} {seed n sis : Int} {σ : za_S} (h : za_ok σ sis) : za_ok (za_storm L seed n sis σ).2 sis := by
  unfold za_storm
  split
  · exact za_stm_ok _ _ _ _ (za_keep_ok h)
  · exact h
section
variable {μ : zk_M} {BV : zk_M → Prop} {B : Int → zk_M → Prop} {σ : za_S} {sis : Int}
theorem sp_anew {x : Int} (h : 0 ≤ x ∧ x ≤ 79995) (hB : B (za_an x) μ) : zk_C 215 [.inl x] μ (zk_RI B) :=
  c_Mod_anew ⟨by omega, by omega, za_td (by omega) (by decide), hB⟩
theorem za_stormC {seed n : Int} {L : Option (List (Int × Int))} (hk : za_ok σ sis) (hs : sis ≤ 6) (h : za_C μ 4 σ) (h20 : μ 2 0 = sis) (hL : zgC μ (μ 2 2) L) (hB : ∀ μ', zq (4 :: 5 :: 6 :: zi_lc) μ μ' → za_C μ' 4 (za_storm L seed n sis σ).2 → B (za_storm L seed n sis σ).1 μ') : zk_C 11 [.inr (.inr (.inl 2)), .inl seed, .inl n, .inr (.inr (.inl 22))] μ (zk_RI B) := by
  have no : ¬ ((0 ≤ seed ∧ seed ≤ 9999) ∧ (1 ≤ n ∧ n ≤ 60) ∧ 0 < sis) → B (-1) μ := fun q => by
    have e : za_storm L seed n sis σ = (-1, σ) := if_neg q
    rw [e] at hB
    exact hB μ (zq.rf _ _) h
  refine c_Con_rage ⟨fun q => no (by omega), fun q1 => ⟨fun q => no (by omega), fun q2 => ⟨fun q => no (by omega), fun q3 => ⟨fun q => no (by omega), fun q4 => ⟨fun q5 => za_keepC hk h fun μ1 z1 c1 => ⟨by omega, by omega, ?_⟩, fun q => no (by omega)⟩⟩⟩⟩⟩
  have e : za_storm L seed n sis σ = za_stm L sis n.toNat (seed * 8 + 3) 0 (za_keep σ) := if_pos ⟨by omega, by omega, by omega⟩
  rw [e] at hB
  obtain ⟨m, rfl⟩ := Int.eq_ofNat_of_zero_le (show 0 ≤ n by omega)
  rw [Int.toNat_natCast] at hB
  have hp : 0 < sis := by omega
  have lp : ∀ n, n ≤ m → (∀ (τ : za_S) (ν : zk_M) (x k : Int), za_ok τ sis → za_C ν 4 τ → zq (4 :: 5 :: 6 :: zi_lc) μ ν → (0 ≤ x ∧ x ≤ 79995) → (0 ≤ k ∧ k ≤ n) → za_stm L sis (m - n) x k τ = za_stm L sis m (seed * 8 + 3) 0 (za_keep σ) → zk_K 11 56 [.inr (.inr (.inl 2)), .inr (.inr (.inr 0)), .inl (m : Int), .inr (.inr (.inl 22)), .inl k, .inl x, .inl (n : Int), .inr (.inr (.inr 0)), .inr (.inr (.inr 0))] [] ν (zk_RI B)) := by
    refine zl_up (fun τ ν x k k1 k2 k3 k4 k5 k6 => t_Con_rage_56 ⟨fun _ => ?_, fun q => absurd (Int.le_refl _) q⟩) (fun n hn ih τ ν x k k1 k2 k3 k4 k5 k6 => t_Con_rage_56 ⟨fun q => by omega, fun _ => ?_⟩)
    · rw [← k6, Nat.sub_self] at hB
      exact hB ν k3 k2
    · have e1 : Int.tmod (x * 167 + 71) 30047 = za_an x := rfl
      have e2 : Int.tmod (za_an x * 167 + 71) 30047 = za_an (za_an x) := rfl
      have h2 : ν 2 0 = sis := by rw [k3 2 (by decide)]; exact h20
      have a1 := za_an_r k4.1
      have a2 := za_an_r a1.1
      have a3 := za_tm (x := za_an x) (y := 6) a1.1 (by decide)
      have a4 := za_tm k4.1 hp
      have hr := za_ftg_r (L := L) (σ := τ) (s := Int.tmod x sis) (sin := Int.tmod (za_an x) 6)
      have kk : za_stm L sis (m - n) x k τ = za_stm L sis ((m - (n + 1)) + 1) x k τ := by rw [show m - n = (m - (n + 1)) + 1 by omega]
      rw [kk, za_stm] at k6
      simp only [e1, e2, h2]
      refine ⟨za_td (by omega) hp, by omega, by omega, za_td (by omega) (by decide), za_td (by omega) (by decide), sp_ftg k1 hs k2 h2 (L := L) ?_ (fun ξ y => ?_)⟩
      · rw [k3 2 (by decide)]
        exact zgC_q (fun c hc => k3 c (by simp [zi_lc]; omega)) hL
      · rw [if_pos (by omega)]
        refine ⟨by omega, by omega, za_td (by omega) (by decide), fun w => ⟨by omega, ?_⟩, fun w => za_dropC k1 hs (za_C_cg (y _ (by decide)) (y _ (by decide)) (y _ (by decide)) k2) (by omega) (by omega) fun ξ2 y2 c2 => ⟨by omega, by omega, ?_⟩⟩
        · rw [if_pos w] at k6
          exact ih τ ξ _ k k1 (za_C_cg (y _ (by decide)) (y _ (by decide)) (y _ (by decide)) k2) (k3.tr (y.up (by decide))) (by omega) (by omega) k6
        · rw [if_neg w] at k6
          exact ih _ ξ2 _ (k + 1) (za_drop_ok k1 (by omega) (by omega)) c2 (k3.tr ((y.up (by decide)).tr (y2.up (by decide)))) (by omega) (by omega) k6
  exact lp 0 (Nat.zero_le _) (za_keep σ) μ1 _ 0 (za_keep_ok hk) c1 (z1.up (by decide)) (by omega) (by decide) rfl
theorem za_stormM {seed n : Int} {L : Option (List (Int × Int))} (hk : za_ok σ sis) (hs : 0 ≤ sis ∧ sis ≤ 6) (h0 : μ 61 0 = sis) (h : za_M (μ 61) σ) (hL : zvM μ (μ 61 4) 1 (1, 0) L) (hB : ∀ μ', zq (61 :: zi_lm) μ μ' → (∀ i : Int, i < 46 → i ≠ 1 → i ≠ 2 → i ≠ 5 → μ' 61 i = μ 61 i) → za_M (μ' 61) (za_storm L seed n sis σ).2 → B (za_storm L seed n sis σ).1 μ') : zk_C 216 [.inr (.inr (.inl 60)), .inl seed, .inl n] μ (zk_RI B) := by
  have no : ¬ ((0 ≤ seed ∧ seed ≤ 9999) ∧ (1 ≤ n ∧ n ≤ 60) ∧ 0 < sis) → B (-1) μ := fun q => by
    have e : za_storm L seed n sis σ = (-1, σ) := if_neg q
    rw [e] at hB
    exact hB μ (zq.rf _ _) (fun _ _ _ _ _ => rfl) h
  refine c_Mod_storm (sp_isIn (fun a1 a2 => ⟨fun q => absurd q (by decide), fun _ => sp_isIn (fun b1 b2 => ⟨fun q => absurd q (by decide), fun _ => ⟨fun q5 => za_keepM hk h fun μ1 z1 g1 c1 => ⟨by omega, by omega, ?_⟩, fun q => no (by omega)⟩⟩) (fun q => ⟨fun _ => no (by omega), fun q => absurd rfl q⟩)⟩) (fun q => ⟨fun _ => no (by omega), fun q => absurd rfl q⟩))
  have e : za_storm L seed n sis σ = za_stm L sis n.toNat (seed * 8 + 3) 0 (za_keep σ) := if_pos ⟨by omega, by omega, by omega⟩
  rw [e] at hB
  obtain ⟨m, rfl⟩ := Int.eq_ofNat_of_zero_le (show 0 ≤ n by omega)
  rw [Int.toNat_natCast] at hB
  have hp : 0 < sis := by omega
  have lp : ∀ n, n ≤ m → (∀ (τ : za_S) (ν : zk_M) (x k : Int), za_ok τ sis → za_M (ν 61) τ → zq (61 :: zi_lm) μ ν → (∀ i : Int, i < 46 → i ≠ 1 → i ≠ 2 → i ≠ 5 → ν 61 i = μ 61 i) → (0 ≤ x ∧ x ≤ 79995) → (0 ≤ k ∧ k ≤ n) → za_stm L sis (m - n) x k τ = za_stm L sis m (seed * 8 + 3) 0 (za_keep σ) → zk_K 216 49 [.inr (.inr (.inl 60)), .inr (.inr (.inr 0)), .inl (m : Int), .inl x, .inl k, .inl (n : Int), .inr (.inr (.inr 0)), .inr (.inr (.inr 0))] [] ν (zk_RI B)) := by
    refine zl_up (fun τ ν x k k1 k2 k3 g k4 k5 k6 => t_Mod_storm_49 ⟨fun _ => ?_, fun q => absurd (Int.le_refl _) q⟩) (fun n hn ih τ ν x k k1 k2 k3 g k4 k5 k6 => t_Mod_storm_49 ⟨fun q => by omega, fun _ => ?_⟩)
    · rw [← k6, Nat.sub_self] at hB
      exact hB ν k3 g k2
    · have h2 : ν 61 0 = sis := by rw [g 0 (by decide) (by decide) (by decide) (by decide)]; exact h0
      have a1 := za_an_r k4.1
      have a2 := za_an_r a1.1
      have a3 := za_tm (x := za_an x) (y := 6) a1.1 (by decide)
      have a4 := za_tm k4.1 hp
      have hr := za_ftg_r (L := L) (σ := τ) (s := Int.tmod x sis) (sin := Int.tmod (za_an x) 6)
      have kk : za_stm L sis (m - n) x k τ = za_stm L sis ((m - (n + 1)) + 1) x k τ := by rw [show m - n = (m - (n + 1)) + 1 by omega]
      rw [kk, za_stm] at k6
      have et : za_tk L τ (zs_mof ν (Int.tmod x sis) τ.1.1) (Int.tmod (za_an x) 6) = za_ftg L τ (Int.tmod x sis) (Int.tmod (za_an x) 6) := by rw [za_insM k2, za_tk_in]
      rw [h2]
      refine ⟨za_td (by omega) hp, sp_stonesOf k2.1 k1.1.1 (sp_anew (by omega) ⟨za_td (by omega) (by decide), sp_taken k1 hs.2 k2 (Nat.lt_trans (zb_t_le30 k1.1.1) (by decide)) (by omega) (L := L) ?_ (fun ξ y => sp_anew (by omega) ?_)⟩)⟩
      · rw [g 4 (by decide) (by decide) (by decide) (by decide)]
        exact zvM_q (k3 63 (by decide)) hL
      · rw [et]
        have e61 : ξ 61 = ν 61 := y 61 (by decide)
        refine ⟨fun w => za_dropM k1 (by rw [e61]; exact k2) w (by omega) fun ξ2 y2 g2 c2 => ⟨by omega, by omega, ?_⟩, fun w => ⟨by omega, ?_⟩⟩
        · rw [if_neg (by omega)] at k6
          exact ih _ ξ2 _ (k + 1) (za_drop_ok k1 (by omega) (by omega)) c2 (k3.tr ((y.up (by decide)).tr (y2.up (by decide)))) (fun i i1 i2 i3 i4 => by rw [g2 i i1, e61, g i i1 i2 i3 i4]) (by omega) (by omega) k6
        · rw [if_pos (by omega)] at k6
          exact ih τ ξ _ k k1 (by rw [e61]; exact k2) (k3.tr (y.up (by decide))) (fun i i1 i2 i3 i4 => by rw [e61, g i i1 i2 i3 i4]) (by omega) (by omega) k6
  exact lp 0 (Nat.zero_le _) (za_keep σ) μ1 _ 0 (za_keep_ok hk) c1 (z1.up (by decide)) (fun i i1 i2 i3 i4 => g1 i (by omega) i4) (by omega) (by decide) rfl
end
theorem zo_storm (x y : Int) : zo 129 216 [.inl x, .inl y] := fun μ hi => by
  obtain ⟨⟨s1, s2, s3⟩, t, ⟨r1, r2, r3⟩, ⟨σ, c1, c2, hk⟩, _⟩ := hi.1
  obtain ⟨Lw, Lg, l1, l2, l3, l4⟩ := zi_laws hi (x := μ 61 4) ⟨r2, r3⟩
  refine c_Vos_storm (za_stormC (L := Lg) hk s3 c1 s1 (by rw [r1]; exact l2) fun μ1 z1 d1 => ⟨z1 0 (by decide), ?_⟩)
  have e61 : μ1 61 = μ 61 := z1 61 (by decide)
  exact za_stormM (sis := μ 61 0) (L := Lg) hk ⟨s2, s3⟩ (by rw [e61]) (by rw [e61]; exact c2) (by rw [e61]; exact zvM_q (z1 63 (by decide)) l4) fun μ2 z2 g2 d2 => ⟨rfl, zi_deed2 hi (z1.up (by decide)) d1 (z2.up (by decide)) g2 d2 (za_storm_ok hk)⟩
