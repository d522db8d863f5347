/-! played *-/
def za_fol (L : Option (List (Int × Int))) (sis s x y : Int) (σ : za_S) : Int × za_S :=
  if s = 2 then za_vow x y sis σ else if s = 3 then za_sin L x y sis σ else if s = 4 then za_pass x (Int.tdiv y 6) (Int.tmod y 6) sis σ else if s = 5 then za_forg x σ else if s = 6 then za_later x σ else (0, σ)
theorem za_fol_ok {L : Option (List (Int × Int))} {sis s x y : Int} {σ : za_S} (h : za_ok σ sis) : za_ok (za_fol L sis s x y σ).2 sis := by
  unfold za_fol
  split
  · exact za_vow_ok h
  · split
    · exact za_sin_ok h
    · split
      · exact za_pass_ok h
      · split
        · exact za_forg_ok h
        · split
          · exact za_later_ok h
          · exact h
theorem za_find_r {k f : Int} {σ : za_S} : za_find k f σ = -1 ∨ 0 ≤ za_find k f σ := by
  unfold za_find
  rcases zb_s_spec _ σ.1.1 0 with h | ⟨j, h1, h2, h3, h4⟩
  · exact Or.inl h.1
  · rw [h3]
    omega
theorem za_fol_r {L : Option (List (Int × Int))} {sis s x y : Int} {σ : za_S} (h : za_ok σ sis) : (za_fol L sis s x y σ).1 = -1 ∨ 0 ≤ (za_fol L sis s x y σ).1 := by
  unfold za_fol
  split
  · unfold za_vow
    split
    · exact Or.inr (Int.natCast_nonneg _)
    · exact Or.inl rfl
  · split
    · rw [za_sin_1]
      have := za_sn_r (L := L) (σ := σ) (s := y) (sin := x) (sis := sis)
      omega
    · split
      · unfold za_pass
        split
        · exact za_find_r
        · exact Or.inl rfl
      · split
        · unfold za_forg
          split
          · rename_i q
            exact Or.inr (h.1.2.2.1 x.toNat (by omega)).2.2.2.2.2.1
          · exact Or.inl rfl
        · split
          · unfold za_later
            split
            · right
              have := h.1.2.1
              show 0 ≤ σ.1.2.1 + x
              omega
            · exact Or.inl rfl
          · exact Or.inr (Int.le_refl 0)
def za_play (L : Option (List (Int × Int))) (sis : Int) (f : Nat → Int × Int × Int) : Nat → Nat → za_S → Int × za_S
  | 0, _, σ => (-1, σ)
  | m + 1, n, σ => if (za_fol L sis (f n).1 (f n).2.1 (f n).2.2 σ).1 = -1 then ((n : Int), (za_fol L sis (f n).1 (f n).2.1 (f n).2.2 σ).2) else za_play L sis f m (n + 1) (za_fol L sis (f n).1 (f n).2.1 (f n).2.2 σ).2
theorem za_play_ok {L : Option (List (Int × Int))} {sis : Int} {f : Nat → Int × Int × Int} : ∀ (m n : Nat) (σ : za_S), za_ok σ sis → za_ok (za_play L sis f m n σ).2 sis
  | 0, _, _, h => h
  | m + 1, n, σ, h => by
    rw [za_play]
    split
    · exact za_fol_ok h
    · exact za_play_ok m (n + 1) _ (za_fol_ok h)
theorem n_Vos_played_8 {x1 : Int} {μ : zk_M} {Q : Int → zk_M → Prop} (h : Q (-2) μ) : zk_K 127 8 [.inr (.inr (.inl 1)), .inl x1, .inr (.inr (.inr 0)), .inr (.inr (.inr 0))] [.inr (.inr (.inl 0))] μ (zk_RI Q) :=
  zk_t zk_Vos_played [(8, [true, true, false, false]), (29, [true, false, true, true])] 4 33 rfl ⟨fun _ => h, fun q => absurd rfl q⟩
section
variable {μ : zk_M} {BV : zk_M → Prop} {B : Int → zk_M → Prop} {σ : za_S} {sis : Int}
theorem za_fin {r : Int} (b : B (if r = -1 then 0 else 1) μ) : (r = -1 → B 0 μ) ∧ (¬ r = -1 → B 1 μ) := ⟨fun w => by rw [if_pos w] at b; exact b, fun w => by rw [if_neg w] at b; exact b⟩
theorem za_fin2 {r : Int} (hr : r = -1 ∨ 0 ≤ r) (b : B (if r = -1 then 0 else 1) μ) : (r < 0 → B 0 μ) ∧ (¬ (r < 0) → B 1 μ) := ⟨fun w => by rw [if_pos (by omega)] at b; exact b, fun w => by rw [if_neg (by omega)] at b; exact b⟩
theorem sp_part {t : Nat} (ht : t < 4) {j : Nat} {w : Int} (hj : j < 24) (hw : 0 ≤ w ∧ w < 4) (hB : B (μ (27 + 4 * t) (4 * j + w)) μ) : zk_C 74 [.inr (.inr (.inl (26 + 4 * t))), .inl (j : Int), .inl w] μ (zk_RI B) := by
  refine c_Scr_part (zk_26 ht) ⟨by omega, by omega, fun q => by omega, fun _ => ⟨fun q => by omega, fun _ => ⟨by omega, ?_⟩⟩⟩
  rw [show 26 + 4 * t + 1 = 27 + 4 * t by omega, show (j : Int) * 4 + w = 4 * j + w by omega]
  exact hB
theorem za_folC {t j : Nat} {s x y : Int} {L : Option (List (Int × Int))} (ht : t < 4) (hj : j < 24) (hk : za_ok σ sis) (hs : sis ≤ 6) (h : za_C μ 4 σ) (h20 : μ 2 0 = sis) (hL : zgC μ (μ 2 2) L) (hc : zx_cla (μ (27 + 4 * t) (4 * j)) (μ (27 + 4 * t) (4 * j + 1)) (μ (27 + 4 * t) (4 * j + 2)) (μ (27 + 4 * t) (4 * j + 3)) s x y) (hB : ∀ μ', zq (4 :: 5 :: 6 :: zi_lc) μ μ' → za_C μ' 4 (za_fol L sis s x y σ).2 → B (if (za_fol L sis s x y σ).1 = -1 then 0 else 1) μ') : zk_C 128 [.inr (.inr (.inl 1)), .inr (.inr (.inl (26 + 4 * t))), .inl (j : Int)] μ (zk_RI B) := by
  refine c_Vos_follow (zk_26 ht) (sp_part ht hj (by decide) (sp_part ht hj (by decide) (sp_part ht hj (by decide) ?_)))
  rw [Int.add_zero]
  generalize μ (27 + 4 * t) (4 * j) = W at hc ⊢
  generalize μ (27 + 4 * t) (4 * j + 1) = a at hc ⊢
  generalize μ (27 + 4 * t) (4 * j + 2) = b at hc ⊢
  refine ⟨fun q => ?_, fun n1 => ⟨fun q => sp_part ht hj (by decide) ?_, fun n2 => ⟨fun q => ?_, fun n3 => ⟨fun q => ?_, fun n4 => ⟨fun q => ?_, fun n5 => ?_⟩⟩⟩⟩⟩
  · have e : s = 2 ∧ a = x ∧ b = y := by unfold zx_cla at hc; omega
    obtain ⟨rfl, rfl, rfl⟩ := e
    exact za_vowC hk hs h20 h fun μ1 z1 d1 => za_fin (hB μ1 (z1.up (by decide)) d1)
  · generalize μ (27 + 4 * t) (4 * j + 3) = c at hc ⊢
    have e : s = 4 ∧ a = x ∧ 0 ≤ b ∧ b ≤ 5 ∧ 0 ≤ c ∧ c ≤ 5 ∧ y = 6 * b + c := by unfold zx_cla at hc; omega
    obtain ⟨rfl, rfl, b1, b2, c1, c2, rfl⟩ := e
    have e1 : Int.tdiv (6 * b + c) 6 = b := by rw [Int.tdiv_eq_ediv_of_nonneg (by omega)]; omega
    have e2 : Int.tmod (6 * b + c) 6 = c := by rw [Int.tmod_eq_emod_of_nonneg (by omega)]; omega
    have e : za_fol L sis 4 a (6 * b + c) σ = za_pass a b c sis σ := by
      show za_pass a (Int.tdiv (6 * b + c) 6) (Int.tmod (6 * b + c) 6) sis σ = _
      rw [e1, e2]
    rw [e] at hB
    exact za_passC hk hs h20 h fun μ1 z1 d1 => za_fin (hB μ1 (z1.up (by decide)) d1)
  · have e : s = 5 ∧ a = x := by unfold zx_cla at hc; omega
    obtain ⟨rfl, rfl⟩ := e
    exact za_forgC hk hs h fun μ1 z1 d1 => za_fin (hB μ1 (z1.up (by decide)) d1)
  · have e : s = 6 ∧ a = x := by unfold zx_cla at hc; omega
    obtain ⟨rfl, rfl⟩ := e
    exact za_laterC hk h fun μ1 z1 d1 => za_fin (hB μ1 (z1.up (by decide)) d1)
  · have e : s = 3 ∧ a = x ∧ b = y := by unfold zx_cla at hc; omega
    obtain ⟨rfl, rfl, rfl⟩ := e
    exact za_sinC hk hs h h20 hL fun μ1 z1 d1 => za_fin (hB μ1 z1 d1)
  · have e : s = 0 ∨ s = 1 := by unfold zx_cla at hc; omega
    have e2 : za_fol L sis s x y σ = (0, σ) := by rcases e with rfl | rfl <;> rfl
    rw [e2] at hB
    exact hB μ (zq.rf _ _) h
theorem za_folM {q s x y : Int} {L : Option (List (Int × Int))} (hq : 0 ≤ q ∧ q < 2718) (hk : za_ok σ sis) (hs : 0 ≤ sis ∧ sis ≤ 6) (h0 : μ 61 0 = sis) (h : za_M (μ 61) σ) (hL : zvM μ (μ 61 4) 1 (1, 0) L) (e0 : μ 63 q = s) (e1 : μ 63 (q + 1) = x) (e2 : μ 63 (q + 2) = y) (hc : 0 ≤ s ∧ s ≤ 6 ∧ (s = 4 → 0 ≤ y ∧ y ≤ 35)) (hB : ∀ μ', zq (61 :: zi_lm) μ μ' → (∀ i : Int, i < 46 → i ≠ 1 → i ≠ 2 → i ≠ 5 → μ' 61 i = μ 61 i) → za_M (μ' 61) (za_fol L sis s x y σ).2 → B (if (za_fol L sis s x y σ).1 = -1 then 0 else 1) μ') : zk_C 213 [.inr (.inr (.inl 60)), .inl q] μ (zk_RI B) := by
  refine c_Mod_isPlayed ⟨by omega, by omega, by omega, by omega, by omega, ?_⟩
  rw [e0, e1, e2]
  refine ⟨fun w => ?_, fun n1 => ⟨fun w => ?_, fun n2 => ⟨fun w => ?_, fun n3 => ⟨fun w => ?_, fun n4 => ⟨fun w => ?_, fun n5 => ?_⟩⟩⟩⟩⟩
  · subst w
    have r := za_fol_r (L := L) (sis := sis) (s := 2) (x := x) (y := y) hk
    exact za_vowM hk hs h0 h fun μ1 z1 g1 d1 => za_fin2 r (hB μ1 (z1.up (by decide)) g1 d1)
  · subst w
    have r := za_fol_r (L := L) (sis := sis) (s := 3) (x := x) (y := y) hk
    exact za_sinM hk hs h0 h hL fun μ1 z1 g1 d1 => za_fin2 r (hB μ1 z1 g1 d1)
  · subst w
    have r := za_fol_r (L := L) (sis := sis) (s := 4) (x := x) (y := y) hk
    have yy := hc.2.2 rfl
    exact ⟨za_td (by omega) (by decide), za_td (by omega) (by decide), za_passM hk hs h0 h fun μ1 z1 g1 d1 => za_fin2 r (hB μ1 (z1.up (by decide)) g1 d1)⟩
  · subst w
    have r := za_fol_r (L := L) (sis := sis) (s := 5) (x := x) (y := y) hk
    exact za_forgM hk h fun μ1 z1 g1 d1 => za_fin2 r (hB μ1 (z1.up (by decide)) g1 d1)
  · subst w
    have r := za_fol_r (L := L) (sis := sis) (s := 6) (x := x) (y := y) hk
    exact za_laterM hk h fun μ1 z1 g1 d1 => za_fin2 r (hB μ1 (z1.up (by decide)) g1 d1)
  · have e2 : za_fol L sis s x y σ = (0, σ) := by rcases (show s = 0 ∨ s = 1 by omega) with rfl | rfl <;> rfl
    rw [e2] at hB
    exact hB μ (zq.rf _ _) (fun _ _ _ _ _ => rfl) h
end
theorem zo_played (x : Int) : zo 127 214 [.inl x] := fun μ hi => by
  obtain ⟨⟨s1, s2, s3⟩, ⟨t1, t2, t3⟩, ⟨r1, r2, r3⟩, ⟨σ, c1, c2, hk⟩, _⟩ := hi.1
  obtain ⟨Lw, Lg, l1, l2, l3, l4⟩ := zi_laws hi (x := μ 61 4) ⟨r2, r3⟩
  have no : ¬ (0 ≤ x ∧ x < μ 61 3) → (fun r1 μ1 => μ1 0 = μ 0 ∧ zk_C 214 (.inr (.inr (.inl 60)) :: [.inl x]) μ1 (zk_RI fun r2 μ2 => r1 = r2 ∧ zi μ2 ∧ μ2 0 = μ 0)) (-2 : Int) μ := fun q => ⟨rfl, c_Mod_played ⟨by omega, sp_isIn (fun a b => absurd ⟨a, by omega⟩ q) (fun _ => ⟨fun q => absurd rfl q, fun _ => ⟨rfl, hi, rfl⟩⟩)⟩⟩
  by_cases hx : 0 ≤ x ∧ x < μ 61 3
  · obtain ⟨t, rfl⟩ := Int.eq_ofNat_of_zero_le hx.1
    have ht : t < 4 := by omega
    obtain ⟨a1, a2, a3, a4, _⟩ := hi.2.2.2.2.2 t hx.2
    obtain ⟨m, hm⟩ := Int.eq_ofNat_of_zero_le a1
    have fin : ∀ ν, zq (4 :: 5 :: 6 :: zi_lc) μ ν → za_C ν 4 (za_play Lg (μ 61 0) (fun j => (μ 63 (680 * t + 1 + 3 * j), μ 63 (680 * t + 2 + 3 * j), μ 63 (680 * t + 3 + 3 * j))) m 0 σ).2 → (fun r1 μ1 => μ1 0 = μ 0 ∧ zk_C 214 (.inr (.inr (.inl 60)) :: [.inl (t : Int)]) μ1 (zk_RI fun r2 μ2 => r1 = r2 ∧ zi μ2 ∧ μ2 0 = μ 0)) (za_play Lg (μ 61 0) (fun j => (μ 63 (680 * t + 1 + 3 * j), μ 63 (680 * t + 2 + 3 * j), μ 63 (680 * t + 3 + 3 * j))) m 0 σ).1 ν := fun ν z1 d1 => by
      have e61 : ν 61 = μ 61 := z1 61 (by decide)
      have e63 : ν 63 = μ 63 := z1 63 (by decide)
      refine ⟨z1 0 (by decide), c_Mod_played ⟨by rw [e61]; omega, sp_isIn (fun _ _ => ⟨fun _ => ?_, fun q => absurd q (by decide)⟩) (fun q => absurd ⟨by omega, by rw [e61]; omega⟩ q)⟩⟩
      have lp : ∀ n, n ≤ m → (∀ (τ : za_S) (ξ : zk_M), za_ok τ (μ 61 0) → za_M (ξ 61) τ → zq (61 :: zi_lm) ν ξ → (∀ i : Int, i < 46 → i ≠ 1 → i ≠ 2 → i ≠ 5 → ξ 61 i = ν 61 i) → za_play Lg (μ 61 0) (fun j => (μ 63 (680 * t + 1 + 3 * j), μ 63 (680 * t + 2 + 3 * j), μ 63 (680 * t + 3 + 3 * j))) (m - n) n τ = za_play Lg (μ 61 0) (fun j => (μ 63 (680 * t + 1 + 3 * j), μ 63 (680 * t + 2 + 3 * j), μ 63 (680 * t + 3 + 3 * j))) m 0 σ → zk_K 214 21 [.inr (.inr (.inl 60)), .inl (t : Int), .inl (n : Int)] [] ξ (zk_RI fun r2 μ2 => (za_play Lg (μ 61 0) (fun j => (μ 63 (680 * t + 1 + 3 * j), μ 63 (680 * t + 2 + 3 * j), μ 63 (680 * t + 3 + 3 * j))) m 0 σ).1 = r2 ∧ zi μ2 ∧ μ2 0 = μ 0)) := by
        refine zl_up (fun τ ξ k1 k2 k3 k4 k5 => ?_) (fun n hn ih τ ξ k1 k2 k3 k4 k5 => ?_)
        · have x63 : ξ 63 = μ 63 := (k3 63 (by decide)).trans e63
          refine t_Mod_played_21 ⟨by omega, by omega, fun _ => ?_, fun q => absurd (by rw [x63, hm]; exact Int.le_refl _) q⟩
          rw [← k5, Nat.sub_self] at d1 ⊢
          exact ⟨rfl, zi_deed2 hi (z1.up (by decide)) d1 (k3.up (by decide)) k4 k2 k1⟩
        · have x63 : ξ 63 = μ 63 := (k3 63 (by decide)).trans e63
          have kk : za_play Lg (μ 61 0) (fun j => (μ 63 (680 * t + 1 + 3 * j), μ 63 (680 * t + 2 + 3 * j), μ 63 (680 * t + 3 + 3 * j))) (m - n) n τ = za_play Lg (μ 61 0) (fun j => (μ 63 (680 * t + 1 + 3 * j), μ 63 (680 * t + 2 + 3 * j), μ 63 (680 * t + 3 + 3 * j))) ((m - (n + 1)) + 1) n τ := by rw [show m - n = (m - (n + 1)) + 1 by omega]
          rw [kk, za_play] at k5
          simp only at k5
          have hc := a4 n (by omega)
          refine t_Mod_played_21 ⟨by omega, by omega, fun q => by rw [x63] at q; omega, fun _ => ⟨by omega, by omega, by omega, by omega, za_folM (L := Lg) (sis := μ 61 0) (by omega) k1 ⟨s2, s3⟩ ?_ k2 ?_ (by rw [x63]) (by rw [x63, show (680 * (t : Int) + 1 + 3 * n + 1) = 680 * t + 2 + 3 * n by omega]) (by rw [x63, show (680 * (t : Int) + 1 + 3 * n + 2) = 680 * t + 3 + 3 * n by omega]) ?_ (fun ξ2 y2 g2 c2 => ?_)⟩⟩
          · rw [k4 0 (by decide) (by decide) (by decide) (by decide), e61]
          · rw [k4 4 (by decide) (by decide) (by decide) (by decide), e61]
            exact zvM_q x63 l4
          · unfold zx_cla at hc
            omega
          · by_cases w : (za_fol Lg (μ 61 0) (μ 63 (680 * t + 1 + 3 * n)) (μ 63 (680 * t + 2 + 3 * n)) (μ 63 (680 * t + 3 + 3 * n)) τ).1 = -1
            · rw [if_pos w] at k5 ⊢
              refine ⟨fun q => absurd rfl q, fun _ => ?_⟩
              rw [← k5] at d1 ⊢
              exact ⟨rfl, zi_deed2 hi (z1.up (by decide)) d1 ((k3.tr y2).up (by decide)) (fun i i1 i2 i3 i4 => (g2 i i1 i2 i3 i4).trans (k4 i i1 i2 i3 i4)) c2 (za_fol_ok k1)⟩
            · rw [if_neg w] at k5 ⊢
              exact ⟨fun _ => ⟨by omega, ih _ ξ2 (za_fol_ok k1) c2 (k3.tr y2) (fun i i1 i2 i3 i4 => (g2 i i1 i2 i3 i4).trans (k4 i i1 i2 i3 i4)) k5⟩, fun q => absurd q (by decide)⟩
      exact lp 0 (Nat.zero_le _) σ ν hk (by rw [e61]; exact c2) (zq.rf _ _) (fun _ _ _ _ _ => rfl) rfl
    refine c_Vos_played (c_Law_scriptAt ⟨fun q => by omega, fun _ => ⟨fun q => by omega, fun _ => ⟨by omega, ?_⟩⟩⟩)
    rw [zk_rho23 ht]
    refine t_Vos_played_8 (zk_26 ht) ⟨fun q => by omega, fun _ => sp_hasText (fun _ _ => ⟨fun _ => ?_, fun q => absurd q (by decide)⟩) (fun q => absurd ⟨by omega, by omega⟩ q)⟩
    have lp : ∀ n, n ≤ m → (∀ (τ : za_S) (ξ : zk_M), za_ok τ (μ 61 0) → za_C ξ 4 τ → zq (4 :: 5 :: 6 :: zi_lc) μ ξ → za_play Lg (μ 61 0) (fun j => (μ 63 (680 * t + 1 + 3 * j), μ 63 (680 * t + 2 + 3 * j), μ 63 (680 * t + 3 + 3 * j))) (m - n) n τ = za_play Lg (μ 61 0) (fun j => (μ 63 (680 * t + 1 + 3 * j), μ 63 (680 * t + 2 + 3 * j), μ 63 (680 * t + 3 + 3 * j))) m 0 σ → zk_K 127 29 [.inr (.inr (.inl 1)), .inr (.inr (.inr 0)), .inr (.inr (.inl (26 + 4 * t))), .inl (n : Int)] [] ξ (zk_RI (fun r1 μ1 => μ1 0 = μ 0 ∧ zk_C 214 (.inr (.inr (.inl 60)) :: [.inl (t : Int)]) μ1 (zk_RI fun r2 μ2 => r1 = r2 ∧ zi μ2 ∧ μ2 0 = μ 0)))) := by
      refine zl_up (fun τ ξ k1 k2 k3 k5 => ?_) (fun n hn ih τ ξ k1 k2 k3 k5 => ?_)
      · have x26 : ξ (26 + 4 * t) = μ (26 + 4 * t) := k3 _ (by simp [zi_lc]; omega)
        refine t_Vos_played_29 (zk_26 ht) ⟨fun _ => ?_, fun q => absurd (by rw [x26, a3, hm]; exact Int.le_refl _) q⟩
        have f := fin ξ k3
        rw [← k5, Nat.sub_self] at f
        exact f k2
      · have x26 : ξ (26 + 4 * t) = μ (26 + 4 * t) := k3 _ (by simp [zi_lc]; omega)
        have x27 : ξ (27 + 4 * t) = μ (27 + 4 * t) := k3 _ (by simp [zi_lc]; omega)
        have kk : za_play Lg (μ 61 0) (fun j => (μ 63 (680 * t + 1 + 3 * j), μ 63 (680 * t + 2 + 3 * j), μ 63 (680 * t + 3 + 3 * j))) (m - n) n τ = za_play Lg (μ 61 0) (fun j => (μ 63 (680 * t + 1 + 3 * j), μ 63 (680 * t + 2 + 3 * j), μ 63 (680 * t + 3 + 3 * j))) ((m - (n + 1)) + 1) n τ := by rw [show m - n = (m - (n + 1)) + 1 by omega]
        rw [kk, za_play] at k5
        simp only at k5
        have hc := a4 n (by omega)
        refine t_Vos_played_29 (zk_26 ht) ⟨fun q => by rw [x26, a3] at q; omega, fun _ => za_folC (L := Lg) (sis := μ 61 0) ht (by omega) k1 s3 k2 (by rw [k3 2 (by decide)]; exact s1) ?_ (by rw [x27]; exact hc) (fun ξ2 y2 c2 => ?_)⟩
        · rw [k3 2 (by decide), r1]
          exact zgC_q (fun c hc => k3 c (by simp [zi_lc]; omega)) l2
        · by_cases w : (za_fol Lg (μ 61 0) (μ 63 (680 * t + 1 + 3 * n)) (μ 63 (680 * t + 2 + 3 * n)) (μ 63 (680 * t + 3 + 3 * n)) τ).1 = -1
          · rw [if_pos w] at k5 ⊢
            refine ⟨fun q => absurd rfl q, fun _ => ?_⟩
            have f := fin ξ2 (k3.tr y2)
            rw [← k5] at f
            exact f c2
          · rw [if_neg w] at k5 ⊢
            exact ⟨fun _ => ⟨by omega, ih _ ξ2 (za_fol_ok k1) c2 (k3.tr y2) k5⟩, fun q => absurd q (by decide)⟩
    exact lp 0 (Nat.zero_le _) σ μ hk c1 (zq.rf _ _) rfl
  · refine c_Vos_played (c_Law_scriptAt ⟨fun q => n_Vos_played_8 (no hx), fun _ => ⟨fun q => n_Vos_played_8 (no hx), fun _ => ⟨by omega, ?_⟩⟩⟩)
    obtain ⟨t, rfl⟩ := Int.eq_ofNat_of_zero_le (show 0 ≤ x by omega)
    have ht : t < 4 := by omega
    rw [zk_rho23 ht]
    exact t_Vos_played_8 (zk_26 ht) ⟨fun q => by omega, fun _ => sp_hasText (fun _ _ => absurd ⟨by omega, by omega⟩ hx) (fun _ => ⟨fun q => absurd rfl q, fun _ => no hx⟩)⟩
