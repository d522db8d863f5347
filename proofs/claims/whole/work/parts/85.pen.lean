/-! one veil on the class's side *-/
def zn_A (μ : zk_M) (m : Nat) (w : Nat → Int) (gs : Nat → Nat → Bool) : Prop := m ≤ 8 ∧ μ 56 2 = (m : Int) ∧ (∀ i : Nat, i < m → μ 57 i = w i ∧ 0 ≤ w i ∧ w i ≤ 99) ∧ ∀ d : Nat, d < 6 → μ 58 d = ((zb_t (gs d) m : Nat) : Int)
def zi_lp : List Nat := [24, 29, 33, 37, 41, 56, 57, 58]
def zn_w (L : Option (List (Int × Int))) (σ : za_S) (s : Int) (i : Nat) : Int := zv_w L σ (zn_v σ s i)
def zn_gs (L : Option (List (Int × Int))) (σ : za_S) (s : Int) (d i : Nat) : Bool := zv_g L σ (d : Int) (zn_v σ s i)
def zn_S (w : Nat → Int) (m S : Nat) : Int := zs_sum (fun i => if S.testBit i then w i else 0) m
section
variable {μ : zk_M} {BV : zk_M → Prop} {B : Int → zk_M → Prop} {σ : za_S} {sis s : Int} {m : Nat} {w : Nat → Int} {gs : Nat → Nat → Bool}
theorem zn_A_q {μ' : zk_M} (h : zn_A μ m w gs) (h1 : μ' 56 2 = μ 56 2) (h2 : μ' 57 = μ 57) (h3 : μ' 58 = μ 58) : zn_A μ' m w gs := by
  unfold zn_A at *
  rw [h1, h2, h3]
  exact h
theorem sp_pLook {Lw Lg : Option (List (Int × Int))} (hk : za_ok σ sis) (hs : sis ≤ 6) (hs0 : s ≠ 6) (h : za_C μ 4 σ) (hL : zvC μ (μ 2 2) Lw) (hG : zgC μ (μ 2 2) Lg) (hB : ∀ μ', zq zi_lp μ μ' → zn_A μ' (za_n σ s) (zn_w Lw σ s) (zn_gs Lg σ s) → BV μ') : zk_C 33 [.inr (.inr (.inl 56)), .inr (.inr (.inl 2)), .inr (.inr (.inl 22)), .inl s] μ (zk_RV BV) := by
  have hc30 := hk.1.1
  have h8 : za_n σ s ≤ 8 := hk.1.2.2.2 s hs0
  have wr : ∀ i, i < za_n σ s → 0 ≤ zn_w Lw σ s i ∧ zn_w Lw σ s i ≤ 99 := fun i hi => zv_w_r (L := Lw) hk (zn_v_p hi).1
  have lp : ∀ n, n ≤ σ.1.1 → (∀ ν, zq zi_lp μ ν → ν 56 2 = (zn_ix σ s n : Int) → (∀ i : Nat, i < zn_ix σ s n → ν 57 i = zn_w Lw σ s i) → (∀ d : Nat, d < 6 → ν 58 d = ((zb_t (zn_gs Lg σ s d) (zn_ix σ s n) : Nat) : Int)) → zk_K 33 38 [.inr (.inr (.inl 56)), .inr (.inr (.inl 2)), .inr (.inr (.inl 22)), .inl s, .inr (.inr (.inl 3)), .inl (n : Int), .inr (.inr (.inr 0))] [] ν (zk_RV BV)) := by
    have fin : ∀ n ν, zn_ix σ s n = za_n σ s → zq zi_lp μ ν → ν 56 2 = (zn_ix σ s n : Int) → (∀ i : Nat, i < zn_ix σ s n → ν 57 i = zn_w Lw σ s i) → (∀ d : Nat, d < 6 → ν 58 d = ((zb_t (zn_gs Lg σ s d) (zn_ix σ s n) : Nat) : Int)) → BV ν := fun n ν e z h1 h2 h3 => by
      rw [e] at h1 h2 h3
      exact hB ν z ⟨h8, h1, fun i hi => ⟨h2 i hi, wr i hi⟩, h3⟩
    refine zl_up (fun ν z h1 h2 h3 => t_Pen_look_38 (c_Sto_count ⟨fun _ => fin _ ν rfl z h1 h2 h3, fun q => absurd (by rw [z 4 (by decide), za_C_c h]; exact Int.le_refl _) q⟩)) (fun n hn ih ν z h1 h2 h3 => ?_)
    have hC : za_C ν 4 σ := za_C_cg (z _ (by decide)) (z _ (by decide)) (z _ (by decide)) h
    have hcc := za_C_c hC
    have hm : zn_ix σ s (n + 1) ≤ za_n σ s := zb_c_mono (f := fun n => (σ.1.2.2 n).2.2.1 == s) (n := n + 1) σ.1.1 (by omega)
    rw [zn_ix_s] at hm ih
    refine t_Pen_look_38 (c_Sto_count ⟨fun q => by omega, fun _ => ⟨fun q => fin n ν (by split at hm <;> omega) z h1 h2 h3, fun q8 => za_plC hk hC (by omega) (by omega) ?_⟩⟩)
    rw [Int.toNat_natCast]
    refine ⟨fun q => ⟨by omega, ?_⟩, fun q => ?_⟩
    · rw [if_neg q] at ih
      exact ih ν z h1 h2 h3
    · rw [if_pos q] at ih hm
      have hv := zn_v_ix (σ := σ) (s := s) (n := n) (by omega) q
      rw [z 2 (by decide)]
      refine sp_weightC (L := Lw) hk hs hC (by omega) (by omega) (zvC_q (fun c hc => z c (by simp [zi_lp]; omega)) hL) (fun ν1 z1 => ?_)
      rw [Int.toNat_natCast, h1]
      refine ⟨by omega, ?_⟩
      have y1 : zq zi_lp μ (zk_set ν1 57 (zn_ix σ s n : Int) (zv_wt Lw (σ.1.2.2 n) σ.1.2.1 n)) := (z.tr (z1.up (by decide))).set (by decide) _ _
      have y56 : zk_set ν1 57 (zn_ix σ s n : Int) (zv_wt Lw (σ.1.2.2 n) σ.1.2.1 n) 56 2 = (zn_ix σ s n : Int) := by rw [zk_set_o (by decide), z1 56 (by decide)]; exact h1
      have y57 : ∀ i : Nat, i < zn_ix σ s n + 1 → zk_set ν1 57 (zn_ix σ s n : Int) (zv_wt Lw (σ.1.2.2 n) σ.1.2.1 n) 57 i = zn_w Lw σ s i := fun i hi => by
        by_cases e : i = zn_ix σ s n
        · rw [e, zk_set_s]
          unfold zn_w
          rw [hv.1]
          rfl
        · rw [zk_set_n (by omega), z1 57 (by decide)]
          exact h2 i (by omega)
      have y58 : ∀ d : Nat, d < 6 → zk_set ν1 57 (zn_ix σ s n : Int) (zv_wt Lw (σ.1.2.2 n) σ.1.2.1 n) 58 d = ((zb_t (zn_gs Lg σ s d) (zn_ix σ s n) : Nat) : Int) := fun d hd => by
        rw [zk_set_o (by decide), z1 58 (by decide)]
        exact h3 d hd
      generalize zk_set ν1 57 (zn_ix σ s n : Int) (zv_wt Lw (σ.1.2.2 n) σ.1.2.1 n) = ξ at *
      have l2 : ∀ j : Nat, j ≤ 6 → (∀ ξ, zq zi_lp μ ξ → ξ 56 2 = (zn_ix σ s n : Int) → (∀ i : Nat, i < zn_ix σ s n + 1 → ξ 57 i = zn_w Lw σ s i) → (∀ d : Nat, d < 6 → ξ 58 d = ((zb_t (zn_gs Lg σ s d) (if d < j then zn_ix σ s n + 1 else zn_ix σ s n) : Nat) : Int)) → zk_K 33 92 [.inr (.inr (.inl 56)), .inr (.inr (.inl 2)), .inr (.inr (.inl 22)), .inl s, .inr (.inr (.inl 3)), .inl (n : Int), .inl (j : Int)] [] ξ (zk_RV BV)) := by
        refine zl_up (P := fun j => ∀ ξ, zq zi_lp μ ξ → ξ 56 2 = (zn_ix σ s n : Int) → (∀ i : Nat, i < zn_ix σ s n + 1 → ξ 57 i = zn_w Lw σ s i) → (∀ d : Nat, d < 6 → ξ 58 d = ((zb_t (zn_gs Lg σ s d) (if d < j then zn_ix σ s n + 1 else zn_ix σ s n) : Nat) : Int)) → zk_K 33 92 [.inr (.inr (.inl 56)), .inr (.inr (.inl 2)), .inr (.inr (.inl 22)), .inl s, .inr (.inr (.inl 3)), .inl (n : Int), .inl (j : Int)] [] ξ (zk_RV BV)) (fun ξ x0 x1 x2 x3 => t_Pen_look_92 ⟨fun _ => ?_, fun q => absurd (by decide) q⟩) (fun j hj ih2 ξ x0 x1 x2 x3 => ?_)
        · rw [x1]
          refine ⟨by omega, by omega, ih _ (x0.set (by decide) _ _) (by rw [zk_set_s]; omega) (fun i hi => by rw [zk_set_o (by decide)]; exact x2 i hi) (fun d hd => ?_)⟩
          rw [zk_set_o (by decide)]
          have := x3 d hd
          rw [if_pos hd] at this
          exact this
        · have hC2 : za_C ξ 4 σ := za_C_cg (x0 _ (by decide)) (x0 _ (by decide)) (x0 _ (by decide)) h
          have k3 := x3 j hj
          rw [if_neg (Nat.lt_irrefl j)] at k3
          have gj : zn_gs Lg σ s j (zn_ix σ s n) = zv_go Lg (σ.1.2.2 n) σ.1.2.1 n j := by
            unfold zn_gs
            rw [hv.1]
            rfl
          refine t_Pen_look_92 ⟨fun q => by omega, fun _ => sp_goesC (L := Lg) hk hs hC2 (by omega) (by omega) (by omega) (by rw [x0 2 (by decide)]; exact zgC_q (fun c hc => x0 c (by simp [zi_lp]; omega)) hG) (fun w ξ2 y => ?_) (fun w ξ2 y => ?_)⟩
          · rw [Int.toNat_natCast] at w
            rw [w] at gj
            have k58 : ξ2 58 = ξ 58 := y 58 (by decide)
            rw [k58, y 56 (by decide), x1, k3, zb_t_or (by omega)]
            refine ⟨fun q => absurd q (by decide), fun _ => ⟨by omega, by omega, by omega, ih2 _ ((x0.tr (y.up (by decide))).set (by decide) _ _) (by rw [zk_set_o (by decide), y 56 (by decide)]; exact x1) (fun i hi => by rw [zk_set_o (by decide), y 57 (by decide)]; exact x2 i hi) (fun d hd => ?_)⟩⟩
            by_cases e : d = j
            · rw [e, zk_set_s, if_pos (by omega), zb_t, gj]
              rfl
            · rw [zk_set_n (by omega), k58, x3 d hd]
              by_cases e2 : d < j
              · rw [if_pos e2, if_pos (by omega)]
              · rw [if_neg e2, if_neg (by omega)]
          · rw [Int.toNat_natCast] at w
            rw [w] at gj
            refine ⟨fun _ => ⟨by omega, ih2 ξ2 (x0.tr (y.up (by decide))) (by rw [y 56 (by decide)]; exact x1) (fun i hi => by rw [y 57 (by decide)]; exact x2 i hi) (fun d hd => ?_)⟩, fun q => absurd rfl q⟩
            rw [y 58 (by decide), x3 d hd]
            by_cases e : d = j
            · rw [e, if_neg (by omega), if_pos (by omega), zb_t, gj]
              rfl
            · by_cases e2 : d < j
              · rw [if_pos e2, if_pos (by omega)]
              · rw [if_neg e2, if_neg (by omega)]
      exact l2 0 (by decide) ξ y1 y56 y57 (fun d hd => by rw [if_neg (by omega)]; exact y58 d hd)
  have l0 : ∀ j : Nat, j ≤ 6 → (∀ ν, zq zi_lp μ ν → ν 56 2 = 0 → (∀ d : Nat, d < j → ν 58 d = 0) → zk_K 33 14 [.inr (.inr (.inl 56)), .inr (.inr (.inl 2)), .inr (.inr (.inl 22)), .inl s, .inr (.inr (.inl 3)), .inl (j : Int), .inr (.inr (.inr 0))] [] ν (zk_RV BV)) := by
    refine zl_up (P := fun j => ∀ ν, zq zi_lp μ ν → ν 56 2 = 0 → (∀ d : Nat, d < j → ν 58 d = 0) → zk_K 33 14 [.inr (.inr (.inl 56)), .inr (.inr (.inl 2)), .inr (.inr (.inl 22)), .inl s, .inr (.inr (.inl 3)), .inl (j : Int), .inr (.inr (.inr 0))] [] ν (zk_RV BV)) (fun ν z h1 h3 => t_Pen_look_14 ⟨fun _ => lp 0 (Nat.zero_le _) ν z h1 (fun i hi => absurd hi (Nat.not_lt_zero i)) (fun d hd => h3 d hd), fun q => absurd (by decide) q⟩) (fun j hj ih ν z h1 h3 => t_Pen_look_14 ⟨fun q => by omega, fun _ => ⟨by omega, by omega, ih _ (z.set (by decide) _ _) (by rw [zk_set_o (by decide)]; exact h1) (fun d hd => ?_)⟩⟩)
    by_cases e : d = j
    · rw [e, zk_set_s]
    · rw [zk_set_n (by omega)]
      exact h3 d (by omega)
  exact c_Pen_look (l0 0 (by decide) _ ((zq.rf _ _).set (by decide) _ _) (zk_set_s _ _ _ _) (fun d hd => by omega))
theorem zn_S_r (hw : ∀ i, i < m → 0 ≤ w i ∧ w i ≤ 99) (S : Nat) {n : Nat} (hn : n ≤ m) : 0 ≤ zn_S w n S ∧ zn_S w n S ≤ 99 * n := zs_sum_r (by decide) n (fun i hi => by
  have := hw i (by omega)
  split <;> omega)
theorem sp_pW {S : Nat} (hA : zn_A μ m w gs) (hS : S < 2147483648) (h : B (zn_S w m S) μ) : zk_C 34 [.inr (.inr (.inl 56)), .inl (S : Int)] μ (zk_RI B) := by
  obtain ⟨h8, h2, h3, h4⟩ := hA
  have lp : ∀ n, n ≤ m → zk_K 34 4 [.inr (.inr (.inl 56)), .inl (S : Int), .inl (zn_S w n S), .inl (n : Int)] [] μ (zk_RI B) := by
    refine zl_up (t_Pen_weightOf_4 ⟨fun _ => h, fun q => absurd (by rw [h2]; exact Int.le_refl _) q⟩) (fun n hn ih => t_Pen_weightOf_4 ⟨fun q => by omega, fun _ => ⟨fun q => by omega, fun _ => ?_⟩⟩)
    have r := zn_S_r (w := w) (m := m) (fun i hi => (h3 i hi).2) S (n := n) (by omega)
    have e := h3 n hn
    have es : zn_S w (n + 1) S = zn_S w n S + (if S.testBit n then w n else 0) := rfl
    rw [es] at ih
    rw [zb_has (by omega) hS, e.1]
    cases hb : S.testBit n
    · rw [hb] at ih
      simp only [Bool.false_eq_true, if_false, Int.add_zero] at ih
      exact ⟨fun _ => ⟨by omega, ih⟩, fun q => absurd q (by decide)⟩
    · rw [hb] at ih
      exact ⟨fun q => absurd rfl q, fun _ => ⟨by omega, by omega, by omega, ih⟩⟩
  exact c_Pen_weightOf (lp 0 (Nat.zero_le _))
theorem zn_low {f : Nat → Bool} {S : Nat} (hm : m ≤ 8) (hS : S < 2 ^ m) : zb_s (S &&& zb_t f m).testBit 8 0 = zn_t f m S := by
  have h1 : ∀ j, m ≤ j → (S &&& zb_t f m).testBit j = false := fun j hj => by
    rw [Nat.testBit_and, Nat.testBit_lt_two_pow (Nat.lt_of_lt_of_le hS (Nat.pow_le_pow_right (by decide) hj))]
    rfl
  rw [zb_s_ext (f := (S &&& zb_t f m).testBit) (m := m) 8 0 hm (fun j hj => h1 j (by omega))]
  unfold zn_t
  refine zb_s_congr _ _ (fun j _ hj => ?_)
  rw [Nat.testBit_and, zb_t_bit]
  simp [show j < m by omega]
theorem sp_behind {S d : Nat} (hA : zn_A μ m w gs) (hS : S < 2 ^ m) (hd : d < 6) (h : B (zn_nx (gs d) m S) μ) : zk_C 35 [.inr (.inr (.inl 56)), .inl (S : Int), .inl (d : Int)] μ (zk_RI B) := by
  obtain ⟨h8, h2, h3, h4⟩ := hA
  have hp : 2 ^ m ≤ 256 := Nat.pow_le_pow_right (n := 2) (j := 8) (by decide) h8
  have ht : zb_t (gs d) m < 2 ^ m := zb_t_lt _ _
  have hc : S &&& zb_t (gs d) m < 256 := Nat.lt_of_le_of_lt Nat.and_le_left (by omega)
  refine c_Pen_behind ⟨fun q => by omega, fun _ => ⟨fun q => by omega, fun _ => ⟨fun q => by omega, fun _ => ⟨by omega, ?_⟩⟩⟩⟩
  rw [h4 d hd, zb_and (by omega) (by omega)]
  have lo := zn_low (f := gs d) h8 hS
  unfold zn_nx at h
  refine ⟨fun q => ⟨by omega, ?_⟩, fun q => ?_⟩
  · have q0 : S &&& zb_t (gs d) m ≠ 0 := by omega
    rw [zb_low _ hc q0, lo]
    rcases zn_t_p (gs d) m S with ⟨k1, k2⟩ | ⟨i, k1, k2, k3, k4, k5⟩
    · exfalso
      apply q0
      apply Nat.eq_of_testBit_eq
      intro i
      rw [Nat.testBit_and, zb_t_bit, Nat.zero_testBit]
      by_cases e : i < m
      · have := k2 i e
        simp [e]
        simpa using this
      · simp [e]
    · rw [k2, if_neg (by omega), Int.toNat_natCast] at h
      rw [k2, Int.toNat_natCast]
      have : 2 ^ i < 2 ^ m := Nat.pow_lt_pow_right (by decide) k1
      rw [zb_xor (by omega) (by omega)]
      exact h
  · have q0 : S &&& zb_t (gs d) m = 0 := by omega
    have e : zn_t (gs d) m S = -1 := by
      rw [← lo, q0]
      rfl
    rw [if_pos e] at h
    exact h
end
