/-! fits *-/
def zf_sg (x y : Int) : Int := if y < x then 1 else if x < y then -1 else 0
def zf_al (f : Nat → Bool) : Nat → Nat → Bool
  | 0, _ => true
  | m + 1, n => if f n then zf_al f m (n + 1) else false
theorem zf_al_st {f : Nat → Bool} {c n : Nat} (h : n < c) : zf_al f (c - n) n = if f n then zf_al f (c - (n + 1)) (n + 1) else false := by
  rw [show c - n = (c - (n + 1)) + 1 by omega, zf_al]
/-- the k-th that was told is so by text t -/
def zf_f (V : Nat → Int → Int) (T : Nat → Int × Int × Int) (t k : Nat) : Bool := zf_sg (V t (T k).1) (V t (T k).2.1) == (T k).2.2
def zf_V (μ : zk_M) (V : Nat → Int → Int) (c : Nat) : Prop := ∀ t : Nat, t < c → ∀ s : Int, 0 ≤ s → s < 6 → μ 11 (6 * t + s) = V t s
def zf_T (T : Nat → Int × Int × Int) (c : Nat) : Prop := c ≤ 12 ∧ ∀ i : Nat, i < c → 0 ≤ (T i).1 ∧ (T i).1 < 6 ∧ 0 ≤ (T i).2.1 ∧ (T i).2.1 < 6
def zi_lf : List Nat := [11, 24, 25, 29, 33, 37, 41]
section
variable {μ : zk_M} {BV : zk_M → Prop} {B : Int → zk_M → Prop} {σ : za_S} {sis : Int} {V : Nat → Int → Int} {T : Nat → Int × Int × Int} {e c t : Nat}
theorem sp_cmp {x y : Int} (h : B (zf_sg x y) μ) : zk_C 243 [.inl x, .inl y] μ (zk_RI B) := by
  refine c_Int_compare ⟨fun q => ⟨fun q2 => ?_, fun q2 => ?_⟩, fun q => ?_⟩
  · rw [zf_sg, if_pos (by omega)] at h
    exact h
  · rw [zf_sg, if_neg (by omega), if_neg (by omega)] at h
    exact h
  · rw [zf_sg, if_neg (by omega), if_pos (by omega)] at h
    exact h
theorem sp_vBy {s : Int} (hV : zf_V μ V e) (he : e ≤ 4) (ht : t < e) (h0 : 0 ≤ s) (h6 : s < 6) (h : B (V t s) μ) : zk_C 64 [.inr (.inr (.inl 7)), .inl (t : Int), .inl s] μ (zk_RI B) := by
  refine c_Sca_veilBy ⟨by omega, by omega, fun q => by omega, fun _ => ⟨fun q => by omega, fun _ => ⟨by omega, ?_⟩⟩⟩
  rw [show (t : Int) * 6 + s = 6 * t + s by omega, hV t ht s h0 h6]
  exact h
theorem sp_sBy {a b : Int} (hV : zf_V μ V e) (he : e ≤ 4) (ht : t < e) (a0 : 0 ≤ a) (a6 : a < 6) (b0 : 0 ≤ b) (b6 : b < 6) (h : B (zf_sg (V t a) (V t b)) μ) : zk_C 63 [.inr (.inr (.inl 7)), .inl (t : Int), .inl a, .inl b] μ (zk_RI B) :=
  c_Sca_signBy (sp_vBy hV he ht a0 a6 (sp_vBy hV he ht b0 b6 (sp_cmp h)))
theorem sp_fitsAll (hV : zf_V μ V e) (he : e ≤ 4) (ht : t < e) (hT : zf_T T c) (h7 : μ 7 3 = (c : Int)) (hm : ∀ i : Nat, i < c → μ 8 i = (T i).1 ∧ μ 9 i = (T i).2.1 ∧ μ 10 i = (T i).2.2) (h : B (if zf_al (zf_f V T t) c 0 then 1 else 0) μ) : zk_C 66 [.inr (.inr (.inl 7)), .inl (t : Int)] μ (zk_RI B) := by
  have hc12 := hT.1
  have lp : ∀ n, n ≤ c → (zf_al (zf_f V T t) (c - n) n = zf_al (zf_f V T t) c 0 → zk_K 66 2 [.inr (.inr (.inl 7)), .inl (t : Int), .inl (n : Int)] [] μ (zk_RI B)) := by
    refine zl_up (fun e => t_Sca_fitsAll_2 ⟨fun _ => ?_, fun q => absurd (by rw [h7]; exact Int.le_refl _) q⟩) (fun n hn ih e => t_Sca_fitsAll_2 ⟨fun q => by omega, fun _ => ⟨fun q => by omega, fun _ => ⟨by omega, by omega, ?_⟩⟩⟩)
    · rw [← e, Nat.sub_self] at h
      exact h
    · obtain ⟨t1, t2, t3⟩ := hm n hn
      obtain ⟨a1, a2, a3, a4⟩ := hT.2 n hn
      rw [t1, t2]
      refine sp_sBy hV he ht a1 a2 a3 a4 ⟨by omega, ?_⟩
      rw [t3]
      refine ⟨fun w => ⟨by omega, ih (by rw [← e, zf_al_st hn, if_pos (by simp [zf_f, w])])⟩, fun w => ?_⟩
      rw [← e, zf_al_st hn, if_neg (by simp [zf_f, w])] at h
      exact h
  exact c_Sca_fitsAll (lp 0 (Nat.zero_le _) rfl)
theorem sp_fitting (hV : zf_V μ V e) (he : e ≤ 4) (hT : zf_T T c) (h7 : μ 7 3 = (c : Int)) (hm : ∀ i : Nat, i < c → μ 8 i = (T i).1 ∧ μ 9 i = (T i).2.1 ∧ μ 10 i = (T i).2.2) (h : B (zb_t (fun t => zf_al (zf_f V T t) c 0) e : Nat) μ) : zk_C 65 [.inr (.inr (.inl 7)), .inl (e : Int)] μ (zk_RI B) := by
  have lp : ∀ n, n ≤ e → zk_K 65 4 [.inr (.inr (.inl 7)), .inl (e : Int), .inl (zb_t (fun t => zf_al (zf_f V T t) c 0) n : Nat), .inl (n : Int)] [] μ (zk_RI B) := by
    refine zl_up (t_Sca_fitting_4 ⟨fun _ => h, fun q => absurd (Int.le_refl _) q⟩) (fun n hn ih => t_Sca_fitting_4 ⟨fun q => by omega, fun _ => ⟨fun q => by omega, fun _ => sp_fitsAll hV he hn hT h7 hm ?_⟩⟩)
    rw [zb_t] at ih
    by_cases w : zf_al (zf_f V T n) c 0 = true
    · rw [if_pos w] at ih ⊢
      refine ⟨fun q => absurd q (by decide), fun _ => ⟨by omega, ?_⟩⟩
      rw [zb_t_or (by omega)]
      exact ih
    · rw [if_neg w] at ih ⊢
      exact ⟨fun _ => ⟨by omega, ih⟩, fun q => absurd rfl q⟩
  exact c_Sca_fitting (lp 0 (Nat.zero_le _))
/-- the class weighs by all texts -/
theorem sp_weigh {Lw : Nat → Option (List (Int × Int))} (hk : za_ok σ sis) (hs : sis ≤ 6) (h : za_C μ 4 σ) (he : e ≤ 4) (h21 : μ 2 1 = (e : Int)) (hL : ∀ t : Nat, t < e → zvC μ (t : Int) (Lw t)) (hB : ∀ μ', zq zi_lf μ μ' → zf_V μ' (fun t s => zv_veil (Lw t) σ s σ.1.1) e → BV μ') : zk_C 62 [.inr (.inr (.inl 7)), .inr (.inr (.inl 2)), .inr (.inr (.inl 22))] μ (zk_RV BV) := by
  have lp : ∀ n, n ≤ e → (∀ ν, zq zi_lf μ ν → zf_V ν (fun t s => zv_veil (Lw t) σ s σ.1.1) n → zk_K 62 2 [.inr (.inr (.inl 7)), .inr (.inr (.inl 2)), .inr (.inr (.inl 22)), .inl (n : Int), .inr (.inr (.inr 0))] [] ν (zk_RV BV)) := by
    refine zl_up (fun ν z g => t_Sca_weigh_2 ⟨fun _ => hB ν z g, fun q => absurd (by rw [z 2 (by decide), h21]; exact Int.le_refl _) q⟩) (fun n hn ih ν z g => ?_)
    have e2 : ν 2 1 = (e : Int) := by rw [z 2 (by decide)]; exact h21
    refine t_Sca_weigh_2 ⟨fun q => by omega, fun _ => ⟨fun q => by omega, fun _ => sp_weighVeils hk hs (za_C_cg (z _ (by decide)) (z _ (by decide)) (z _ (by decide)) h) (zvC_q (fun c hc => z c (by simp [zi_lf]; omega)) (hL n hn)) (fun ν1 z1 g1 => ?_)⟩⟩
    have l2 : ∀ j : Nat, j ≤ 6 → (∀ ξ, zq zi_lf μ ξ → ξ 25 = ν1 25 → zf_V ξ (fun t s => zv_veil (Lw t) σ s σ.1.1) n → (∀ s : Int, 0 ≤ s → s < (j : Int) → ξ 11 (6 * n + s) = zv_veil (Lw n) σ s σ.1.1) → zk_K 62 27 [.inr (.inr (.inl 7)), .inr (.inr (.inl 2)), .inr (.inr (.inl 22)), .inl (n : Int), .inl (j : Int)] [] ξ (zk_RV BV)) := by
      refine zl_up (P := fun j => ∀ ξ, zq zi_lf μ ξ → ξ 25 = ν1 25 → zf_V ξ (fun t s => zv_veil (Lw t) σ s σ.1.1) n → (∀ s : Int, 0 ≤ s → s < (j : Int) → ξ 11 (6 * n + s) = zv_veil (Lw n) σ s σ.1.1) → zk_K 62 27 [.inr (.inr (.inl 7)), .inr (.inr (.inl 2)), .inr (.inr (.inl 22)), .inl (n : Int), .inl (j : Int)] [] ξ (zk_RV BV)) (fun ξ y y25 yV ys => t_Sca_weigh_27 ⟨fun _ => ⟨by omega, ih ξ y (fun t ht s s0 s6 => ?_)⟩, fun q => absurd (by decide) q⟩) (fun j hj ih2 ξ y y25 yV ys => t_Sca_weigh_27 ⟨fun q => by omega, fun _ => ⟨by omega, by omega, sp_veilOf (by omega) (by omega) ⟨by omega, by omega, ih2 _ (y.set (by decide) _ _) ?_ (fun t ht s s0 s6 => ?_) (fun s s0 s6 => ?_)⟩⟩⟩)
      · by_cases q : t = n
        · rw [q]
          exact ys s s0 s6
        · exact yV t (by omega) s s0 s6
      · rw [zk_set_o (by decide)]
        exact y25
      · rw [zk_set_n (by omega)]
        exact yV t ht s s0 s6
      · by_cases q : s = j
        · rw [zk_set_e (by omega), y25, q]
          exact g1 j (by omega) (by omega)
        · rw [zk_set_n (by omega)]
          exact ys s s0 (by omega)
    refine l2 0 (by decide) ν1 (z.tr (z1.up (by decide))) rfl (fun t ht s s0 s6 => ?_) (fun s s0 s6 => by omega)
    rw [z1 11 (by decide)]
    exact g t ht s s0 s6
  exact c_Sca_weigh (lp 0 (Nat.zero_le _) μ (zq.rf _ _) (fun t ht => by omega))
/-! the reference's *-/
theorem sp_tells {L : Option (List (Int × Int))} {x a b : Int} (hk : za_ok σ sis) (hs : sis ≤ 6) (h : za_M (μ 61) σ) (hL : zvM μ x 0 (0, 1) L) (hB : ∀ μ', zq zi_lm μ μ' → B (zf_sg (zv_veil L σ a σ.1.1) (zv_veil L σ b σ.1.1)) μ') : zk_C 235 [.inr (.inr (.inl 60)), .inl x, .inl a, .inl b] μ (zk_RI B) := by
  have r1 := zv_veil_r (L := L) hk a (Nat.le_refl σ.1.1)
  have r2 := zv_veil_r (L := L) hk b (Nat.le_refl σ.1.1)
  have c30 := hk.1.1
  refine c_Mod_tells (sp_veilBy hk hs h hL (fun μ1 z1 => sp_veilBy hk hs (by rw [z1 61 (by decide)]; exact h) (zvM_q (z1 63 (by decide)) hL) (fun μ2 z2 => ?_)))
  have b2 := hB μ2 (z1.tr z2)
  refine ⟨by omega, fun q => ⟨fun q2 => ?_, fun q2 => ?_⟩, fun q => ?_⟩
  · rw [zf_sg, if_neg (by omega), if_neg (by omega)] at b2
    exact b2
  · rw [zf_sg, if_neg (by omega), if_pos (by omega)] at b2
    exact b2
  · rw [zf_sg, if_pos (by omega)] at b2
    exact b2
theorem sp_isFit {Lw : Nat → Option (List (Int × Int))} (hk : za_ok σ sis) (hs : sis ≤ 6) (h : za_M (μ 61) σ) (hL : zvM μ (t : Int) 0 (0, 1) (Lw t)) (hc12 : c ≤ 12) (h6 : μ 61 6 = (c : Int)) (hm : ∀ i : Nat, i < c → μ 61 (10 + 3 * i) = (T i).1 ∧ μ 61 (11 + 3 * i) = (T i).2.1 ∧ μ 61 (12 + 3 * i) = (T i).2.2) (hB : ∀ μ', zq zi_lm μ μ' → B (if zf_al (zf_f (fun t s => zv_veil (Lw t) σ s σ.1.1) T t) c 0 then 1 else 0) μ') : zk_C 236 [.inr (.inr (.inl 60)), .inl (t : Int)] μ (zk_RI B) := by
  have lp : ∀ n, n ≤ c → (∀ ν, zq zi_lm μ ν → zf_al (zf_f (fun t s => zv_veil (Lw t) σ s σ.1.1) T t) (c - n) n = zf_al (zf_f (fun t s => zv_veil (Lw t) σ s σ.1.1) T t) c 0 → zk_K 236 2 [.inr (.inr (.inl 60)), .inl (t : Int), .inl (n : Int), .inr (.inr (.inr 0))] [] ν (zk_RI B)) := by
    refine zl_up (fun ν z e => t_Mod_isFit_2 ⟨fun _ => ?_, fun q => absurd (by rw [z 61 (by decide), h6]; exact Int.le_refl _) q⟩) (fun n hn ih ν z e => ?_)
    · have b := hB ν z
      rw [← e, Nat.sub_self] at b
      exact b
    · have e61 : ν 61 = μ 61 := z 61 (by decide)
      obtain ⟨t1, t2, t3⟩ := hm n hn
      refine t_Mod_isFit_2 ⟨fun q => by rw [e61] at q; omega, fun _ => ⟨by omega, by omega, by omega, by omega, by omega, ?_⟩⟩
      rw [e61, t1, show (10 + 3 * (n : Int) + 1) = 11 + 3 * n by omega, t2]
      refine sp_tells hk hs (by rw [e61]; exact h) (zvM_q (z 63 (by decide)) hL) (fun ξ y => ⟨by omega, by omega, ?_⟩)
      rw [y 61 (by decide), e61, show (10 + 3 * (n : Int) + 2) = 12 + 3 * n by omega, t3]
      refine ⟨fun w => ⟨by omega, ih ξ (z.tr y) (by rw [← e, zf_al_st hn, if_pos (by simp [zf_f, w])])⟩, fun w => ?_⟩
      have b := hB ξ (z.tr y)
      rw [← e, zf_al_st hn, if_neg (by simp [zf_f, w])] at b
      exact b
  exact c_Mod_isFit (lp 0 (Nat.zero_le _) μ (zq.rf _ _) rfl)
theorem sp_fitsM {Lw : Nat → Option (List (Int × Int))} (hk : za_ok σ sis) (hs : sis ≤ 6) (h : za_M (μ 61) σ) (he : e ≤ 4) (h3 : μ 61 3 = (e : Int)) (hL : ∀ t : Nat, t < e → zvM μ (t : Int) 0 (0, 1) (Lw t)) (hc12 : c ≤ 12) (h6 : μ 61 6 = (c : Int)) (hm : ∀ i : Nat, i < c → μ 61 (10 + 3 * i) = (T i).1 ∧ μ 61 (11 + 3 * i) = (T i).2.1 ∧ μ 61 (12 + 3 * i) = (T i).2.2) (hB : ∀ μ', zq zi_lm μ μ' → B (zb_t (fun t => zf_al (zf_f (fun t s => zv_veil (Lw t) σ s σ.1.1) T t) c 0) e : Nat) μ') : zk_C 237 [.inr (.inr (.inl 60))] μ (zk_RI B) := by
  have lp : ∀ n, n ≤ e → (∀ ν, zq zi_lm μ ν → zk_K 237 4 [.inr (.inr (.inl 60)), .inl (zb_t (fun t => zf_al (zf_f (fun t s => zv_veil (Lw t) σ s σ.1.1) T t) c 0) n : Nat), .inl (n : Int)] [] ν (zk_RI B)) := by
    refine zl_up (fun ν z => t_Mod_fits_4 ⟨fun _ => hB ν z, fun q => absurd (by rw [z 61 (by decide), h3]; exact Int.le_refl _) q⟩) (fun n hn ih ν z => ?_)
    have e61 : ν 61 = μ 61 := z 61 (by decide)
    refine t_Mod_fits_4 ⟨fun q => by rw [e61] at q; omega, fun _ => sp_isFit (Lw := Lw) (T := T) hk hs (by rw [e61]; exact h) (zvM_q (z 63 (by decide)) (hL n hn)) hc12 (by rw [e61]; exact h6) (by rw [e61]; exact hm) (fun ξ y => ?_)⟩
    have i0 := ih ξ (z.tr y)
    rw [zb_t] at i0
    by_cases w : zf_al (zf_f (fun t s => zv_veil (Lw t) σ s σ.1.1) T n) c 0 = true
    · rw [if_pos w] at i0 ⊢
      refine ⟨fun q => absurd q (by decide), fun _ => ⟨by omega, ?_⟩⟩
      rw [zb_t_or (by omega)]
      exact i0
    · rw [if_neg w] at i0 ⊢
      refine ⟨fun _ => ⟨by omega, ?_⟩, fun q => absurd rfl q⟩
      rw [zb_or0 (Nat.lt_trans (zb_t_le30 (by omega)) (by decide))]
      exact i0
  exact c_Mod_fits (lp 0 (Nat.zero_le _) μ (zq.rf _ _))
end
