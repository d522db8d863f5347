/-! sin *-/
def zv_g (L : Option (List (Int × Int))) (σ : za_S) (sin : Int) (n : Nat) : Bool := zv_go L (σ.1.2.2 n) σ.1.2.1 n sin
/-- the first of a set that goes -/
def za_tk (L : Option (List (Int × Int))) (σ : za_S) (a : Nat) (sin : Int) : Int := zb_s (fun n => a.testBit n && zv_g L σ sin n) σ.1.1 0
def za_ftg (L : Option (List (Int × Int))) (σ : za_S) (s sin : Int) : Int := zb_s (fun n => (σ.1.2.2 n).2.2.1 == s && zv_g L σ sin n) σ.1.1 0
theorem za_tk_in {L : Option (List (Int × Int))} {σ : za_S} {s sin : Int} : za_tk L σ (za_in σ s) sin = za_ftg L σ s sin := zb_s_congr _ _ (fun j _ hj => by
  unfold za_in
  rw [zb_t_bit]
  have : j < σ.1.1 := by omega
  simp [this])
section
variable {μ : zk_M} {BV : zk_M → Prop} {B : Int → zk_M → Prop} {σ : za_S} {sis : Int}
theorem sp_ftg {s sin : Int} {L : Option (List (Int × Int))} (hk : za_ok σ sis) (hs : sis ≤ 6) (h : za_C μ 4 σ) (h20 : μ 2 0 = sis) (hL : zgC μ (μ 2 2) L) (hB : ∀ μ', zq zi_lc μ μ' → B (if (0 ≤ sin ∧ sin ≤ 5) ∧ 0 ≤ s ∧ s < sis then za_ftg L σ s sin else -1) μ') : zk_C 6 [.inr (.inr (.inl 2)), .inl sin, .inl s, .inr (.inr (.inl 22))] μ (zk_RI B) := by
  have hc30 := hk.1.1
  have no : ¬ ((0 ≤ sin ∧ sin ≤ 5) ∧ 0 ≤ s ∧ s < sis) → B (-1) μ := fun q => by
    have := hB μ (zq.rf _ _)
    rw [if_neg q] at this
    exact this
  refine c_Con_firstToGo ⟨fun q => no (by omega), fun q1 => ⟨fun q => no (by omega), fun q2 => sp_hasSister (fun a1 a2 => ⟨fun _ => ?_, fun q => absurd q (by decide)⟩) (fun q => ⟨fun q => absurd rfl q, fun _ => no (by omega)⟩)⟩⟩
  have lp : ∀ n, n ≤ σ.1.1 → (∀ ν, zq zi_lc μ ν → zb_s (fun n => (σ.1.2.2 n).2.2.1 == s && zv_g L σ sin n) (σ.1.1 - n) n = za_ftg L σ s sin → zk_K 6 23 [.inr (.inr (.inl 2)), .inl sin, .inl s, .inr (.inr (.inl 22)), .inl (n : Int)] [] ν (zk_RI B)) := by
    refine zl_up (fun ν z e => t_Con_firstToGo_23 (c_Sto_count ⟨fun _ => ?_, fun q => absurd (by rw [z 4 (by decide), za_C_c h]; exact Int.le_refl _) q⟩)) (fun n hn ih ν z e => ?_)
    · have b := hB ν z
      rw [if_pos (by omega), ← e, Nat.sub_self] at b
      exact b
    · have hC : za_C ν 4 σ := za_C_cg (z _ (by decide)) (z _ (by decide)) (z _ (by decide)) h
      have hcc := za_C_c hC
      rw [zb_s_st hn] at e
      refine t_Con_firstToGo_23 (c_Sto_count ⟨fun q => by omega, fun _ => za_plC hk hC (by omega) (by omega) ?_⟩)
      rw [Int.toNat_natCast]
      refine ⟨fun q => ⟨by omega, ih ν z (by rw [← e, if_neg (by simp [q])])⟩, fun q => sp_goesC (L := L) hk hs hC (by omega) (by omega) (by omega) ?_ (fun w ξ y => ?_) (fun w ξ y => ?_)⟩
      · rw [z 2 (by decide)]
        exact zgC_q (fun c hc => z c (by simp [zi_lc]; omega)) hL
      · rw [Int.toNat_natCast] at w
        refine ⟨fun e => absurd e (by decide), fun _ => ?_⟩
        have b := hB ξ (z.tr y)
        have w' : zv_g L σ sin n = true := w
        rw [if_pos (by omega), ← e, if_pos (by simp [q, w'])] at b
        exact b
      · rw [Int.toNat_natCast] at w
        have w' : zv_g L σ sin n = false := w
        exact ⟨fun _ => ⟨by omega, ih ξ (z.tr y) (by rw [← e, if_neg (by simp [w'])])⟩, fun e => absurd rfl e⟩
  exact lp 0 (Nat.zero_le _) μ (zq.rf _ _) rfl
theorem sp_taken {a : Nat} {sin : Int} {L : Option (List (Int × Int))} (hk : za_ok σ sis) (hs : sis ≤ 6) (h : za_M (μ 61) σ) (ha : a < 2147483648) (hsin : 0 ≤ sin ∧ sin ≤ 5) (hL : zvM μ (μ 61 4) 1 (1, 0) L) (hB : ∀ μ', zq zi_lm μ μ' → B (za_tk L σ a sin) μ') : zk_C 204 [.inr (.inr (.inl 60)), .inl (a : Int), .inl sin] μ (zk_RI B) := by
  have hc30 := hk.1.1
  have lp : ∀ n, n ≤ σ.1.1 → (∀ ν, zq zi_lm μ ν → zb_s (fun n => a.testBit n && zv_g L σ sin n) (σ.1.1 - n) n = za_tk L σ a sin → zk_K 204 2 [.inr (.inr (.inl 60)), .inl (a : Int), .inl sin, .inl (n : Int)] [] ν (zk_RI B)) := by
    refine zl_up (fun ν z e => t_Mod_taken_2 ⟨fun _ => ?_, fun q => absurd (by rw [z 61 (by decide)]; exact Int.le_of_eq h.1) q⟩) (fun n hn ih ν z e => ?_)
    · have b := hB ν z
      rw [← e, Nat.sub_self] at b
      exact b
    · have hM : za_M (ν 61) σ := by rw [z 61 (by decide)]; exact h
      have hcc := hM.1
      rw [zb_s_st hn] at e
      refine t_Mod_taken_2 ⟨fun q => by omega, fun _ => sp_mhas (by omega) ha ?_⟩
      by_cases q : a.testBit n = true
      · rw [q]
        refine ⟨fun e => absurd e (by decide), fun _ => sp_goesM (L := L) hk hs hM (by omega) (by omega) hsin ?_ (fun ξ y => ?_)⟩
        · rw [z 61 (by decide)]
          exact zvM_q (z 63 (by decide)) hL
        · rw [Int.toNat_natCast]
          show (((if zv_g L σ sin n = true then (1 : Int) else 0) = 0 → _) ∧ (¬ (if zv_g L σ sin n = true then (1 : Int) else 0) = 0 → _))
          by_cases w : zv_g L σ sin n = true
          · rw [if_pos w]
            refine ⟨fun e => absurd e (by decide), fun _ => ?_⟩
            have b := hB ξ (z.tr y)
            rw [← e, if_pos (by simp [q, w])] at b
            exact b
          · rw [if_neg w]
            exact ⟨fun _ => ⟨by omega, ih ξ (z.tr y) (by rw [← e, if_neg (by simp [w])])⟩, fun e => absurd rfl e⟩
      · rw [if_neg q]
        exact ⟨fun _ => ⟨by omega, ih ν z (by rw [← e, if_neg (by simp [q])])⟩, fun e => absurd rfl e⟩
  exact c_Mod_taken (lp 0 (Nat.zero_le _) μ (zq.rf _ _) rfl)
end
