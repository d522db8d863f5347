/-! level: the gravel, on the class's side *-/
def zi_ll : List Nat := [24, 25, 29, 33, 37, 41, 46, 47, 48, 49, 50, 51]
theorem zg_get {l : List Nat} {i : Nat} (h : i < l.length) : l[i]? = some (l.getD i 0) := by
  rw [List.getD_eq_getElem?_getD, List.getElem?_eq_getElem h]
  rfl
theorem zg_app {l : List Nat} {n i g : Nat} (h : (l ++ [n])[i]? = some g) : (i < l.length ∧ l[i]? = some g) ∨ (i = l.length ∧ g = n) := by
  rw [List.getElem?_append] at h
  split at h
  · rename_i q
    exact Or.inl ⟨q, h⟩
  · rename_i q
    by_cases w : i = l.length
    · rw [w, Nat.sub_self] at h
      simp at h
      exact Or.inr ⟨w, h.symm⟩
    · rw [List.getElem?_eq_none (by simp; omega)] at h
      exact absurd h (by simp)
/-- the i-th of the gravel -/
def zg_g (σ : za_S) (i : Nat) : Nat := (zg_l σ σ.1.1).getD i 0
section
variable {μ : zk_M} {BV : zk_M → Prop} {B : Int → zk_M → Prop} {σ : za_S} {sis : Int}
theorem zg_len (σ : za_S) : (zg_l σ σ.1.1).length = za_n σ 6 := zg_l_len σ σ.1.1
theorem zg_g_lt {i : Nat} (h : i < za_n σ 6) : zg_g σ i < σ.1.1 := by
  have hl : i < (zg_l σ σ.1.1).length := by rw [zg_len]; exact h
  exact zg_l_lt σ σ.1.1 _ (List.mem_of_getElem? (zg_get hl))
theorem sp_look {L : Option (List (Int × Int))} (hk : za_ok σ sis) (hs : sis ≤ 6) (h : za_C μ 4 σ) (hL : zvC μ (μ 2 2) L) (hy : za_n σ 6 ≤ 12 → ∀ μ', zq zi_ll μ μ' → zg_A μ' (za_n σ 6) (fun i => zv_w L σ (zg_g σ i)) (fun i => (σ.1.2.2 (zg_g σ i)).2.2.2) (zg_g σ) → (∀ o : Int, 0 ≤ o → o < 6 → μ' 50 o = zv_veil L σ o σ.1.1 ∧ μ' 51 o = (za_n σ o : Nat)) → B 1 μ') (hn : ¬ za_n σ 6 ≤ 12 → ∀ μ', zq zi_ll μ μ' → B 0 μ') : zk_C 20 [.inr (.inr (.inl 46)), .inr (.inr (.inl 2)), .inr (.inr (.inl 22))] μ (zk_RI B) := by
  have hc30 := hk.1.1
  have lp : ∀ n, n ≤ σ.1.1 → (∀ ν, zq zi_ll μ ν → ν 46 1 = ((zg_l σ n).length : Int) → (zg_l σ n).length ≤ 12 → (∀ i g : Nat, (zg_l σ n)[i]? = some g → ν 47 i = (g : Int) ∧ ν 48 i = (σ.1.2.2 g).2.2.2 ∧ ν 49 i = zv_w L σ g) → zk_K 20 13 [.inr (.inr (.inl 46)), .inr (.inr (.inl 2)), .inr (.inr (.inl 22)), .inr (.inr (.inl 3)), .inl (n : Int)] [] ν (zk_RI B)) := by
    refine zl_up (fun ν z h1 h2 g => ?_) (fun n hn' ih ν z h1 h2 g => ?_)
    · have hC : za_C ν 4 σ := za_C_cg (z _ (by decide)) (z _ (by decide)) (z _ (by decide)) h
      refine t_Lev_look_13 (c_Sto_count ⟨fun _ => ?_, fun q => absurd (by rw [za_C_c hC]; exact Int.le_refl _) q⟩)
      rw [z 2 (by decide)]
      refine sp_weighVeils hk hs hC (zvC_q (fun c hc => z c (by simp [zi_ll]; omega)) hL) (fun ν1 z1 g1 => ?_)
      have l2 : ∀ j : Nat, j ≤ 6 → (∀ ξ, zq [50, 51] ν1 ξ → (∀ o : Int, 0 ≤ o → o < (j : Int) → ξ 50 o = zv_veil L σ o σ.1.1 ∧ ξ 51 o = (za_n σ o : Nat)) → zk_K 20 118 [.inr (.inr (.inl 46)), .inr (.inr (.inr 0)), .inr (.inr (.inl 22)), .inr (.inr (.inl 3)), .inl (j : Int)] [] ξ (zk_RI B)) := by
        refine zl_up (P := fun j => ∀ ξ, zq [50, 51] ν1 ξ → (∀ o : Int, 0 ≤ o → o < (j : Int) → ξ 50 o = zv_veil L σ o σ.1.1 ∧ ξ 51 o = (za_n σ o : Nat)) → zk_K 20 118 [.inr (.inr (.inl 46)), .inr (.inr (.inr 0)), .inr (.inr (.inl 22)), .inr (.inr (.inl 3)), .inl (j : Int)] [] ξ (zk_RI B)) (fun ξ y gy => t_Lev_look_118 ⟨fun _ => ?_, fun q => absurd (by decide) q⟩) (fun j hj ih2 ξ y gy => ?_)
        · have e : ∀ c, c ∈ [46, 47, 48, 49] → ξ c = ν c := fun c hc => by
            simp at hc
            rw [y c (by simp; omega), z1 c (by simp [zi_lv]; omega)]
          refine hy (by rw [← zg_len]; exact h2) ξ (z.tr ((z1.up (by decide)).tr (y.up (by decide)))) ⟨by rw [← zg_len]; exact h2, by rw [e 46 (by decide), ← zg_len]; exact h1, fun i hi => ?_⟩ gy
          rw [e 47 (by decide), e 48 (by decide), e 49 (by decide)]
          exact g i _ (zg_get (by rw [zg_len]; exact hi))
        · have hC2 : za_C ξ 4 σ := za_C_cg ((y _ (by decide)).trans (z1 _ (by decide))) ((y _ (by decide)).trans (z1 _ (by decide))) ((y _ (by decide)).trans (z1 _ (by decide))) hC
          have hC3 : ∀ v : Int, za_C (zk_set ξ 50 (j : Int) v) 4 σ := fun v => za_C_cg (zk_set_o (by decide)) (zk_set_o (by decide)) (zk_set_o (by decide)) hC2
          refine t_Lev_look_118 ⟨fun q => by omega, fun _ => sp_veilOf (by omega) (by omega) ⟨by omega, sp_inside (za_C_c (hC3 _)) hc30 (sp_cbits hc30 ⟨by omega, by omega, ih2 _ ((y.set (by decide) _ _).set (by decide) _ _) (fun o o0 o6 => ?_)⟩)⟩⟩
          by_cases q : o = j
          · rw [q, zk_set_o (by decide), zk_set_s, zk_set_s, za_C_n (hC3 _), y 25 (by decide)]
            exact ⟨g1 j (by omega) (by omega), rfl⟩
          · rw [zk_set_n q, zk_set_n q, zk_set_n q, zk_set_n q]
            exact gy o o0 (by omega)
      exact l2 0 (by decide) ν1 (zq.rf _ _) (fun o o0 o6 => by omega)
    · have hC : za_C ν 4 σ := za_C_cg (z _ (by decide)) (z _ (by decide)) (z _ (by decide)) h
      have hcc := za_C_c hC
      have hm := zb_c_mono (f := fun n => (σ.1.2.2 n).2.2.1 == 6) (n := n + 1) σ.1.1 (by omega)
      rw [← zg_l_len σ (n + 1), zg_l] at hm
      rw [zg_l] at ih
      refine t_Lev_look_13 (c_Sto_count ⟨fun q => by omega, fun _ => za_plC hk hC (by omega) (by omega) ?_⟩)
      rw [Int.toNat_natCast]
      refine ⟨fun q => ⟨by omega, ?_⟩, fun q => ⟨fun q2 => ⟨by omega, ?_⟩, fun q2 => hn ?_ ν z⟩⟩
      · rw [if_neg q] at ih
        exact ih ν z h1 h2 g
      · rw [if_pos q] at ih hm
        rw [List.length_append, List.length_singleton] at ih
        rw [h1] at q2 ⊢
        have hC1 : za_C (zk_set ν 47 ((zg_l σ n).length : Int) n) 4 σ := za_C_cg (zk_set_o (by decide)) (zk_set_o (by decide)) (zk_set_o (by decide)) hC
        refine za_ownC hk hC1 (by omega) (by omega) ⟨by omega, ?_⟩
        rw [Int.toNat_natCast]
        have hC2 : za_C (zk_set (zk_set ν 47 ((zg_l σ n).length : Int) n) 48 ((zg_l σ n).length : Int) (σ.1.2.2 n).2.2.2) 4 σ := za_C_cg (zk_set_o (by decide)) (zk_set_o (by decide)) (zk_set_o (by decide)) hC1
        rw [zk_set_o (c := 2) (by decide), z 2 (by decide), zk_set_o (c := 46) (by decide), h1]
        refine sp_weightC (L := L) hk hs hC2 (by omega) (by omega) (zvC_q (fun c hc => by rw [zk_set_o (by omega), zk_set_o (by omega)]; exact z c (by simp [zi_ll]; omega)) hL) (fun ξ y => ?_)
        have y46 : ξ 46 1 = ((zg_l σ n).length : Int) := by rw [y 46 (by decide), zk_set_o (by decide), zk_set_o (by decide)]; exact h1
        rw [y46, Int.toNat_natCast]
        refine ⟨by omega, by omega, by omega, ih _ (((((z.set (by decide) _ _).set (by decide) _ _).tr (y.up (by decide))).set (by decide) _ _).set (by decide) _ _) (by rw [zk_set_s]; push_cast; rfl) (by omega) (fun i g' hg => ?_)⟩
        rw [zk_set_o (c := 47) (by decide), zk_set_o (c := 48) (by decide), zk_set_o (c := 49) (by decide), zk_set_o (c := 47) (by decide), zk_set_o (c := 48) (by decide), y 47 (by decide), y 48 (by decide), zk_set_o (c := 47) (by decide)]
        rcases zg_app hg with ⟨p1, p2⟩ | ⟨p1, p2⟩
        · rw [zk_set_n (by omega), zk_set_n (by omega), zk_set_n (by omega), zk_set_n (by omega), y 49 (by decide), zk_set_n (by omega), zk_set_n (by omega)]
          exact g i g' p2
        · rw [p1, p2, zk_set_s, zk_set_s, zk_set_s]
          exact ⟨rfl, rfl, rfl⟩
      · rw [if_pos q, List.length_append, List.length_singleton] at hm
        unfold za_n
        omega
  exact c_Lev_look (lp 0 (Nat.zero_le _) _ ((zq.rf _ _).set (by decide) _ _) (zk_set_s _ _ _ _) (Nat.zero_le _) (fun i g hg => absurd hg (by simp [zg_l])))
end
