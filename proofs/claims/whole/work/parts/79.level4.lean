/-! level on the reference's side *-/
def zg_M (μ : zk_M) (m : Nat) (x own : Nat → Int) (g : Nat → Nat) : Prop := ∀ i : Nat, i < m → μ 73 i = (g i : Int) ∧ μ 72 i = own i ∧ μ 71 i = x i
def zi_lg : List Nat := [66, 67, 68, 71, 72, 73]
theorem zg_bit {s m k : Nat} (hs : s < 2 ^ m) (h : s.testBit k = true) : k < m := by
  by_cases q : k < m
  · exact q
  · have := Nat.testBit_lt_two_pow (Nat.lt_of_lt_of_le hs (Nat.pow_le_pow_right (n := 2) (by decide) (show m ≤ k by omega)))
    rw [h] at this
    exact absurd this (by decide)
section
variable {μ : zk_M} {BV : zk_M → Prop} {B : Int → zk_M → Prop} {σ : za_S} {sis : Int} {m e : Nat} {x own : Nat → Int} {g : Nat → Nat} {bw bn : Int → Int}
theorem sp_findGravel {L : Option (List (Int × Int))} (hk : za_ok σ sis) (hs : sis ≤ 6) (h : za_M (μ 61) σ) (hL : zvM μ (μ 61 4) 0 (0, 1) L) (h12 : za_n σ 6 ≤ 12) (hB : ∀ μ', zq zi_lg μ μ' → zg_M μ' (za_n σ 6) (fun i => zv_w L σ (zg_g σ i)) (fun i => (σ.1.2.2 (zg_g σ i)).2.2.2) (zg_g σ) → B (za_n σ 6 : Nat) μ') : zk_C 222 [.inr (.inr (.inl 60))] μ (zk_RI B) := by
  have hc30 := hk.1.1
  have lp : ∀ n, n ≤ σ.1.1 → (∀ ν, zq zi_lg μ ν → (∀ i g : Nat, (zg_l σ n)[i]? = some g → ν 73 i = (g : Int) ∧ ν 72 i = (σ.1.2.2 g).2.2.2 ∧ ν 71 i = zv_w L σ g) → zk_K 222 4 [.inr (.inr (.inl 60)), .inl ((zg_l σ n).length : Int), .inl (n : Int)] [] ν (zk_RI B)) := by
    refine zl_up (fun ν z g => t_Mod_findGravel_4 ⟨fun _ => ?_, fun q => absurd (by rw [z 61 (by decide)]; exact Int.le_of_eq h.1) q⟩) (fun n hn' ih ν z g => ?_)
    · rw [zg_len]
      exact hB ν z (fun i hi => g i _ (zg_get (by rw [zg_len]; exact hi)))
    · have e61 : ν 61 = μ 61 := z 61 (by decide)
      have hM : za_M (ν 61) σ := by rw [e61]; exact h
      have hcc := hM.1
      have hm := zb_c_mono (f := fun n => (σ.1.2.2 n).2.2.1 == 6) (n := n + 1) σ.1.1 (by omega)
      have hm' : zb_c (fun n => (σ.1.2.2 n).2.2.1 == 6) σ.1.1 ≤ 12 := h12
      rw [← zg_l_len σ (n + 1), zg_l] at hm
      rw [zg_l] at ih
      refine t_Mod_findGravel_4 ⟨fun q => by omega, fun _ => za_getM hk hM (by omega) (by omega) (by decide) (by decide) ?_⟩
      rw [Int.toNat_natCast]
      show ((σ.1.2.2 n).2.2.1 = 6 → _) ∧ (¬ (σ.1.2.2 n).2.2.1 = 6 → _)
      refine ⟨fun q => ?_, fun q => ⟨by omega, ?_⟩⟩
      · rw [if_pos q] at ih hm
        rw [List.length_append, List.length_singleton] at ih hm
        refine ⟨by omega, ?_⟩
        rw [e61]
        refine sp_weightM (L := L) hk hs (by rw [zk_set_o (by decide)]; exact hM) (by omega) (by omega) (zvM_q (by rw [zk_set_o (by decide)]; exact z 63 (by decide)) hL) (fun ξ y => ⟨by omega, ?_⟩)
        have y61 : ξ 61 = μ 61 := by rw [y 61 (by decide), zk_set_o (by decide)]; exact e61
        rw [Int.toNat_natCast]
        refine za_getM hk (by rw [zk_set_o (by decide), y61]; exact h) (by omega) (by omega) (by decide) (by decide) ⟨by omega, by omega, by omega, ?_⟩
        rw [Int.toNat_natCast]
        have i0 := ih (zk_set (zk_set ξ 71 ((zg_l σ n).length : Int) (zv_w L σ n)) 72 ((zg_l σ n).length : Int) (σ.1.2.2 n).2.2.2) ((((z.set (by decide) _ _).tr (y.up (by decide))).set (by decide) _ _).set (by decide) _ _) (fun i g' hg => ?_)
        · push_cast at i0
          exact i0
        · rw [zk_set_o (c := 73) (by decide), zk_set_o (c := 73) (by decide), zk_set_o (c := 71) (by decide), y 73 (by decide)]
          rcases zg_app hg with ⟨p1, p2⟩ | ⟨p1, p2⟩
          · rw [zk_set_n (by omega), zk_set_n (by omega), zk_set_n (by omega), zk_set_n (by omega), y 72 (by decide), y 71 (by decide), zk_set_n (by omega), zk_set_n (by omega)]
            exact g i g' p2
          · rw [p1, p2, zk_set_s, zk_set_s, zk_set_s]
            exact ⟨rfl, rfl, rfl⟩
      · rw [if_neg q] at ih
        exact ih ν z g
  exact c_Mod_findGravel (lp 0 (Nat.zero_le _) μ (zq.rf _ _) (fun i g hg => absurd hg (by simp [zg_l])))
theorem sp_put {s : Nat} {w : Int} {F C : Nat → Int → Int} (hs : s < 2 ^ m) (hm : m ≤ 12) (he : e ≤ 6) (hw : w = 1 ∨ w = -1) (hA : zg_M μ m x own g) (hR : zg_R m x own g e) (hF : ∀ k, k < m → s.testBit k = true → ∀ o, F (k + 1) o = (if own k = o then F k o + w * x k else F k o) ∧ C (k + 1) o = (if own k = o then C k o + w else C k o)) (hF0 : ∀ k, s.testBit k = false → ∀ o, F (k + 1) o = F k o ∧ C (k + 1) o = C k o) (hr : ∀ (k : Nat) (o : Int), 0 ≤ o → o < (e : Int) → (0 ≤ F k o ∧ F k o ≤ 10000) ∧ 0 ≤ C k o ∧ C k o ≤ 100) (h0 : ∀ o : Int, 0 ≤ o → o < (e : Int) → μ 69 o = F 0 o ∧ μ 70 o = C 0 o) (hB : ∀ (c : Int) (μ' : zk_M), (c = 0 ∨ c = 1) → (c = 1 ↔ ∀ j, j < 12 → s.testBit j = true → C (j + 1) (own j) ≤ 8) → zq [69, 70] μ μ' → (∀ o : Int, 0 ≤ o → o < (e : Int) → μ' 69 o = F 12 o ∧ μ' 70 o = C 12 o) → B c μ') : zk_C 223 [.inr (.inr (.inl 60)), .inl (s : Int), .inl w] μ (zk_RI B) := by
  have hp : 2 ^ m ≤ 4096 := Nat.pow_le_pow_right (n := 2) (by decide) hm
  have lp : ∀ n, n ≤ 12 → (∀ (c : Int) (ν : zk_M), (c = 0 ∨ c = 1) → (c = 1 ↔ ∀ j, j < n → s.testBit j = true → C (j + 1) (own j) ≤ 8) → zq [69, 70] μ ν → (∀ o : Int, 0 ≤ o → o < (e : Int) → ν 69 o = F n o ∧ ν 70 o = C n o) → zk_K 223 5 [.inr (.inr (.inl 60)), .inl (s : Int), .inl w, .inl c, .inl (n : Int)] [] ν (zk_RI B)) := by
    refine zl_up (P := fun n => ∀ (c : Int) (ν : zk_M), (c = 0 ∨ c = 1) → (c = 1 ↔ ∀ j, j < n → s.testBit j = true → C (j + 1) (own j) ≤ 8) → zq [69, 70] μ ν → (∀ o : Int, 0 ≤ o → o < (e : Int) → ν 69 o = F n o ∧ ν 70 o = C n o) → zk_K 223 5 [.inr (.inr (.inl 60)), .inl (s : Int), .inl w, .inl c, .inl (n : Int)] [] ν (zk_RI B)) (fun c ν c1 c2 z g1 => t_Mod_put_5 ⟨fun _ => ⟨c1, hB c ν c1 c2 z g1⟩, fun q => absurd (by decide) q⟩) (fun n hn ih c ν c1 c2 z g1 => t_Mod_put_5 ⟨fun q => by omega, fun _ => sp_mhas (by omega) (by omega) ?_⟩)
    cases hb : s.testBit n
    · refine ⟨fun q => absurd rfl q, fun _ => ⟨by omega, ih c ν c1 ?_ z (fun o o0 o6 => ?_)⟩⟩
      · rw [c2]
        refine ⟨fun p j hj hj2 => ?_, fun p j hj => p j (by omega)⟩
        by_cases q : j = n
        · rw [q, hb] at hj2
          exact absurd hj2 (by decide)
        · exact p j (by omega) hj2
      · rw [(hF0 n hb o).1, (hF0 n hb o).2]
        exact g1 o o0 o6
    · have hnm := zg_bit hs hb
      obtain ⟨a1, a2, a3⟩ := hA n hnm
      obtain ⟨r0, r1, r2, r3, r4⟩ := hR n hnm
      have e72 : ν 72 n = own n := by rw [z 72 (by decide)]; exact a2
      have e71 : ν 71 n = x n := by rw [z 71 (by decide)]; exact a3
      have g0 := g1 (own n) r1 r2
      have b0 := hr n (own n) r1 r2
      have b1 := hr (n + 1) (own n) r1 r2
      have f1 := hF n hnm hb (own n)
      rw [if_pos rfl, if_pos rfl] at f1
      rw [e72, e71, g0.1, g0.2]
      rw [← f1.1, ← f1.2]
      have hwx : -99 ≤ w * x n ∧ w * x n ≤ 99 := by rcases hw with rfl | rfl <;> omega
      have nx : ∀ (o : Int), 0 ≤ o → o < (e : Int) → zk_set (zk_set ν 69 (own n) (F (n + 1) (own n))) 70 (own n) (C (n + 1) (own n)) 69 o = F (n + 1) o ∧ zk_set (zk_set ν 69 (own n) (F (n + 1) (own n))) 70 (own n) (C (n + 1) (own n)) 70 o = C (n + 1) o := fun o o0 o6 => by
        by_cases q : o = own n
        · rw [q, zk_set_o (by decide), zk_set_s, zk_set_s]
          exact ⟨rfl, rfl⟩
        · have f2 := hF n hnm hb o
          rw [if_neg (fun e => q e.symm), if_neg (fun e => q e.symm)] at f2
          rw [zk_set_n q, zk_set_n q, zk_set_n q, zk_set_n q, f2.1, f2.2]
          exact g1 o o0 o6
      have zn : zq [69, 70] μ (zk_set (zk_set ν 69 (own n) (F (n + 1) (own n))) 70 (own n) (C (n + 1) (own n))) := (z.set (by decide) _ _).set (by decide) _ _
      refine ⟨fun _ => ⟨by omega, by omega, by omega, by omega, by omega, by omega, by omega, by omega, by omega, by omega, fun q => ⟨by omega, ih 0 _ (Or.inl rfl) ?_ zn nx⟩, fun q => ⟨by omega, by omega, ?_⟩⟩, fun q => absurd q (by decide)⟩
      · refine ⟨fun p => absurd p (by decide), fun p => ?_⟩
        have : c = 1 := c2.mpr (fun j hj => p j (by omega))
        omega
      · rw [zk_set_s]
        refine ⟨fun q8 => ⟨by omega, ih 0 _ (Or.inl rfl) ?_ zn nx⟩, fun q8 => ⟨by omega, ih 1 _ (Or.inr rfl) ?_ zn nx⟩⟩
        · refine ⟨fun p => absurd p (by decide), fun p => ?_⟩
          have := p n (by omega) hb
          omega
        · refine ⟨fun _ j hj hj2 => ?_, fun _ => rfl⟩
          by_cases w : j = n
          · rw [w]
            omega
          · exact c2.mp (by omega) j (by omega) hj2
  exact c_Mod_put (lp 0 (by decide) 1 μ (Or.inr rfl) ⟨fun _ j hj => by omega, fun _ => rfl⟩ (zq.rf _ _) h0)
end
