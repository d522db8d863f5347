/-! the reference's keep and undo; the class's taking back *-/
section zs_steps2
variable {μ : zk_M} {B : Int → zk_M → Prop} {BV : zk_M → Prop}
def zd_sh (μ : zk_M) (k : Nat) : zk_M := fun c i => if c = 61 ∧ 166 ≤ i ∧ i < 166 + k then μ 61 (i + 62) else μ c i
theorem zd_sh_step (μ : zk_M) (k : Nat) : zk_set (zd_sh μ k) 61 (166 + (k : Int)) (zd_sh μ k 61 (228 + (k : Int))) = zd_sh μ (k + 1) := by
  funext c i
  have e : zd_sh μ k 61 (228 + (k : Int)) = μ 61 (228 + k) := by unfold zd_sh; rw [if_neg (by omega)]
  rw [e]
  unfold zk_set zd_sh
  by_cases hc : c = 61
  · subst hc
    by_cases hi : i = 166 + (k : Int)
    · subst hi
      rw [if_pos rfl, if_pos rfl, if_pos (by omega)]
      congr 1; omega
    · rw [if_pos rfl, if_neg hi]
      by_cases h2 : 166 ≤ i ∧ i < 166 + (k : Int)
      · rw [if_pos ⟨rfl, h2⟩, if_pos (by omega)]
      · rw [if_neg (by omega), if_neg (by omega)]
  · rw [if_neg hc, if_neg (fun q => hc q.1), if_neg (fun q => hc q.1)]
/-- the where and whose of n stones written at x -/
def zd_wr (ν : zk_M) (x : Int) (n : Nat) : zk_M := fun c i => if c = 61 ∧ x + 2 ≤ i ∧ i < x + 2 + 2 * n then (if (i - x) % 2 = 0 then ν 61 (48 + 4 * ((i - x - 2) / 2)) else ν 61 (49 + 4 * ((i - x - 3) / 2))) else ν c i
theorem zd_wr_step (ν : zk_M) (x : Int) (n : Nat) : zk_set (zk_set (zd_wr ν x n) 61 (x + 2 + 2 * n) (ν 61 (48 + 4 * n))) 61 (x + 3 + 2 * n) (ν 61 (49 + 4 * n)) = zd_wr ν x (n + 1) := by
  funext c i
  unfold zk_set zd_wr
  by_cases hc : c = 61
  · subst hc
    simp only [if_true, true_and]
    by_cases h1 : i = x + 3 + 2 * (n : Int)
    · subst h1
      rw [if_pos rfl, if_pos (by omega), if_neg (by omega)]
      congr 2; omega
    · rw [if_neg h1]
      by_cases h2 : i = x + 2 + 2 * (n : Int)
      · subst h2
        rw [if_pos rfl, if_pos (by omega), if_pos (by omega)]
        congr 2; omega
      · rw [if_neg h2]
        by_cases h3 : x + 2 ≤ i ∧ i < x + 2 + 2 * (n : Int)
        · rw [if_pos h3, if_pos (show x + 2 ≤ i ∧ i < x + 2 + 2 * ((n + 1 : Nat) : Int) by omega)]
        · rw [if_neg h3, if_neg (by omega)]
  · simp [hc]
theorem zd_wr_low {ν : zk_M} {x : Int} {n : Nat} {c : Nat} {i : Int} (h : i < x + 2) : zd_wr ν x n c i = ν c i := by unfold zd_wr; rw [if_neg (by omega)]
theorem sp_mkeep_wr {ν : zk_M} {x : Nat} (hx0 : 166 ≤ x) (hx : x + 62 ≤ 2026) (h5 : 0 ≤ ν 61 5 ∧ ν 61 5 ≤ 30) (h : BV (zk_set (zd_wr ν x 30) 61 5 (ν 61 5 + 1))) : zk_K 205 98 [.inr (.inr (.inl 60)), .inl (x : Int), .inl 0] [] ν (zk_RV BV) := by
  have key := zl_up (P := fun n => zk_K 205 98 [.inr (.inr (.inl 60)), .inl (x : Int), .inl (n : Int)] [] (zd_wr ν x n) (zk_RV BV)) (e := 30) ?_ ?_ 0 (Nat.zero_le 30)
  · have e : zd_wr ν x 0 = ν := by funext c i; unfold zd_wr; rw [if_neg (by omega)]
    simp only [e] at key
    exact key
  · refine t_Mod_keep_98 ⟨fun _ => ?_, fun q => by omega⟩
    rw [zd_wr_low (by omega)]
    exact ⟨by omega, h⟩
  · intro n hn ih
    refine t_Mod_keep_98 ⟨fun q => by omega, fun _ => ⟨by omega, by omega, by omega, sp_get (by omega) (by omega) (by omega) (by omega) ⟨by omega, by omega, by omega, by omega, sp_get (by omega) (by omega) (by omega) (by omega) ⟨by omega, by omega, ?_⟩⟩⟩⟩
    have e1 : (zd_wr ν x n) 61 (46 + 4 * (n : Int) + 2) = ν 61 (48 + 4 * n) := by rw [zd_wr_low (by omega)]; congr 1; omega
    rw [e1]
    have e2 : (zk_set (zd_wr ν x n) 61 ((x : Int) + 2 + 2 * n) (ν 61 (48 + 4 * n))) 61 (46 + 4 * (n : Int) + 3) = ν 61 (49 + 4 * n) := by
      rw [zk_set_n (by omega), zd_wr_low (by omega)]; congr 1; omega
    rw [e2, zd_wr_step]
    exact ih
theorem sp_mkeep {m : Nat} (hm : m ≤ 30) (h5 : μ 61 5 = (m : Int)) (h : ∀ μ', zq [61] μ μ' → zd_kM (μ 61) (μ' 61) m → BV μ') : zk_C 205 [.inr (.inr (.inl 60))] μ (zk_RV BV) := by
  refine c_Mod_keep ⟨fun q => ?_, fun q => ?_⟩
  · rw [h5] at q ⊢
    have hm2 : m < 30 := by omega
    have ed : zd_d m = 0 := by unfold zd_d; rw [if_neg (by omega)]
    have em : zd_m m = m := by unfold zd_m; rw [if_neg (by omega)]
    refine ⟨by omega, by omega, by omega, by omega, by omega, ?_⟩
    have ex : (166 + 62 * (m : Int)) = ((166 + 62 * m : Nat) : Int) := by omega
    rw [ex]
    have e2 : (zk_set μ 61 ((166 + 62 * m : Nat) : Int) (μ 61 1)) 61 2 = μ 61 2 := zk_set_n (by omega)
    rw [e2]
    have e5 : (zk_set (zk_set μ 61 ((166 + 62 * m : Nat) : Int) (μ 61 1)) 61 (((166 + 62 * m : Nat) : Int) + 1) (μ 61 2)) 61 5 = (m : Int) := by
      rw [zk_set_n (by omega), zk_set_n (by omega), h5]
    refine sp_mkeep_wr (by omega) (by omega) (by rw [e5]; omega) ?_
    rw [e5]
    have ecell : ∀ c i, c ≠ 61 → zk_set (zd_wr (zk_set (zk_set μ 61 ((166 + 62 * m : Nat) : Int) (μ 61 1)) 61 (((166 + 62 * m : Nat) : Int) + 1) (μ 61 2)) ((166 + 62 * m : Nat) : Int) 30) 61 5 ((m : Int) + 1) c i = μ c i := by
      intro c i hc
      rw [zk_set_o hc]
      unfold zd_wr
      rw [if_neg (fun q => hc q.1), zk_set_o hc, zk_set_o hc]
    refine h _ (fun c hc => by funext i; exact ecell c i (by simpa using hc)) ⟨?_, ?_, ?_, ?_, ?_, ?_⟩
    · intro i hi h5
      rw [zk_set_n h5, zd_wr_low (by omega), zk_set_n (by omega), zk_set_n (by omega)]
    · rw [zk_set_s, em]
    · rw [em, ed]
      intro j hj q q0 q1
      rw [zk_set_n (by omega), zd_wr_low (by omega), zk_set_n (by omega), zk_set_n (by omega)]
      rfl
    · rw [em, zk_set_n (by omega), zd_wr_low (by omega), zk_set_n (by omega)]
      simp only [zk_set, if_true]
      rw [if_pos (by omega)]
    · rw [em, zk_set_n (by omega), zd_wr_low (by omega)]
      simp only [zk_set, if_true]
      rw [if_pos (by omega)]
    · rw [em]
      intro n hn
      refine ⟨?_, ?_⟩
      · rw [zk_set_n (by omega)]
        unfold zd_wr
        rw [if_pos ⟨rfl, by omega, by omega⟩, if_pos (by omega), zk_set_n (by omega), zk_set_n (by omega)]
        congr 1; omega
      · rw [zk_set_n (by omega)]
        unfold zd_wr
        rw [if_pos ⟨rfl, by omega, by omega⟩, if_neg (by omega), zk_set_n (by omega), zk_set_n (by omega)]
        congr 1; omega
  · rw [h5] at q
    have hm30 : m = 30 := by omega
    subst hm30
    have key := zl_up (P := fun k => zk_K 205 13 [.inr (.inr (.inl 60)), .inl (k : Int), .inr (.inr (.inr 0))] [] (zd_sh μ k) (zk_RV BV)) (e := 1798) ?_ ?_ 0 (Nat.zero_le _)
    · have e : zd_sh μ 0 = μ := by funext c i; unfold zd_sh; rw [if_neg (by omega)]
      simp only [e] at key
      exact key
    · refine t_Mod_keep_13 ⟨fun _ => ?_, fun q => by omega⟩
      have lowr : ∀ i : Int, i < 166 → zd_sh μ 1798 61 i = μ 61 i := fun i hi => by unfold zd_sh; rw [if_neg (by omega)]
      rw [lowr 5 (by omega), h5]
      refine ⟨by omega, by omega, by omega, by omega, by omega, by omega, ?_⟩
      rw [lowr 1 (by omega)]
      have ex : (166 + 62 * (((30 : Nat) : Int) - 1)) = ((1964 : Nat) : Int) := by omega
      rw [ex]
      have e2 : (zk_set (zk_set (zd_sh μ 1798) 61 5 (((30 : Nat) : Int) - 1)) 61 ((1964 : Nat) : Int) (μ 61 1)) 61 2 = μ 61 2 := by
        rw [zk_set_n (by omega), zk_set_n (by omega), lowr 2 (by omega)]
      rw [e2]
      have e5 : (zk_set (zk_set (zk_set (zd_sh μ 1798) 61 5 (((30 : Nat) : Int) - 1)) 61 ((1964 : Nat) : Int) (μ 61 1)) 61 (((1964 : Nat) : Int) + 1) (μ 61 2)) 61 5 = 29 := by
        rw [zk_set_n (by omega), zk_set_n (by omega), zk_set_s]; rfl
      refine sp_mkeep_wr (by omega) (by omega) (by rw [e5]; omega) ?_
      rw [e5]
      refine h _ (fun c hc => ?_) ⟨?_, ?_, ?_, ?_, ?_, ?_⟩
      · have hc : c ≠ 61 := by simpa using hc
        funext i
        rw [zk_set_o hc]
        unfold zd_wr
        rw [if_neg (fun q => hc q.1), zk_set_o hc, zk_set_o hc, zk_set_o hc]
        unfold zd_sh
        rw [if_neg (fun q => hc q.1)]
      · intro i hi h5
        rw [zk_set_n h5, zd_wr_low (by omega), zk_set_n (by omega), zk_set_n (by omega), zk_set_n h5, lowr i hi]
      · rw [zk_set_s]; rfl
      · show ∀ j : Nat, j < 29 → _
        intro j hj q q0 q1
        rw [zk_set_n (by omega), zd_wr_low (by omega), zk_set_n (by omega), zk_set_n (by omega), zk_set_n (by omega)]
        unfold zd_sh
        rw [if_pos ⟨rfl, by omega, by omega⟩]
        congr 1
        show _ = 166 + 62 * ((j + 1 : Nat) : Int) + q
        omega
      · show _ = _
        rw [show (166 + 62 * ((zd_m 30 : Nat) : Int)) = 1964 from rfl, zk_set_n (by omega), zd_wr_low (by omega), zk_set_n (by omega)]
        simp only [zk_set, if_true]
        rw [if_pos (by omega)]
      · rw [show (167 + 62 * ((zd_m 30 : Nat) : Int)) = 1965 from rfl, zk_set_n (by omega), zd_wr_low (by omega)]
        simp only [zk_set, if_true]
        rw [if_pos (by omega)]
      · intro n hn
        rw [show (168 + 62 * ((zd_m 30 : Nat) : Int)) = 1966 from rfl, show (169 + 62 * ((zd_m 30 : Nat) : Int)) = 1967 from rfl]
        refine ⟨?_, ?_⟩
        · rw [zk_set_n (by omega)]
          unfold zd_wr
          rw [if_pos ⟨rfl, by omega, by omega⟩, if_pos (by omega), zk_set_n (by omega), zk_set_n (by omega), zk_set_n (by omega), lowr _ (by omega)]
          congr 1; omega
        · rw [zk_set_n (by omega)]
          unfold zd_wr
          rw [if_pos ⟨rfl, by omega, by omega⟩, if_neg (by omega), zk_set_n (by omega), zk_set_n (by omega), zk_set_n (by omega), lowr _ (by omega)]
          congr 1; omega
    · intro k hk ih
      refine t_Mod_keep_13 ⟨fun q => by omega, fun _ => ⟨by omega, by omega, by omega, by omega, by omega, ?_⟩⟩
      rw [zd_sh_step]
      exact ih
/-! taking back *-/
theorem sp_takeBack {m o : Nat} (hm : m ≤ 30) (ho : o < 30) (h2 : μ 5 2 = (m : Int)) (h1 : μ 5 1 = (o : Int)) (hy : 0 < m → ∀ μ', zq [4, 5] μ μ' → μ' 5 1 = (o : Int) → μ' 5 2 = (m : Int) - 1 → (∀ q : Int, 0 ≤ q → q < 32 → μ' 4 q = μ 6 (32 * ((o + (m - 1)) % 30 : Nat) + q)) → B 1 μ') (hn : m = 0 → B 0 μ) : zk_C 86 [.inr (.inr (.inl 5)), .inr (.inr (.inl 3))] μ (zk_RI B) := by
  refine c_Ste_takeBack ?_
  rw [h2]
  refine ⟨fun q => ?_, fun q => hn (by omega)⟩
  have hp : (o + (m - 1)) % 30 < 30 := Nat.mod_lt _ (by omega)
  have em : (m : Int) - 1 = ((m - 1 : Nat) : Int) := by omega
  refine ⟨by omega, ?_⟩
  have k := sp_placeB (o := o) (k := m - 1) (μ := zk_set μ 5 2 ((m : Int) - 1)) (B := fun r2 μ1 => ((0 : Int) ≤ r2 ∧ (0 : Int) ≤ 0 ∧ (0 : Int) ≤ 32 ∧ (r2 : Int) + 32 ≤ 960 ∧ (0 : Int) + 32 ≤ 32) ∧ (B 1 (zk_cpy μ1 6 r2 4 0 32))) ho (by omega) (by rw [zk_set_n (by decide)]; exact h1)
  rw [← em] at k
  refine k ⟨by omega, hy (by omega) _ ?_ ?_ ?_ ?_⟩
  · intro c hc
    have h4 : c ≠ 4 := fun q => hc (by simp [q])
    have h5 : c ≠ 5 := fun q => hc (by simp [q])
    funext i
    simp [zk_cpy, h4, zk_set, h5]
  · simp [zk_cpy, zk_set, h1]
  · simp [zk_cpy, zk_set]
  · intro q q0 q1
    simp only [zk_cpy, if_true]
    rw [if_pos (by omega), zk_set_o (by decide)]
    congr 1; omega
def zd_un (ν : zk_M) (x : Int) (n : Nat) : zk_M := fun c i => if c = 61 ∧ 46 ≤ i ∧ i < 46 + 4 * n ∧ (i - 46) % 4 = 2 then ν 61 (x + 2 + 2 * ((i - 48) / 4)) else if c = 61 ∧ 46 ≤ i ∧ i < 46 + 4 * n ∧ (i - 46) % 4 = 3 then ν 61 (x + 3 + 2 * ((i - 49) / 4)) else ν c i
theorem zd_un_hi {ν : zk_M} {x : Int} {n : Nat} {c : Nat} {i : Int} (h : 46 + 4 * n ≤ i) : zd_un ν x n c i = ν c i := by unfold zd_un; rw [if_neg (by omega), if_neg (by omega)]
theorem zd_un_lo {ν : zk_M} {x : Int} {n : Nat} {c : Nat} {i : Int} (h : i < 48) : zd_un ν x n c i = ν c i := by unfold zd_un; rw [if_neg (by omega), if_neg (by omega)]
theorem zd_un_step (ν : zk_M) (x : Int) (n : Nat) : zk_set (zk_set (zd_un ν x n) 61 (46 + 4 * n + 2) (ν 61 (x + 2 + 2 * n))) 61 (46 + 4 * n + 3) (ν 61 (x + 3 + 2 * n)) = zd_un ν x (n + 1) := by
  funext c i
  unfold zk_set zd_un
  by_cases hc : c = 61
  · subst hc
    simp only [if_true, true_and]
    by_cases h1 : i = 46 + 4 * (n : Int) + 3
    · subst h1
      rw [if_pos rfl, if_neg (by omega), if_pos (by omega)]
      congr 2; omega
    · rw [if_neg h1]
      by_cases h2 : i = 46 + 4 * (n : Int) + 2
      · subst h2
        rw [if_pos rfl, if_pos (by omega)]
        congr 2; omega
      · rw [if_neg h2]
        by_cases h3 : 46 ≤ i ∧ i < 46 + 4 * (n : Int) ∧ (i - 46) % 4 = 2
        · rw [if_pos h3, if_pos (show 46 ≤ i ∧ i < 46 + 4 * ((n + 1 : Nat) : Int) ∧ (i - 46) % 4 = 2 by omega)]
        · by_cases h4 : 46 ≤ i ∧ i < 46 + 4 * (n : Int) ∧ (i - 46) % 4 = 3
          · rw [if_neg h3, if_pos h4, if_neg (show ¬ (46 ≤ i ∧ i < 46 + 4 * ((n + 1 : Nat) : Int) ∧ (i - 46) % 4 = 2) by omega), if_pos (show 46 ≤ i ∧ i < 46 + 4 * ((n + 1 : Nat) : Int) ∧ (i - 46) % 4 = 3 by omega)]
          · rw [if_neg h3, if_neg h4, if_neg (show ¬ (46 ≤ i ∧ i < 46 + 4 * ((n + 1 : Nat) : Int) ∧ (i - 46) % 4 = 2) by omega), if_neg (show ¬ (46 ≤ i ∧ i < 46 + 4 * ((n + 1 : Nat) : Int) ∧ (i - 46) % 4 = 3) by omega)]
  · simp [hc]
/-- what undo leaves: x the place of the step -/
def zd_uM (a a' : Int → Int) (m : Nat) : Prop := a' 5 = (m : Int) - 1 ∧ a' 1 = a (166 + 62 * ((m : Int) - 1)) ∧ a' 2 = a (167 + 62 * ((m : Int) - 1)) ∧ (∀ n : Nat, n < 30 → a' (48 + 4 * n) = a (168 + 62 * ((m : Int) - 1) + 2 * n) ∧ a' (49 + 4 * n) = a (169 + 62 * ((m : Int) - 1) + 2 * n) ∧ a' (46 + 4 * n) = a (46 + 4 * n) ∧ a' (47 + 4 * n) = a (47 + 4 * n)) ∧ (∀ i : Int, 166 ≤ i → a' i = a i) ∧ ∀ i : Int, i < 46 → i ≠ 1 → i ≠ 2 → i ≠ 5 → a' i = a i
theorem sp_undoM {m : Nat} (hm : m ≤ 30) (h5 : μ 61 5 = (m : Int)) (hy : 0 < m → ∀ μ', zq [61] μ μ' → zd_uM (μ 61) (μ' 61) m → B ((m : Int) - 1) μ') (hn : m = 0 → B (-1) μ) : zk_C 206 [.inr (.inr (.inl 60))] μ (zk_RI B) := by
  refine c_Mod_undo ?_
  rw [h5]
  refine ⟨fun q => ?_, fun q => hn (by omega)⟩
  refine ⟨by omega, by omega, by omega, by omega, by omega, by omega, ?_⟩
  rw [show (166 + 62 * ((m : Int) - 1)) = ((104 + 62 * m : Nat) : Int) by omega]
  have e1 : (zk_set μ 61 5 ((m : Int) - 1)) 61 ((104 + 62 * m : Nat) : Int) = μ 61 (166 + 62 * ((m : Int) - 1)) := by rw [zk_set_n (by omega)]; congr 1; omega
  rw [e1]
  have e2 : (zk_set (zk_set μ 61 5 ((m : Int) - 1)) 61 1 (μ 61 (166 + 62 * ((m : Int) - 1)))) 61 (((104 + 62 * m : Nat) : Int) + 1) = μ 61 (167 + 62 * ((m : Int) - 1)) := by rw [zk_set_n (by omega), zk_set_n (by omega)]; congr 1; omega
  rw [e2]
  generalize hν : zk_set (zk_set (zk_set μ 61 5 ((m : Int) - 1)) 61 1 (μ 61 (166 + 62 * ((m : Int) - 1)))) 61 2 (μ 61 (167 + 62 * ((m : Int) - 1))) = ν
  have hi : ∀ i : Int, i ≠ 1 → i ≠ 2 → i ≠ 5 → ν 61 i = μ 61 i := fun i a b c => by rw [← hν, zk_set_n b, zk_set_n a, zk_set_n c]
  have key := zl_up (P := fun n => zk_K 206 63 [.inr (.inr (.inl 60)), .inl ((104 + 62 * m : Nat) : Int), .inl (n : Int)] [] (zd_un ν ((104 + 62 * m : Nat) : Int) n) (zk_RI B)) (e := 30) ?_ ?_ 0 (Nat.zero_le 30)
  · have e : zd_un ν ((104 + 62 * m : Nat) : Int) 0 = ν := by funext c i; unfold zd_un; rw [if_neg (by omega), if_neg (by omega)]
    simp only [e] at key
    exact key
  · refine t_Mod_undo_63 ⟨fun _ => ?_, fun q => by omega⟩
    have e5 : zd_un ν ((104 + 62 * m : Nat) : Int) 30 61 5 = (m : Int) - 1 := by
      rw [zd_un_lo (by omega), ← hν, zk_set_n (by omega), zk_set_n (by omega), zk_set_s]
    rw [e5]
    refine hy (by omega) _ (fun c hc => ?_) ⟨e5, ?_, ?_, ?_, ?_, ?_⟩
    · have hc : c ≠ 61 := by simpa using hc
      funext i
      unfold zd_un
      rw [if_neg (fun q => hc q.1), if_neg (fun q => hc q.1), ← hν, zk_set_o hc, zk_set_o hc, zk_set_o hc]
    · rw [zd_un_lo (by omega), ← hν, zk_set_n (by omega), zk_set_s]
    · rw [zd_un_lo (by omega), ← hν, zk_set_s]
    · intro n hn
      refine ⟨?_, ?_, ?_, ?_⟩
      · unfold zd_un
        rw [if_pos (by omega), hi _ (by omega) (by omega) (by omega)]
        congr 1; omega
      · unfold zd_un
        rw [if_neg (by omega), if_pos (by omega), hi _ (by omega) (by omega) (by omega)]
        congr 1; omega
      · unfold zd_un
        rw [if_neg (by omega), if_neg (by omega), hi _ (by omega) (by omega) (by omega)]
      · unfold zd_un
        rw [if_neg (by omega), if_neg (by omega), hi _ (by omega) (by omega) (by omega)]
    · intro i h
      rw [zd_un_hi (by omega), hi _ (by omega) (by omega) (by omega)]
    · intro i h h1 h2 h5
      rw [zd_un_lo (by omega), hi _ h1 h2 h5]
  · intro n hn ih
    have e1 : (zd_un ν ((104 + 62 * m : Nat) : Int) n) 61 (((104 + 62 * m : Nat) : Int) + 2 + 2 * n) = ν 61 (((104 + 62 * m : Nat) : Int) + 2 + 2 * n) := zd_un_hi (by omega)
    refine t_Mod_undo_63 ⟨fun q => by omega, fun _ => ⟨by omega, by omega, by omega, by omega, sp_set (by omega) (by omega) (by omega) (by omega) ⟨by omega, by omega, by omega, by omega, sp_set (by omega) (by omega) (by omega) (by omega) ⟨by omega, ?_⟩⟩⟩⟩
    rw [e1]
    have e2 : (zk_set (zd_un ν ((104 + 62 * m : Nat) : Int) n) 61 (46 + 4 * (n : Int) + 2) (ν 61 (((104 + 62 * m : Nat) : Int) + 2 + 2 * n))) 61 (((104 + 62 * m : Nat) : Int) + 3 + 2 * n) = ν 61 (((104 + 62 * m : Nat) : Int) + 3 + 2 * n) := by
      rw [zk_set_n (by omega), zd_un_hi (by omega)]
    rw [e2, zd_un_step]
    exact ih
end zs_steps2
