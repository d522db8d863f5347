/-! light on the reference's side *-/
theorem zr_pig : ∀ (N n : Nat) (f : Nat → Nat), (∀ i, i < n → f i < N) → (∀ i j, i < j → j < n → f i ≠ f j) → n ≤ N
  | 0, n, f, h, _ => by
    by_cases q : n = 0
    · omega
    · have := h 0 (by omega)
      omega
  | N + 1, n, f, h, hd => by
    by_cases q : ∃ i, i < n ∧ f i = N
    · obtain ⟨i, hi, e⟩ := q
      have := zr_pig N (n - 1) (fun j => if j < i then f j else f (j + 1)) (fun j hj => by
        by_cases p : j < i
        · have h1 := h j (by omega)
          have h2 := hd j i p hi
          simp only [if_pos p]
          omega
        · have h1 := h (j + 1) (by omega)
          have h2 := hd i (j + 1) (by omega) (by omega)
          simp only [if_neg p]
          omega) (fun a b hab hb => by
        by_cases p : a < i <;> by_cases p2 : b < i
        · simp only [if_pos p, if_pos p2]
          exact hd a b hab (by omega)
        · simp only [if_pos p, if_neg p2]
          exact hd a (b + 1) (by omega) (by omega)
        · omega
        · simp only [if_neg p, if_neg p2]
          exact hd (a + 1) (b + 1) (by omega) (by omega))
      omega
    · have := zr_pig N n f (fun i hi => by
        have h1 := h i hi
        have h2 : f i ≠ N := fun e => q ⟨i, hi, e⟩
        omega) hd
      omega
theorem zr_inj1 {l l' : List Nat} (h1 : zr_dg l) (h2 : zr_dg l') (h : zr_ext 1 l = zr_ext 1 l') : l = l' := by
  have a := zr_ext_r l 1 h1
  have b := zr_ext_r l' 1 h2
  have len : l.length = l'.length := by
    rcases Nat.lt_trichotomy l.length l'.length with q | q | q
    · have : 6 ^ (l.length + 1) ≤ 6 ^ l'.length := Nat.pow_le_pow_right (by decide) q
      rw [Nat.pow_succ] at this
      omega
    · exact q
    · have : 6 ^ (l'.length + 1) ≤ 6 ^ l.length := Nat.pow_le_pow_right (by decide) q
      rw [Nat.pow_succ] at this
      omega
  exact (zr_ext_inj l l' 1 1 h1 h2 len h).2
theorem zr_dg_app {l : List Nat} {d : Nat} (h : zr_dg l) (hd : d < 6) : zr_dg (l ++ [d]) := fun x hx => by
  rcases List.mem_append.mp hx with q | q
  · exact h x q
  · simp at q
    omega
theorem zr_dg_un {l : List Nat} {d : Nat} (h : zr_dg (l ++ [d])) : zr_dg l ∧ d < 6 := ⟨fun x hx => h x (List.mem_append.mpr (Or.inl hx)), h d (List.mem_append.mpr (Or.inr (by simp)))⟩
def zi_lb : List Nat := [66, 67, 68, 76, 77, 78]
def zr_tr (ν : zk_M) (P : Nat → List Nat) (n : Nat) : Prop := P 0 = [] ∧ ∀ j : Nat, j < n → j ≠ 0 → ∃ c d : Nat, c < j ∧ d < 6 ∧ ν 77 j = (c : Int) ∧ ν 78 j = (d : Int) ∧ P j = P c ++ [d]
def zr_I (ν : zk_M) (ph : Nat → Nat) (nx : Nat → Nat → Int) (m : Nat) (T : Nat → Prop) (P : Nat → List Nat) (G : Nat → Nat) (n fr : Nat) : Prop :=
  1 ≤ n ∧ zr_tr ν P n ∧ (∀ j : Nat, j < n → ν 76 j = (ph (G j) : Int) ∧ G j < 2 ^ m ∧ zr_dg (P j) ∧ zr_run nx (2 ^ m - 1) (P j) = (G j : Int) ∧ ¬ T (G j) ∧ zr_ext 1 (P j) < fr) ∧ (∀ i j : Nat, i < j → j < n → zr_ext 1 (P i) < zr_ext 1 (P j) ∧ G i ≠ G j) ∧ ∀ (l : List Nat) (S : Nat), zr_dg l → zr_run nx (2 ^ m - 1) l = (S : Int) → zr_ext 1 l < fr → ∃ j, j < n ∧ G j = S ∧ zr_ext 1 (P j) ≤ zr_ext 1 l
section
variable {ν : zk_M} {ph : Nat → Nat} {nx : Nat → Nat → Int} {m : Nat} {T : Nat → Prop} {P : Nat → List Nat} {G : Nat → Nat} {n fr : Nat}
/-- a way and its last sin -/
theorem zr_last (hN : zr_N nx m) {l : List Nat} {d S : Nat} (h : zr_run nx (2 ^ m - 1) (l ++ [d]) = (S : Int)) : ∃ R : Nat, zr_run nx (2 ^ m - 1) l = (R : Int) ∧ nx d R = (S : Int) := by
  have hp := Nat.two_pow_pos m
  rw [zr_run_app hN l _ d (by omega)] at h
  rcases zr_run_r hN l (2 ^ m - 1) (by omega) with q | ⟨q1, q2, _⟩
  · rw [if_pos q] at h
    omega
  · rw [if_neg (by omega)] at h
    exact ⟨_, (Int.toNat_of_nonneg q1).symm, h⟩
theorem zr_snoc (hN : zr_N nx m) {l : List Nat} {d R S : Nat} (h : zr_run nx (2 ^ m - 1) l = (R : Int)) (h2 : nx d R = (S : Int)) : zr_run nx (2 ^ m - 1) (l ++ [d]) = (S : Int) := by
  have hp := Nat.two_pow_pos m
  rw [zr_run_app hN l _ d (by omega), h, if_neg (by omega), Int.toNat_natCast]
  exact h2
/-- nothing left: every set that can be come to is there -/
theorem zr_I_end (hN : zr_N nx m) (h : zr_I ν ph nx m T P G n (6 * zr_ext 1 (P (n - 1)) + 6)) : ∀ (k : Nat) (l : List Nat) (S : Nat), l.length = k → zr_dg l → zr_run nx (2 ^ m - 1) l = (S : Int) → ∃ j, j < n ∧ G j = S := by
  obtain ⟨h1, h2, h3, h4, h5⟩ := h
  intro k
  induction k with
  | zero =>
    intro l S hl hd hr
    rw [List.length_eq_zero_iff.mp hl] at hr hd
    obtain ⟨j, j1, j2, _⟩ := h5 [] S hd hr (show 1 < 6 * zr_ext 1 (P (n - 1)) + 6 by omega)
    exact ⟨j, j1, j2⟩
  | succ k ih =>
    intro l S hl hd hr
    rcases List.eq_nil_or_concat l with e | ⟨l0, d, e⟩
    · rw [e] at hl
      exact absurd hl (by simp)
    · rw [List.concat_eq_append] at e
      rw [e] at hl hd hr
      rw [List.length_append, List.length_singleton] at hl
      obtain ⟨d1, d2⟩ := zr_dg_un hd
      obtain ⟨R, r1, r2⟩ := zr_last hN hr
      obtain ⟨j, j1, j2⟩ := ih l0 R (by omega) d1 r1
      have g := h3 j j1
      rw [← j2] at r2
      have hle : zr_ext 1 (P j) ≤ zr_ext 1 (P (n - 1)) := by
        by_cases q : j = n - 1
        · rw [q]
          exact Nat.le_refl _
        · exact Nat.le_of_lt (h4 j (n - 1) (by omega) (by omega)).1
      obtain ⟨j', k1, k2, _⟩ := h5 (P j ++ [d]) S (zr_dg_app g.2.2.1 d2) (zr_snoc hN g.2.2.2.1 r2) (by rw [zr_ext_app]; omega)
      exact ⟨j', k1, k2⟩
/-- to the next set -/
theorem zr_I_up (hN : zr_N nx m) {k : Nat} (hk : k + 1 < n) (h : zr_I ν ph nx m T P G n (6 * zr_ext 1 (P k) + 6)) : zr_I ν ph nx m T P G n (6 * zr_ext 1 (P (k + 1))) := by
  obtain ⟨h1, h2, h3, h4, h5⟩ := h
  have hlt := (h4 k (k + 1) (by omega) hk).1
  refine ⟨h1, h2, fun j hj => ?_, h4, fun l S hd hr he => ?_⟩
  · obtain ⟨a1, a2, a3, a4, a5, a6⟩ := h3 j hj
    exact ⟨a1, a2, a3, a4, a5, by omega⟩
  · by_cases q : zr_ext 1 l < 6 * zr_ext 1 (P k) + 6
    · exact h5 l S hd hr q
    · rcases List.eq_nil_or_concat l with e | ⟨l0, d, e⟩
      · rw [e] at q
        have : zr_ext 1 [] = 1 := rfl
        omega
      · rw [List.concat_eq_append] at e
        rw [e] at hd hr he q ⊢
        rw [zr_ext_app] at he q ⊢
        obtain ⟨d1, d2⟩ := zr_dg_un hd
        obtain ⟨R, r1, r2⟩ := zr_last hN hr
        have hb := (h3 (k + 1) hk).2.2.2.2.2
        obtain ⟨j, j1, j2, j3⟩ := h5 l0 R d1 r1 (by omega)
        have hjk : j ≤ k := by
          by_cases w : j ≤ k
          · exact w
          · by_cases w2 : j = k + 1
            · rw [w2] at j3
              omega
            · have := (h4 (k + 1) j (by omega) j1).1
              omega
        have hle : zr_ext 1 (P j) ≤ zr_ext 1 (P k) := by
          by_cases w : j = k
          · rw [w]
            exact Nat.le_refl _
          · exact Nat.le_of_lt (h4 j k (by omega) (by omega)).1
        have g := h3 j j1
        rw [← j2] at r2
        obtain ⟨j', k1, k2, k3⟩ := h5 (P j ++ [d]) S (zr_dg_app g.2.2.1 d2) (zr_snoc hN g.2.2.2.1 r2) (by rw [zr_ext_app]; omega)
        rw [zr_ext_app] at k3
        exact ⟨j', k1, k2, by omega⟩
/-- a sin that leads to none, or to one that is there -/
theorem zr_I_skip (hN : zr_N nx m) {k d : Nat} (hk : k < n) (hd : d < 6) (h : zr_I ν ph nx m T P G n (6 * zr_ext 1 (P k) + d)) (hx : nx d (G k) = -1 ∨ ∃ j, j < n ∧ nx d (G k) = (G j : Int)) : zr_I ν ph nx m T P G n (6 * zr_ext 1 (P k) + (d + 1)) := by
  obtain ⟨h1, h2, h3, h4, h5⟩ := h
  have g := h3 k hk
  refine ⟨h1, h2, fun j hj => ?_, h4, fun l S hdl hr he => ?_⟩
  · obtain ⟨a1, a2, a3, a4, a5, a6⟩ := h3 j hj
    exact ⟨a1, a2, a3, a4, a5, by omega⟩
  · by_cases q : zr_ext 1 l < 6 * zr_ext 1 (P k) + d
    · exact h5 l S hdl hr q
    · have e : l = P k ++ [d] := zr_inj1 hdl (zr_dg_app g.2.2.1 hd) (by rw [zr_ext_app]; omega)
      rw [e] at hr
      obtain ⟨R, r1, r2⟩ := zr_last hN hr
      rw [g.2.2.2.1] at r1
      have : G k = R := by omega
      rw [← this] at r2
      rcases hx with p | ⟨j, j1, j2⟩
      · omega
      · have := (h3 j j1).2.2.2.2.2
        exact ⟨j, j1, by omega, by omega⟩
/-- a new one -/
theorem zr_I_new (hN : zr_N nx m) {ν' : zk_M} {k d S : Nat} (hk : k < n) (hd : d < 6) (h : zr_I ν ph nx m T P G n (6 * zr_ext 1 (P k) + d)) (hx : nx d (G k) = (S : Int)) (hS : S < 2 ^ m) (hnew : ∀ j, j < n → G j ≠ S) (hT : ¬ T S) (e76 : ∀ j : Nat, j < n → ν' 76 j = ν 76 j) (e77 : ∀ j : Nat, j < n → ν' 77 j = ν 77 j) (e78 : ∀ j : Nat, j < n → ν' 78 j = ν 78 j) (n76 : ν' 76 n = (ph S : Int)) (n77 : ν' 77 n = (k : Int)) (n78 : ν' 78 n = (d : Int)) : zr_I ν' ph nx m T (fun j => if j = n then P k ++ [d] else P j) (fun j => if j = n then S else G j) (n + 1) (6 * zr_ext 1 (P k) + (d + 1)) := by
  obtain ⟨h1, ⟨h20, h2⟩, h3, h4, h5⟩ := h
  have g := h3 k hk
  have pr : ∀ j, j < n → (fun j => if j = n then P k ++ [d] else P j) j = P j := fun j hj => if_neg (by omega)
  have gr : ∀ j, j < n → (fun j => if j = n then S else G j) j = G j := fun j hj => if_neg (by omega)
  have pn : (fun j => if j = n then P k ++ [d] else P j) n = P k ++ [d] := if_pos rfl
  have gn : (fun j => if j = n then S else G j) n = S := if_pos rfl
  generalize (fun j => if j = n then P k ++ [d] else P j) = P' at *
  generalize (fun j => if j = n then S else G j) = G' at *
  have dg : zr_dg (P k ++ [d]) := zr_dg_app g.2.2.1 hd
  have rn : zr_run nx (2 ^ m - 1) (P k ++ [d]) = (S : Int) := zr_snoc hN g.2.2.2.1 hx
  refine ⟨by omega, ⟨by rw [pr 0 (by omega)]; exact h20, fun j hj j0 => ?_⟩, fun j hj => ?_, fun i j hij hj => ?_, fun l S' hdl hr he => ?_⟩
  · by_cases q : j = n
    · subst q
      exact ⟨k, d, hk, hd, n77, n78, by rw [pn, pr k hk]⟩
    · obtain ⟨c, d', c1, c2, c3, c4, c5⟩ := h2 j (by omega) j0
      exact ⟨c, d', c1, c2, by rw [e77 j (by omega)]; exact c3, by rw [e78 j (by omega)]; exact c4, by rw [pr j (by omega), pr c (by omega)]; exact c5⟩
  · by_cases q : j = n
    · subst q
      rw [pn, gn]
      exact ⟨n76, hS, dg, rn, hT, by rw [zr_ext_app]; omega⟩
    · obtain ⟨a1, a2, a3, a4, a5, a6⟩ := h3 j (by omega)
      rw [pr j (by omega), gr j (by omega), e76 j (by omega)]
      exact ⟨a1, a2, a3, a4, a5, by omega⟩
  · by_cases q : j = n
    · subst q
      rw [pn, gn, pr i hij, gr i hij, zr_ext_app]
      exact ⟨(h3 i hij).2.2.2.2.2, hnew i hij⟩
    · rw [pr i (by omega), gr i (by omega), pr j (by omega), gr j (by omega)]
      exact h4 i j hij (by omega)
  · by_cases q : zr_ext 1 l < 6 * zr_ext 1 (P k) + d
    · obtain ⟨j, j1, j2, j3⟩ := h5 l S' hdl hr q
      exact ⟨j, by omega, by rw [gr j j1]; exact j2, by rw [pr j j1]; exact j3⟩
    · have e : l = P k ++ [d] := zr_inj1 hdl dg (by rw [zr_ext_app]; omega)
      refine ⟨n, by omega, ?_, by rw [pn, e]; exact Nat.le_refl _⟩
      rw [gn]
      rw [e, rn] at hr
      omega
end
section
variable {μ : zk_M} {BV : zk_M → Prop} {B : Int → zk_M → Prop}
theorem sp_isFound {x : Int} {n : Nat} (hn : n ≤ 256) (hy : ∀ j : Nat, j < n → μ 76 j = x → B 1 μ) (hno : (∀ j : Nat, j < n → μ 76 j ≠ x) → B 0 μ) : zk_C 229 [.inr (.inr (.inl 60)), .inl x, .inl (n : Int)] μ (zk_RI B) := by
  have lp : ∀ j, j ≤ n → ((∀ i : Nat, i < j → μ 76 i ≠ x) → zk_K 229 2 [.inr (.inr (.inl 60)), .inl x, .inl (n : Int), .inl (j : Int)] [] μ (zk_RI B)) := by
    refine zl_up (fun h => t_Mod_isFound_2 ⟨fun _ => hno h, fun q => absurd (Int.le_refl _) q⟩) (fun j hj ih h => t_Mod_isFound_2 ⟨fun q => by omega, fun _ => ⟨by omega, fun q => ⟨by omega, ih (fun i hi => ?_)⟩, fun q => hy j hj q⟩⟩)
    by_cases e : i = j
    · rw [e]
      exact q
    · exact h i (by omega)
  exact c_Mod_isFound (lp 0 (Nat.zero_le _) (fun i hi => by omega))
end
