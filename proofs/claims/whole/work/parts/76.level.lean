/-! level: plain *-/
/-- the gravel among the first n stones, the lowest first -/
def zg_l (σ : za_S) : Nat → List Nat
  | 0 => []
  | n + 1 => if (σ.1.2.2 n).2.2.1 = 6 then zg_l σ n ++ [n] else zg_l σ n
theorem zg_l_len (σ : za_S) : ∀ n, (zg_l σ n).length = zb_c (fun n => (σ.1.2.2 n).2.2.1 == 6) n
  | 0 => rfl
  | n + 1 => by
    rw [zg_l, zb_c, ← zg_l_len σ n]
    by_cases q : (σ.1.2.2 n).2.2.1 = 6
    · rw [if_pos q, if_pos (by simp [q])]
      simp
    · rw [if_neg q, if_neg (by simpa using q)]
      rfl
theorem zg_l_lt (σ : za_S) : ∀ n, ∀ x ∈ zg_l σ n, x < n
  | 0, x, h => absurd h (by simp [zg_l])
  | n + 1, x, h => by
    rw [zg_l] at h
    split at h
    · rcases List.mem_append.mp h with h | h
      · have := zg_l_lt σ n x h
        omega
      · simp at h
        omega
    · have := zg_l_lt σ n x h
      omega
theorem zb_c_mono {f : Nat → Bool} {n : Nat} : ∀ m, n ≤ m → zb_c f n ≤ zb_c f m
  | 0, h => by rw [show n = 0 by omega]; exact Nat.le_refl _
  | m + 1, h => by
    by_cases q : n = m + 1
    · rw [q]
      exact Nat.le_refl _
    · have := zb_c_mono (f := f) (n := n) m (by omega)
      rw [zb_c]
      omega
/-- b o and what those of f add to it -/
def zg_f (b : Int → Int) (x own : Nat → Int) (f : Nat → Bool) (m : Nat) (o : Int) : Int := b o + zs_sum (fun i => if f i = true ∧ own i = o then x i else 0) m
theorem zs_sum_upd {f g : Nat → Int} {i : Nat} (h : ∀ j, j ≠ i → g j = f j) : ∀ m, i < m → zs_sum g m = zs_sum f m + (g i - f i)
  | 0, hi => absurd hi (by omega)
  | m + 1, hi => by
    rw [zs_sum, zs_sum]
    by_cases q : i = m
    · have : zs_sum g m = zs_sum f m := zs_sum_cg m (fun j hj => h j (by omega))
      rw [this, q]
      omega
    · rw [zs_sum_upd h m (by omega), h m (fun e => q e.symm)]
      omega
theorem zg_f_upd {b : Int → Int} {x own : Nat → Int} {f g : Nat → Bool} {m i : Nat} (h : ∀ j, j ≠ i → g j = f j) (hi : i < m) (o : Int) : zg_f b x own g m o = zg_f b x own f m o + ((if g i = true ∧ own i = o then x i else 0) - (if f i = true ∧ own i = o then x i else 0)) := by
  unfold zg_f
  rw [zs_sum_upd (f := fun i => if f i = true ∧ own i = o then x i else 0) (g := fun i => if g i = true ∧ own i = o then x i else 0) (fun j hj => by simp only [h j hj]) m hi]
  omega
theorem zg_f_cg {b : Int → Int} {x own : Nat → Int} {f g : Nat → Bool} {m : Nat} (h : ∀ j, j < m → g j = f j) (o : Int) : zg_f b x own g m o = zg_f b x own f m o := by
  unfold zg_f
  rw [zs_sum_cg (f := fun i => if g i = true ∧ own i = o then x i else 0) (g := fun i => if f i = true ∧ own i = o then x i else 0) m (fun i hi => by simp only [h i hi])]
theorem zg_f_r {b : Int → Int} {x own : Nat → Int} {f : Nat → Bool} {m : Nat} {M K : Int} (hK : 0 ≤ K) {o : Int} (hb : 0 ≤ b o ∧ b o ≤ M) (hx : ∀ i, i < m → 0 ≤ x i ∧ x i ≤ K) : 0 ≤ zg_f b x own f m o ∧ zg_f b x own f m o ≤ M + K * m := by
  have := zs_sum_r (f := fun i => if f i = true ∧ own i = o then x i else 0) hK m (fun i hi => by
    have := hx i hi
    split <;> omega)
  unfold zg_f
  omega
/-- a set and the one ahead of it -/
theorem zg_dif : ∀ (i s : Nat), s ≠ 0 → (s ^^^ (s - 1)) / 2 ^ i ≠ 0 → s.testBit i ≠ (s - 1).testBit i
  | 0, s, hs, _ => by
    rw [Nat.testBit_zero, Nat.testBit_zero]
    by_cases q : s % 2 = 1
    · have : ¬ (s - 1) % 2 = 1 := by omega
      simp [q, this]
    · have : (s - 1) % 2 = 1 := by omega
      simp [q, this]
  | i + 1, s, hs, h => by
    rw [Nat.testBit_succ, Nat.testBit_succ]
    have e : (s ^^^ (s - 1)) / 2 ^ (i + 1) = (s / 2 ^^^ (s - 1) / 2) / 2 ^ i := by
      rw [← Nat.xor_div_two, Nat.div_div_eq_div_mul, Nat.pow_succ, Nat.mul_comm]
    rw [e] at h
    by_cases q : s % 2 = 1
    · have : (s - 1) / 2 = s / 2 := by omega
      rw [this, Nat.xor_self, Nat.zero_div] at h
      exact absurd rfl h
    · have : (s - 1) / 2 = s / 2 - 1 := by omega
      rw [this] at h ⊢
      exact zg_dif i (s / 2) (by omega) h
theorem zg_same {i s t : Nat} (h : (s ^^^ t) / 2 ^ i = 0) {j : Nat} (hj : i ≤ j) : s.testBit j = t.testBit j := by
  have hl : s ^^^ t < 2 ^ j := by
    have h1 : s ^^^ t < 2 ^ i := by
      rcases Nat.div_eq_zero_iff.mp h with q | q
      · exact absurd q (Nat.ne_of_gt (Nat.two_pow_pos i))
      · exact q
    exact Nat.lt_of_lt_of_le h1 (Nat.pow_le_pow_right (by omega) hj)
  have := Nat.testBit_lt_two_pow hl
  rw [Nat.testBit_xor] at this
  cases a : s.testBit j <;> cases b : t.testBit j <;> simp [a, b] at this ⊢
theorem zs_lo_mono {f : Nat → Int} {n : Nat} : ∀ m, n ≤ m → zs_lo f m ≤ zs_lo f n
  | 0, h => by rw [show n = 0 by omega]; exact Int.le_refl _
  | m + 1, h => by
    by_cases q : n = m + 1
    · rw [q]
      exact Int.le_refl _
    · have := zs_lo_mono (f := f) (n := n) m (by omega)
      rw [zs_lo]
      omega
theorem zs_hi_mono {f : Nat → Int} {n : Nat} : ∀ m, n ≤ m → zs_hi f n ≤ zs_hi f m
  | 0, h => by rw [show n = 0 by omega]; exact Int.le_refl _
  | m + 1, h => by
    by_cases q : n = m + 1
    · rw [q]
      exact Int.le_refl _
    · have := zs_hi_mono (f := f) (n := n) m (by omega)
      rw [zs_hi]
      omega
/-- no veil too full, and level -/
def zg_lv (W N : Int → Int) (e : Nat) (bd : Int) : Prop := (∀ o : Nat, o < e → N o ≤ 8) ∧ zs_sp (fun n => W n) e ≤ bd
/-- the search -/
def zg_s (P : Nat → Prop) : Nat → Nat → Int → Int → Prop
  | 0, _, b, r => r = b
  | m + 1, s, b, r => (((b = -1 ∨ zb_c s.testBit 30 < zb_c b.toNat.testBit 30) ∧ P s) ∧ zg_s P m (s + 1) s r) ∨ (¬ ((b = -1 ∨ zb_c s.testBit 30 < zb_c b.toNat.testBit 30) ∧ P s) ∧ zg_s P m (s + 1) b r)
theorem zg_s_ex {P : Nat → Prop} : ∀ (m s : Nat) (b : Int), ∃ r, zg_s P m s b r
  | 0, _, b => ⟨b, rfl⟩
  | m + 1, s, b => by
    by_cases q : (b = -1 ∨ zb_c s.testBit 30 < zb_c b.toNat.testBit 30) ∧ P s
    · obtain ⟨r, hr⟩ := zg_s_ex (P := P) m (s + 1) s
      exact ⟨r, Or.inl ⟨q, hr⟩⟩
    · obtain ⟨r, hr⟩ := zg_s_ex (P := P) m (s + 1) b
      exact ⟨r, Or.inr ⟨q, hr⟩⟩
theorem zg_s_y {P : Nat → Prop} {c n : Nat} {b r : Int} (h : zg_s P (c - n) n b r) (hn : n < c) (q : (b = -1 ∨ zb_c n.testBit 30 < zb_c b.toNat.testBit 30) ∧ P n) : zg_s P (c - (n + 1)) (n + 1) n r := by
  rw [show c - n = (c - (n + 1)) + 1 by omega] at h
  rcases h with h | h
  · exact h.2
  · exact absurd q h.1
theorem zg_s_n {P : Nat → Prop} {c n : Nat} {b r : Int} (h : zg_s P (c - n) n b r) (hn : n < c) (q : ¬ ((b = -1 ∨ zb_c n.testBit 30 < zb_c b.toNat.testBit 30) ∧ P n)) : zg_s P (c - (n + 1)) (n + 1) b r := by
  rw [show c - n = (c - (n + 1)) + 1 by omega] at h
  rcases h with h | h
  · exact absurd h.1 q
  · exact h.2
/-- the stones of a set -/
def zg_mk (s : Nat) (g : Nat → Nat) : Nat → Nat
  | 0 => 0
  | n + 1 => if s.testBit n then zg_mk s g n ||| 2 ^ g n else zg_mk s g n
theorem zg_mk_lt {s : Nat} {g : Nat → Nat} : ∀ n, (∀ i, i < n → g i < 30) → zg_mk s g n < 2 ^ 30
  | 0, _ => Nat.two_pow_pos 30
  | n + 1, h => by
    have ih := zg_mk_lt (s := s) (g := g) n (fun i hi => h i (by omega))
    rw [zg_mk]
    split
    · exact Nat.or_lt_two_pow ih (Nat.pow_lt_pow_right (by omega) (h n (by omega)))
    · exact ih
