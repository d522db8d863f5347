/-! one veil's stones as bits: the class counts them from 0, the reference by their numbers *-/
def zn_ix (σ : za_S) (s : Int) (n : Nat) : Nat := zb_c (fun n => (σ.1.2.2 n).2.2.1 == s) n
def zn_l (σ : za_S) (s : Int) : Nat → List Nat
  | 0 => []
  | n + 1 => if (σ.1.2.2 n).2.2.1 = s then zn_l σ s n ++ [n] else zn_l σ s n
def zn_v (σ : za_S) (s : Int) (i : Nat) : Nat := (zn_l σ s σ.1.1).getD i 0
def zn_ph (σ : za_S) (s : Int) (S : Nat) : Nat := zb_t (fun j => (σ.1.2.2 j).2.2.1 == s && S.testBit (zn_ix σ s j)) σ.1.1
theorem zn_ix_s (σ : za_S) (s : Int) (n : Nat) : zn_ix σ s (n + 1) = zn_ix σ s n + (if (σ.1.2.2 n).2.2.1 = s then 1 else 0) := by
  unfold zn_ix
  rw [zb_c]
  by_cases q : (σ.1.2.2 n).2.2.1 = s
  · rw [if_pos q, if_pos (by simp [q])]
  · rw [if_neg q, if_neg (by simpa using q)]
theorem zn_l_len (σ : za_S) (s : Int) : ∀ n, (zn_l σ s n).length = zn_ix σ s n
  | 0 => rfl
  | n + 1 => by
    rw [zn_l, zn_ix_s, ← zn_l_len σ s n]
    split
    · simp
    · rfl
theorem zn_l_p (σ : za_S) (s : Int) : ∀ n i g, (zn_l σ s n)[i]? = some g → g < n ∧ (σ.1.2.2 g).2.2.1 = s ∧ zn_ix σ s g = i
  | 0, i, g, h => absurd h (by simp [zn_l])
  | n + 1, i, g, h => by
    rw [zn_l] at h
    split at h
    · rename_i q
      rcases zg_app h with ⟨h1, h2⟩ | ⟨h1, h2⟩
      · have := zn_l_p σ s n i g h2
        exact ⟨by omega, this.2⟩
      · rw [h2, h1, zn_l_len]
        exact ⟨Nat.lt_succ_self n, q, rfl⟩
    · have := zn_l_p σ s n i g h
      exact ⟨by omega, this.2⟩
theorem zn_l_ix (σ : za_S) (s : Int) {n : Nat} (hs : (σ.1.2.2 n).2.2.1 = s) : ∀ c, n < c → (zn_l σ s c)[zn_ix σ s n]? = some n
  | 0, h => absurd h (by omega)
  | c + 1, h => by
    rw [zn_l]
    by_cases q : n = c
    · subst q
      rw [if_pos hs, ← zn_l_len, List.getElem?_append_right (Nat.le_refl _), Nat.sub_self]
      rfl
    · have ih := zn_l_ix σ s hs c (by omega)
      split
      · rw [List.getElem?_append_left (by
          rw [List.getElem?_eq_some_iff] at ih
          obtain ⟨w, _⟩ := ih
          exact w)]
        exact ih
      · exact ih
section
variable {σ : za_S} {s : Int}
theorem zn_v_p {i : Nat} (h : i < za_n σ s) : zn_v σ s i < σ.1.1 ∧ (σ.1.2.2 (zn_v σ s i)).2.2.1 = s ∧ zn_ix σ s (zn_v σ s i) = i :=
  zn_l_p σ s σ.1.1 i _ (zg_get (by rw [zn_l_len]; exact h))
theorem zn_v_ix {n : Nat} (h : n < σ.1.1) (hs : (σ.1.2.2 n).2.2.1 = s) : zn_v σ s (zn_ix σ s n) = n ∧ zn_ix σ s n < za_n σ s := by
  have h1 := zn_l_ix σ s hs σ.1.1 h
  refine ⟨?_, ?_⟩
  · unfold zn_v
    rw [List.getD_eq_getElem?_getD, h1]
    rfl
  · rw [List.getElem?_eq_some_iff] at h1
    obtain ⟨w, _⟩ := h1
    rw [zn_l_len] at w
    exact w
theorem zn_v_mono {i j : Nat} (hi : i < za_n σ s) (hj : j < za_n σ s) (h : i ≤ j) : zn_v σ s i ≤ zn_v σ s j := by
  by_cases q : zn_v σ s i ≤ zn_v σ s j
  · exact q
  · have := zb_c_mono (f := fun n => (σ.1.2.2 n).2.2.1 == s) (n := zn_v σ s j) (zn_v σ s i) (by omega)
    have e1 : zn_ix σ s (zn_v σ s j) ≤ zn_ix σ s (zn_v σ s i) := this
    rw [(zn_v_p hi).2.2, (zn_v_p hj).2.2] at e1
    have : i = j := by omega
    rw [this]
    exact Nat.le_refl _
theorem zn_ph_bit (S j : Nat) : (zn_ph σ s S).testBit j = (decide (j < σ.1.1) && ((σ.1.2.2 j).2.2.1 == s && S.testBit (zn_ix σ s j))) := zb_t_bit _ _ _
theorem zn_ph_t {S j : Nat} : (zn_ph σ s S).testBit j = true ↔ j < σ.1.1 ∧ (σ.1.2.2 j).2.2.1 = s ∧ S.testBit (zn_ix σ s j) = true := by
  rw [zn_ph_bit]
  simp
theorem zn_ph_lt (S : Nat) (h : σ.1.1 ≤ 30) : zn_ph σ s S < 1073741824 := zb_t_le30 h
theorem zn_ph_all : zn_ph σ s (2 ^ za_n σ s - 1) = za_in σ s := zb_t_congr _ (fun j hj => by
  by_cases q : (σ.1.2.2 j).2.2.1 = s
  · have := (zn_v_ix hj q).2
    simp [q, Nat.testBit_two_pow_sub_one, this]
  · simp [q])
theorem zn_ph_inj {S T : Nat} (hS : S < 2 ^ za_n σ s) (hT : T < 2 ^ za_n σ s) (h : zn_ph σ s S = zn_ph σ s T) : S = T := by
  apply Nat.eq_of_testBit_eq
  intro i
  by_cases q : i < za_n σ s
  · have p := zn_v_p q
    have h1 := zn_ph_bit (σ := σ) (s := s) S (zn_v σ s i)
    have h2 := zn_ph_bit (σ := σ) (s := s) T (zn_v σ s i)
    rw [h] at h1
    rw [h1, p.2.1, p.2.2] at h2
    simpa [p.1] using h2
  · rw [Nat.testBit_lt_two_pow (Nat.lt_of_lt_of_le hS (Nat.pow_le_pow_right (by decide) (by omega))), Nat.testBit_lt_two_pow (Nat.lt_of_lt_of_le hT (Nat.pow_le_pow_right (by decide) (by omega)))]
/-- what such a set weighs -/
def zn_W (L : Option (List (Int × Int))) (σ : za_S) (s : Int) (S : Nat) : Int := zs_sum (fun i => if S.testBit i then zv_w L σ (zn_v σ s i) else 0) (za_n σ s)
theorem zn_wt (L : Option (List (Int × Int))) (S : Nat) : zv_set L σ (zn_ph σ s S) σ.1.1 = zn_W L σ s S := by
  have key : ∀ n, n ≤ σ.1.1 → zs_sum (fun k => if (zn_ph σ s S).testBit k then zv_w L σ k else 0) n = zs_sum (fun i => if S.testBit i then zv_w L σ (zn_v σ s i) else 0) (zn_ix σ s n) := by
    intro n
    induction n with
    | zero => intro _; rfl
    | succ n ih =>
      intro hn
      rw [zs_sum, ih (by omega), zn_ix_s]
      by_cases q : (σ.1.2.2 n).2.2.1 = s
      · have e := zn_v_ix (σ := σ) (s := s) (n := n) (by omega) q
        have hb : (zn_ph σ s S).testBit n = S.testBit (zn_ix σ s n) := by
          rw [zn_ph_bit]
          simp [q, show n < σ.1.1 by omega]
        rw [if_pos q, zs_sum, hb, e.1]
      · have hb : (zn_ph σ s S).testBit n = false := by
          rw [zn_ph_bit]
          simp [q]
        rw [if_neg q, hb, Nat.add_zero]
        simp
  exact key σ.1.1 (Nat.le_refl _)
/-- the first of S that goes, the set behind it -/
def zn_t (gs : Nat → Bool) (m S : Nat) : Int := zb_s (fun i => S.testBit i && gs i) m 0
def zn_nx (gs : Nat → Bool) (m S : Nat) : Int := if zn_t gs m S = -1 then -1 else ((S ^^^ 2 ^ (zn_t gs m S).toNat : Nat) : Int)
theorem zn_t_p (gs : Nat → Bool) (m S : Nat) : (zn_t gs m S = -1 ∧ ∀ i, i < m → (S.testBit i && gs i) = false) ∨ ∃ i, i < m ∧ zn_t gs m S = (i : Int) ∧ S.testBit i = true ∧ gs i = true ∧ ∀ j, j < i → (S.testBit j && gs j) = false := by
  unfold zn_t
  rcases zb_s_spec (fun i => S.testBit i && gs i) m 0 with ⟨h1, h2⟩ | ⟨i, h1, h2, h3, h4, h5⟩
  · exact Or.inl ⟨h1, fun i hi => h2 i (by omega) (by omega)⟩
  · rw [Bool.and_eq_true] at h4
    exact Or.inr ⟨i, by omega, h3, h4.1, h4.2, fun j hj => h5 j (by omega) hj⟩
theorem zn_tk (L : Option (List (Int × Int))) (S : Nat) (d : Int) : za_tk L σ (zn_ph σ s S) d = if zn_t (fun i => zv_g L σ d (zn_v σ s i)) (za_n σ s) S = -1 then -1 else ((zn_v σ s (zn_t (fun i => zv_g L σ d (zn_v σ s i)) (za_n σ s) S).toNat : Nat) : Int) := by
  unfold za_tk
  rcases zn_t_p (fun i => zv_g L σ d (zn_v σ s i)) (za_n σ s) S with ⟨h1, h2⟩ | ⟨i, h1, h2, h3, h4, h5⟩
  · rw [if_pos h1]
    rcases zb_s_spec (fun n => (zn_ph σ s S).testBit n && zv_g L σ d n) σ.1.1 0 with ⟨k1, k2⟩ | ⟨j, k1, k2, k3, k4, k5⟩
    · exact k1
    · rw [Bool.and_eq_true, zn_ph_t] at k4
      have e := zn_v_ix k4.1.1 k4.1.2.1
      have := h2 _ e.2
      rw [e.1, k4.1.2.2, k4.2] at this
      exact absurd this (by decide)
  · rw [h2, if_neg (by omega), Int.toNat_natCast]
    have p := zn_v_p h1
    have hf : ((zn_ph σ s S).testBit (zn_v σ s i) && zv_g L σ d (zn_v σ s i)) = true := by
      rw [Bool.and_eq_true]
      exact ⟨zn_ph_t.mpr ⟨p.1, p.2.1, by rw [p.2.2]; exact h3⟩, h4⟩
    rcases zb_s_spec (fun n => (zn_ph σ s S).testBit n && zv_g L σ d n) σ.1.1 0 with ⟨k1, k2⟩ | ⟨j, k1, k2, k3, k4, k5⟩
    · have := k2 (zn_v σ s i) (by omega) (by omega)
      rw [hf] at this
      exact absurd this (by decide)
    · rw [k3]
      rw [Bool.and_eq_true, zn_ph_t] at k4
      have e := zn_v_ix k4.1.1 k4.1.2.1
      have hle : i ≤ zn_ix σ s j := by
        by_cases q : i ≤ zn_ix σ s j
        · exact q
        · have := h5 (zn_ix σ s j) (by omega)
          rw [e.1, k4.1.2.2, k4.2] at this
          exact absurd this (by decide)
      have hm := zn_v_mono h1 e.2 hle
      rw [e.1] at hm
      by_cases q : j = zn_v σ s i
      · rw [q]
      · have := k5 (zn_v σ s i) (by omega) (by omega)
        rw [hf] at this
        exact absurd this (by decide)
theorem zb_clr {a k : Nat} (ha : a < 1073741824) (hk : k < 30) (hb : a.testBit k = true) : zk_and (a : Int) (zk_xor (zk_shl 1 (k : Int)) (-1)) = ((a ^^^ 2 ^ k : Nat) : Int) := by
  have hp : 2 ^ k < 2 ^ 30 := Nat.pow_lt_pow_right (by decide) hk
  rw [zb_one (by omega)]
  unfold zk_and zk_xor
  rw [zk_I_of, zk_I_nat a (by omega), zk_I_nat (2 ^ k) (by omega)]
  have e : nI a &&& (nI (2 ^ k) ^^^ zk_I (-1)) = nI (a ^^^ 2 ^ k) := by
    apply Int32.toBitVec_inj.1
    show BitVec.ofNat 32 a &&& (BitVec.ofNat 32 (2 ^ k) ^^^ BitVec.allOnes 32) = BitVec.ofNat 32 (a ^^^ 2 ^ k)
    apply BitVec.eq_of_getLsbD_eq
    intro i hi
    rw [BitVec.getLsbD_and, BitVec.getLsbD_xor, BitVec.getLsbD_allOnes, BitVec.getLsbD_ofNat, BitVec.getLsbD_ofNat, BitVec.getLsbD_ofNat, Nat.testBit_xor, Nat.testBit_two_pow]
    by_cases q : k = i
    · subst q
      simp [hi, hb]
    · simp [hi, q]
  have hx : a ^^^ 2 ^ k < 2 ^ 30 := Nat.xor_lt_two_pow (by omega) hp
  rw [e, zk_toInt_nI (by omega)]
theorem zn_ph_clr {S i : Nat} (hi : i < za_n σ s) (hb : S.testBit i = true) : zn_ph σ s S ^^^ 2 ^ zn_v σ s i = zn_ph σ s (S ^^^ 2 ^ i) := by
  have p := zn_v_p hi
  apply Nat.eq_of_testBit_eq
  intro j
  rw [Nat.testBit_xor, zn_ph_bit, zn_ph_bit, Nat.testBit_xor, Nat.testBit_two_pow, Nat.testBit_two_pow]
  by_cases h1 : j < σ.1.1
  · by_cases h2 : (σ.1.2.2 j).2.2.1 = s
    · have e := zn_v_ix h1 h2
      have : (zn_v σ s i = j) ↔ (i = zn_ix σ s j) := ⟨fun q => by rw [← q, p.2.2], fun q => by rw [q, e.1]⟩
      simp [h1, h2, this]
    · have : zn_v σ s i ≠ j := fun q => h2 (by rw [← q]; exact p.2.1)
      have e2 : ((σ.1.2.2 j).2.2.1 == s) = false := by simpa using h2
      simp [e2, this]
  · have : zn_v σ s i ≠ j := fun q => h1 (by rw [← q]; exact p.1)
    simp [h1, this]
theorem zn_nx_r {gs : Nat → Bool} {m S : Nat} (hS : S < 2 ^ m) : zn_nx gs m S = -1 ∨ (0 ≤ zn_nx gs m S ∧ (zn_nx gs m S).toNat < 2 ^ m ∧ zb_c (zn_nx gs m S).toNat.testBit m + 1 = zb_c S.testBit m ∧ (zn_nx gs m S).toNat < S) := by
  unfold zn_nx
  rcases zn_t_p gs m S with ⟨h1, h2⟩ | ⟨i, h1, h2, h3, h4, h5⟩
  · exact Or.inl (if_pos h1)
  · right
    rw [h2, if_neg (by omega), Int.toNat_natCast, Int.toNat_natCast]
    have hx : S ^^^ 2 ^ i < 2 ^ m := Nat.xor_lt_two_pow hS (Nat.pow_lt_pow_right (by decide) h1)
    have pc : ∀ k, i < k → zb_c (S ^^^ 2 ^ i).testBit k + 1 = zb_c S.testBit k := by
      intro k
      induction k with
      | zero => intro h; omega
      | succ k ih =>
        intro h
        rw [zb_c, zb_c, Nat.testBit_xor, Nat.testBit_two_pow]
        by_cases q : i = k
        · subst q
          have : zb_c (S ^^^ 2 ^ i).testBit i = zb_c S.testBit i := zb_c_congr _ (fun j hj => by
            rw [Nat.testBit_xor, Nat.testBit_two_pow]
            simp [show ¬ i = j by omega])
          rw [this]
          simp [h3]
        · have := ih (by omega)
          simp [q]
          omega
    have hlt : S ^^^ 2 ^ i < S := by
      have e : S = (S ^^^ 2 ^ i) ||| 2 ^ i := by
        apply Nat.eq_of_testBit_eq
        intro j
        rw [Nat.testBit_or, Nat.testBit_xor, Nat.testBit_two_pow]
        by_cases q : i = j
        · subst q
          simp [h3]
        · simp [q]
      have hle : S ^^^ 2 ^ i ≤ S := by
        have := Nat.left_le_or (n := S ^^^ 2 ^ i) (m := 2 ^ i)
        rw [← e] at this
        exact this
      have hne : S ^^^ 2 ^ i ≠ S := fun q => by
        have h6 : (S ^^^ 2 ^ i).testBit i = S.testBit i := by rw [q]
        rw [Nat.testBit_xor, Nat.testBit_two_pow, h3] at h6
        simp at h6
      omega
    exact ⟨by omega, hx, pc m h1, hlt⟩
theorem zb_low : ∀ c : Nat, c < 256 → c ≠ 0 → zk_and (c : Int) (-(c : Int)) = ((2 ^ (zb_s c.testBit 8 0).toNat : Nat) : Int) := by decide +kernel
theorem zb_s_ext {f : Nat → Bool} {m : Nat} : ∀ k n, m ≤ k → (∀ j, n + m ≤ j → f j = false) → zb_s f k n = zb_s f m n := by
  induction m with
  | zero =>
    intro k n _ h
    rcases zb_s_spec f k n with ⟨h1, _⟩ | ⟨j, h1, h2, h3, h4, h5⟩
    · rw [h1]
      rfl
    · rw [h j (by omega)] at h4
      exact absurd h4 (by decide)
  | succ m ih =>
    intro k n hk h
    obtain ⟨k', rfl⟩ : ∃ k', k = k' + 1 := ⟨k - 1, by omega⟩
    rw [zb_s, zb_s, ih k' (n + 1) (by omega) (fun j hj => h j (by omega))]
end
