/-! words as one number *-/
theorem zt_lor {a b : Nat} (ha : a < 281474976710656) (hb : b < 256) : zk_lor (zk_lshl (a : Int) 8) (b : Int) = ((a * 256 + b : Nat) : Int) := by
  unfold zk_lor zk_lshl
  rw [zk_J_of]
  have e1 : (zk_J (a : Int) <<< ((zk_I 8).toInt64 &&& 63)).toBitVec = BitVec.ofNat 64 a <<< 8 := by
    show (BitVec.ofInt 64 (a : Int)) <<< (8 : Nat) = _
    rw [BitVec.ofInt_natCast]
  have e2 : (zk_J (b : Int)).toBitVec = BitVec.ofNat 64 b := by
    show BitVec.ofInt 64 (b : Int) = _
    rw [BitVec.ofInt_natCast]
  have e3 : (zk_J (a : Int) <<< ((zk_I 8).toInt64 &&& 63) ||| zk_J (b : Int)).toBitVec = BitVec.ofNat 64 (a * 256 + b) := by
    show (zk_J (a : Int) <<< ((zk_I 8).toInt64 &&& 63)).toBitVec ||| (zk_J (b : Int)).toBitVec = _
    rw [e1, e2]
    apply BitVec.eq_of_toNat_eq
    rw [BitVec.toNat_or, BitVec.toNat_shiftLeft, BitVec.toNat_ofNat, BitVec.toNat_ofNat, BitVec.toNat_ofNat, Nat.mod_eq_of_lt (show a < 2 ^ 64 by omega), Nat.mod_eq_of_lt (show b < 2 ^ 64 by omega), Nat.mod_eq_of_lt (show a * 256 + b < 2 ^ 64 by omega), Nat.shiftLeft_eq, Nat.mod_eq_of_lt (show a * 2 ^ 8 < 2 ^ 64 by omega)]
    have := Nat.two_pow_add_eq_or_of_lt (i := 8) (b := b) (by omega) a
    rw [Nat.mul_comm, ← this]
  have hl : (BitVec.ofNat 64 (a * 256 + b)).toNat = a * 256 + b := by rw [BitVec.toNat_ofNat, Nat.mod_eq_of_lt (show a * 256 + b < 2 ^ 64 by omega)]
  rw [← Int64.toInt_toBitVec, e3, BitVec.toInt_eq_toNat_of_lt (by rw [hl]; omega), hl]
def zt_pk (l : List Int) : Int := l.foldl (fun a c => a * 256 + c) 0
theorem zt_pk_app (l : List Int) (c : Int) : zt_pk (l ++ [c]) = zt_pk l * 256 + c := by
  unfold zt_pk
  rw [List.foldl_append]
  rfl
theorem zt_pk_r : ∀ (n : Nat) (l : List Int), l.length = n → (∀ c ∈ l, 0 ≤ c ∧ c ≤ 255) → 0 ≤ zt_pk l ∧ zt_pk l < 256 ^ n := by
  intro n
  induction n with
  | zero =>
    intro l hl _
    rw [List.length_eq_zero_iff.mp hl]
    decide
  | succ n ih =>
    intro l hl h
    rcases List.eq_nil_or_concat l with e | ⟨l0, c, e⟩
    · rw [e] at hl
      exact absurd hl (by simp)
    · rw [List.concat_eq_append] at e
      rw [e] at hl h ⊢
      rw [List.length_append, List.length_singleton] at hl
      have h1 := ih l0 (by omega) (fun x hx => h x (List.mem_append.mpr (Or.inl hx)))
      have h2 := h c (List.mem_append.mpr (Or.inr (by simp)))
      rw [zt_pk_app]
      have : (256 : Int) ^ (n + 1) = 256 ^ n * 256 := Int.pow_succ _ _
      omega
theorem zt_pk_inj : ∀ (n : Nat) (l l' : List Int), l.length = n → (∀ c ∈ l, 1 ≤ c ∧ c ≤ 255) → (∀ c ∈ l', 1 ≤ c ∧ c ≤ 255) → zt_pk l = zt_pk l' → l = l' := by
  intro n
  induction n with
  | zero =>
    intro l l' hl _ h' he
    rw [List.length_eq_zero_iff.mp hl] at he ⊢
    rcases List.eq_nil_or_concat l' with e | ⟨l0, c, e⟩
    · exact e.symm
    · rw [List.concat_eq_append] at e
      rw [e] at h' he
      have h1 := (zt_pk_r _ l0 rfl (fun x hx => by have := h' x (List.mem_append.mpr (Or.inl hx)); omega)).1
      have h2 := h' c (List.mem_append.mpr (Or.inr (by simp)))
      rw [zt_pk_app] at he
      have : zt_pk [] = 0 := rfl
      omega
  | succ n ih =>
    intro l l' hl h h' he
    rcases List.eq_nil_or_concat l with e | ⟨l0, c, e⟩
    · rw [e] at hl
      exact absurd hl (by simp)
    · rw [List.concat_eq_append] at e
      rw [e] at hl h he ⊢
      rw [List.length_append, List.length_singleton] at hl
      have a1 := (zt_pk_r _ l0 rfl (fun x hx => by have := h x (List.mem_append.mpr (Or.inl hx)); omega)).1
      have a2 := h c (List.mem_append.mpr (Or.inr (by simp)))
      rw [zt_pk_app] at he
      rcases List.eq_nil_or_concat l' with e' | ⟨l0', c', e'⟩
      · rw [e'] at he
        have : zt_pk [] = 0 := rfl
        omega
      · rw [List.concat_eq_append] at e'
        rw [e'] at h' he ⊢
        have b1 := (zt_pk_r _ l0' rfl (fun x hx => by have := h' x (List.mem_append.mpr (Or.inl hx)); omega)).1
        have b2 := h' c' (List.mem_append.mpr (Or.inr (by simp)))
        rw [zt_pk_app] at he
        have e1 : zt_pk l0 = zt_pk l0' ∧ c = c' := by omega
        rw [ih l0 l0' (by omega) (fun x hx => h x (List.mem_append.mpr (Or.inl hx))) (fun x hx => h' x (List.mem_append.mpr (Or.inl hx))) e1.1, e1.2]
theorem zt_cd_p (wl : List Int) : ∀ (ws : List (List Int)) (c t : Nat), (∃ i, i < ws.length ∧ wl = ws.getD i [] ∧ zt_cd wl ws c t = c + i) ∨ ((∀ w ∈ ws, wl ≠ w) ∧ zt_cd wl ws c t = t)
  | [], c, t => Or.inr ⟨fun w hw => absurd hw (by simp), rfl⟩
  | w :: ws, c, t => by
    rw [zt_cd]
    rcases zt_cd_p wl ws (c + 1) (if wl = w then c else t) with ⟨i, h1, h2, h3⟩ | ⟨h1, h2⟩
    · exact Or.inl ⟨i + 1, by rw [List.length_cons]; omega, h2, by rw [h3]; omega⟩
    · by_cases q : wl = w
      · rw [if_pos q] at h2
        exact Or.inl ⟨0, by rw [List.length_cons]; omega, q, by rw [if_pos q, h2]; rfl⟩
      · rw [if_neg q] at h2
        refine Or.inr ⟨fun w' hw' => ?_, by rw [if_neg q]; exact h2⟩
        rcases List.mem_cons.mp hw' with e | e
        · rw [e]
          exact q
        · exact h1 w' e
theorem zt_ws_b : ∀ w ∈ zt_ws, (∀ c ∈ w, 1 ≤ c ∧ c ≤ 255) ∧ w.length ≤ 7 ∧ zt_pk w ≠ 0 := by decide +kernel
