/-! tokens: plain, and on the class's side *-/
def zt_bl (c : Int) : Bool := c == 32 || c == 10
def zt_le (c : Int) : Bool := decide ((97 ≤ c ∧ c ≤ 122) ∨ (65 ≤ c ∧ c ≤ 90))
def zt_di (c : Int) : Bool := decide (48 ≤ c ∧ c ≤ 57)
def zt_sk (p : Nat → Bool) : Nat → Nat → Nat
  | 0, n => n
  | m + 1, n => if p n then zt_sk p m (n + 1) else n
theorem zt_sk_st {p : Nat → Bool} {c n : Nat} (h : n < c) : zt_sk p (c - n) n = if p n then zt_sk p (c - (n + 1)) (n + 1) else n := by
  rw [show c - n = (c - (n + 1)) + 1 by omega, zt_sk]
theorem zt_sk_r {p : Nat → Bool} : ∀ m n, n ≤ zt_sk p m n ∧ zt_sk p m n ≤ n + m ∧ (∀ i, n ≤ i → i < zt_sk p m n → p i = true) ∧ (zt_sk p m n < n + m → p (zt_sk p m n) = false)
  | 0, n => ⟨Nat.le_refl _, Nat.le_refl _, fun i h1 h2 => by have : zt_sk p 0 n = n := rfl; omega, fun h => by have : zt_sk p 0 n = n := rfl; omega⟩
  | m + 1, n => by
    rw [zt_sk]
    by_cases q : p n = true
    · rw [if_pos q]
      obtain ⟨a, b, c, d⟩ := zt_sk_r (p := p) m (n + 1)
      refine ⟨by omega, by omega, fun i h1 h2 => ?_, fun h => d (by omega)⟩
      by_cases e : i = n
      · rw [e]
        exact q
      · exact c i (by omega) h2
    · rw [if_neg q]
      exact ⟨Nat.le_refl _, by omega, fun i h1 h2 => by omega, fun _ => by simpa using q⟩
/-- the words, and what a word is *-/
def zt_ws : List (List Int) := [[119, 101, 105, 103, 104, 115], [103, 111, 101, 115], [118, 111, 119], [112, 97, 115, 115], [102, 111, 114, 103, 105, 118, 101], [119, 97, 105, 116], [111, 102], [116, 111], [111, 114], [97, 110, 100], [110, 111, 116], [107, 105, 110, 100], [97, 103, 101], [115, 105, 115, 116, 101, 114], [115, 116, 111, 110, 101], [115, 105, 110]]
def zt_fl : List (List Int) → List Int
  | [] => []
  | w :: ws => w ++ 32 :: zt_fl ws
theorem zt_fl_W : ∀ i, i < 77 → zt_W i = (zt_fl zt_ws).getD i 0 := by decide +kernel
theorem zt_ws_ne : ∀ w ∈ zt_ws, ∀ c ∈ w, c ≠ 32 := by decide +kernel
def zt_wl (f : Nat → Int) (p e : Nat) : List Int := (List.range (e - p)).map fun i => f (p + i)
def zt_cd (wl : List Int) : List (List Int) → Nat → Nat → Nat
  | [], _, t => t
  | w :: ws, c, t => zt_cd wl ws (c + 1) (if wl = w then c else t)
def zt_nv (f : Nat → Int) (p : Nat) : Nat → Int
  | 0 => 0
  | k + 1 => min (zt_nv f p k * 10 + f (p + k) - 48) 10000
def zt_sg (c : Int) : Nat := if c = 35 then 8 else if c = 40 then 13 else if c = 41 then 14 else if c = 42 then 11 else if c = 43 then 9 else if c = 45 then 10 else if c = 47 then 12 else if c = 59 then 15 else if c = 60 then 3 else if c = 61 then 7 else if c = 62 then 5 else 1
/-- code, value, place, what is behind it *-/
abbrev zt_T := Nat × Int × Nat × Nat
def zt_tp (f : Nat → Int) (len p : Nat) : zt_T :=
  if len ≤ p then (0, 0, p, p)
  else if zt_le (f p) then (zt_cd (zt_wl f p (zt_sk (fun i => zt_le (f i)) (len - p) p)) zt_ws 16 1, 0, p, zt_sk (fun i => zt_le (f i)) (len - p) p)
  else if zt_di (f p) then (2, zt_nv f p (zt_sk (fun i => zt_di (f i)) (len - p) p - p), p, zt_sk (fun i => zt_di (f i)) (len - p) p)
  else if (zt_sg (f p) = 3 ∨ zt_sg (f p) = 5) ∧ p + 1 < len ∧ f (p + 1) = 61 then (if zt_sg (f p) = 3 then 4 else 6, 0, p, p + 2)
  else (zt_sg (f p), 0, p, p + 1)
def zt_tok (f : Nat → Int) (len n : Nat) : zt_T := zt_tp f len (zt_sk (fun i => zt_bl (f i)) (len - n) n)
theorem zt_nv_r {f : Nat → Int} {p : Nat} : ∀ k, (∀ i, i < k → zt_di (f (p + i)) = true) → 0 ≤ zt_nv f p k ∧ zt_nv f p k ≤ 10000
  | 0, _ => ⟨Int.le_refl 0, (by decide : (0 : Int) ≤ 10000)⟩
  | k + 1, h => by
    have ih := zt_nv_r (f := f) (p := p) k (fun i hi => h i (by omega))
    have := h k (by omega)
    simp [zt_di] at this
    rw [zt_nv]
    omega
def zt_by (f : Nat → Int) (len : Nat) : Prop := len ≤ 300 ∧ ∀ i, i < len → 0 ≤ f i ∧ f i ≤ 255
/-- the class's tape *-/
def zt_C0 (μ : zk_M) (f : Nat → Int) (len : Nat) : Prop := μ 42 1 = (len : Int) ∧ ∀ i : Nat, i < len → μ 43 i = f i
def zt_C (μ : zk_M) (t : zt_T) : Prop := μ 42 2 = (t.1 : Int) ∧ μ 42 3 = (t.2.2.1 : Int) ∧ μ 42 5 = (t.2.2.2 : Int) ∧ (t.1 = 2 → μ 42 4 = t.2.1)
section
variable {μ : zk_M} {BV : zk_M → Prop} {B : Int → zk_M → Prop} {f : Nat → Int} {len : Nat}
theorem zt_C0_q {μ' : zk_M} (h : zt_C0 μ f len) (z : zq [42] μ μ') (h1 : μ' 42 1 = μ 42 1) : zt_C0 μ' f len := ⟨by rw [h1]; exact h.1, fun i hi => by rw [z 43 (by decide)]; exact h.2 i hi⟩
theorem sp_cb {n : Nat} (hb : zt_by f len) (h : zt_C0 μ f len) (hy : n < len → B (f n) μ) (hn : ¬ n < len → B 0 μ) : zk_C 108 [.inr (.inr (.inl 42)), .inl (n : Int)] μ (zk_RI B) := by
  have h1 := h.1
  have h3 := hb.1
  refine c_Tap_byteAt ⟨fun q => by omega, fun _ => ⟨fun q => hn (by omega), fun q => ⟨fun q2 => by omega, fun _ => ⟨by omega, ?_⟩⟩⟩⟩
  rw [h.2 n (by omega)]
  exact hy (by omega)
theorem sp_cle {c : Int} (hy : zt_le c = true → B 1 μ) (hn : zt_le c = false → B 0 μ) : zk_C 109 [.inl c] μ (zk_RI B) := by
  simp only [zt_le, decide_eq_true_eq, decide_eq_false_iff_not] at hy hn
  exact c_Tap_isLetter ⟨fun q => ⟨fun q2 => hn (by omega), fun q2 => ⟨fun q3 => hn (by omega), fun q3 => hy (by omega)⟩⟩, fun q => ⟨fun q2 => hy (by omega), fun q2 => ⟨fun q3 => by omega, fun q3 => ⟨fun q4 => hn (by omega), fun q4 => by omega⟩⟩⟩⟩
theorem sp_cdi {c : Int} (hy : zt_di c = true → B 1 μ) (hn : zt_di c = false → B 0 μ) : zk_C 110 [.inl c] μ (zk_RI B) := by
  simp only [zt_di, decide_eq_true_eq, decide_eq_false_iff_not] at hy hn
  exact c_Tap_isDigit ⟨fun q => hn (by omega), fun q => ⟨fun q2 => hn (by omega), fun q2 => hy (by omega)⟩⟩
theorem sp_signOf {c : Int} (h : B (zt_sg c) μ) : zk_C 114 [.inl c] μ (zk_RI B) := by
  unfold zt_sg at h
  refine c_Tap_signOf ⟨fun q => ?_, fun q1 => ?_⟩
  · rw [if_pos q] at h
    exact h
  rw [if_neg q1] at h
  refine ⟨fun q => ?_, fun q1 => ?_⟩
  · rw [if_pos q] at h
    exact h
  rw [if_neg q1] at h
  refine ⟨fun q => ?_, fun q1 => ?_⟩
  · rw [if_pos q] at h
    exact h
  rw [if_neg q1] at h
  refine ⟨fun q => ?_, fun q1 => ?_⟩
  · rw [if_pos q] at h
    exact h
  rw [if_neg q1] at h
  refine ⟨fun q => ?_, fun q1 => ?_⟩
  · rw [if_pos q] at h
    exact h
  rw [if_neg q1] at h
  refine ⟨fun q => ?_, fun q1 => ?_⟩
  · rw [if_pos q] at h
    exact h
  rw [if_neg q1] at h
  refine ⟨fun q => ?_, fun q1 => ?_⟩
  · rw [if_pos q] at h
    exact h
  rw [if_neg q1] at h
  refine ⟨fun q => ?_, fun q1 => ?_⟩
  · rw [if_pos q] at h
    exact h
  rw [if_neg q1] at h
  refine ⟨fun q => ?_, fun q1 => ?_⟩
  · rw [if_pos q] at h
    exact h
  rw [if_neg q1] at h
  refine ⟨fun q => ?_, fun q1 => ?_⟩
  · rw [if_pos q] at h
    exact h
  rw [if_neg q1] at h
  refine ⟨fun q => ?_, fun q1 => ?_⟩
  · rw [if_pos q] at h
    exact h
  rw [if_neg q1] at h
  exact h
theorem sp_cnum {p : Nat} (hb : zt_by f len) (h : zt_C0 μ f len) (hp : p < len) (h5 : μ 42 5 = (p : Int)) (h3 : μ 42 3 = (p : Int)) (hB : ∀ μ', zq [42] μ μ' → zt_C0 μ' f len → zt_C μ' (2, zt_nv f p (zt_sk (fun i => zt_di (f i)) (len - p) p - p), p, zt_sk (fun i => zt_di (f i)) (len - p) p) → BV μ') : zk_C 111 [.inr (.inr (.inl 42))] μ (zk_RV BV) := by
  have hlen := hb.1
  have lp : ∀ n, n ≤ len → (p ≤ n → ∀ ν, zq [42] μ ν → zt_C0 ν f len → ν 42 5 = (n : Int) → ν 42 3 = (p : Int) → ν 42 4 = zt_nv f p (n - p) → (∀ i, i < n - p → zt_di (f (p + i)) = true) → zt_sk (fun i => zt_di (f i)) (len - n) n = zt_sk (fun i => zt_di (f i)) (len - p) p → zk_K 111 5 [.inr (.inr (.inl 42))] [] ν (zk_RV BV)) := by
    have fin : ∀ (n : Nat) (ν : zk_M), zq [42] μ ν → zt_C0 ν f len → ν 42 5 = (n : Int) → ν 42 3 = (p : Int) → ν 42 4 = zt_nv f p (n - p) → n = zt_sk (fun i => zt_di (f i)) (len - p) p → BV (zk_set ν 42 2 2) := fun n ν z h0 k5 k3 k4 e => by
      refine hB _ (z.set (by decide) _ _) (zt_C0_q h0 ((zq.rf _ _).set (by decide) _ _) (zk_set_n (by decide))) ⟨zk_set_s _ _ _ _, by rw [zk_set_n (by decide)]; exact k3, by rw [zk_set_n (by decide), k5, e], fun _ => by rw [zk_set_n (by decide), k4, e]⟩
    refine zl_up (fun hpn ν z h0 k5 k3 k4 kd e => ?_) (fun n hn ih hpn ν z h0 k5 k3 k4 kd e => ?_)
    · rw [Nat.sub_self] at e
      exact t_Tap_readNumber_5 ⟨fun _ => fin len ν z h0 k5 k3 k4 e, fun q => absurd (by rw [h0.1, k5]; exact Int.le_refl _) q⟩
    · rw [zt_sk_st hn] at e
      have r := zt_nv_r (f := f) (p := p) (n - p) kd
      refine t_Tap_readNumber_5 ⟨fun q => by have := h0.1; omega, fun _ => ?_⟩
      rw [k5]
      refine sp_cb hb h0 (fun _ => sp_cdi (fun d => ⟨fun q => absurd q (by decide), fun _ => ?_⟩) (fun d => ⟨fun _ => fin n ν z h0 k5 k3 k4 (by rw [← e, if_neg (by simp [d])]), fun q => absurd rfl q⟩)) (fun q => absurd hn q)
      rw [if_pos d] at e
      have d' := d
      simp [zt_di] at d'
      rw [k4, k5]
      refine ⟨by omega, sp_cb hb h0 (fun _ => ⟨by omega, by omega, by omega, ?_⟩) (fun q => absurd hn q)⟩
      refine ih (by omega) _ ((z.set (by decide) _ _).set (by decide) _ _) (zt_C0_q h0 (((zq.rf _ _).set (by decide) _ _).set (by decide) _ _) (by rw [zk_set_n (by decide), zk_set_n (by decide)])) (by rw [zk_set_s, k5]; rfl) (by rw [zk_set_n (by decide), zk_set_n (by decide)]; exact k3) ?_ (fun i hi => ?_) e
      · rw [zk_set_n (by decide), zk_set_s, show n + 1 - p = (n - p) + 1 by omega, zt_nv, show p + (n - p) = n by omega]
      · by_cases q : i = n - p
        · rw [q, show p + (n - p) = n by omega]
          exact d
        · exact kd i (by omega)
  exact c_Tap_readNumber (lp p (by omega) (Nat.le_refl _) _ ((zq.rf _ _).set (by decide) _ _) (zt_C0_q h ((zq.rf _ _).set (by decide) _ _) (zk_set_n (by decide))) (by rw [zk_set_n (by decide)]; exact h5) (by rw [zk_set_n (by decide)]; exact h3) (by rw [zk_set_s, Nat.sub_self]; rfl) (fun i hi => by omega) rfl)
end
