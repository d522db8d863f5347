/-! light: plain, and on the class's side *-/
def zr_run (nx : Nat → Nat → Int) : Nat → List Nat → Int
  | S, [] => (S : Int)
  | S, d :: l => if nx d S = -1 then -1 else zr_run nx (nx d S).toNat l
def zr_ext : Nat → List Nat → Nat
  | c, [] => c
  | c, d :: l => zr_ext (6 * c + d) l
def zr_dg (l : List Nat) : Prop := ∀ d ∈ l, d < 6
theorem zr_ext_app : ∀ (l : List Nat) (c d : Nat), zr_ext c (l ++ [d]) = 6 * zr_ext c l + d
  | [], _, _ => rfl
  | e :: l, c, d => zr_ext_app l (6 * c + e) d
theorem zr_ext_r : ∀ (l : List Nat) (c : Nat), zr_dg l → c * 6 ^ l.length ≤ zr_ext c l ∧ zr_ext c l < (c + 1) * 6 ^ l.length
  | [], c, _ => by
    show c * 1 ≤ c ∧ c < (c + 1) * 1
    omega
  | d :: l, c, h => by
    have ih := zr_ext_r l (6 * c + d) (fun x hx => h x (List.mem_cons_of_mem _ hx))
    have hd : d < 6 := h d (List.mem_cons_self)
    have e1 : c * 6 ^ (l.length + 1) ≤ (6 * c + d) * 6 ^ l.length := by
      rw [Nat.pow_succ, Nat.mul_comm (6 ^ l.length) 6, ← Nat.mul_assoc]
      exact Nat.mul_le_mul_right _ (by omega)
    have e2 : (6 * c + d + 1) * 6 ^ l.length ≤ (c + 1) * 6 ^ (l.length + 1) := by
      rw [Nat.pow_succ, Nat.mul_comm (6 ^ l.length) 6, ← Nat.mul_assoc]
      exact Nat.mul_le_mul_right _ (by omega)
    exact ⟨Nat.le_trans e1 ih.1, Nat.lt_of_lt_of_le ih.2 e2⟩
theorem zr_ext_inj : ∀ (l l' : List Nat) (c c' : Nat), zr_dg l → zr_dg l' → l.length = l'.length → zr_ext c l = zr_ext c' l' → c = c' ∧ l = l'
  | [], [], _, _, _, _, _, h => ⟨h, rfl⟩
  | [], _ :: _, _, _, _, _, hl, _ => absurd hl (by simp)
  | _ :: _, [], _, _, _, _, hl, _ => absurd hl (by simp)
  | d :: l, d' :: l', c, c', h1, h2, hl, h => by
    have ih := zr_ext_inj l l' (6 * c + d) (6 * c' + d') (fun x hx => h1 x (List.mem_cons_of_mem _ hx)) (fun x hx => h2 x (List.mem_cons_of_mem _ hx)) (by simpa using hl) h
    have a := h1 d (List.mem_cons_self)
    have b := h2 d' (List.mem_cons_self)
    have e : c = c' ∧ d = d' := by omega
    exact ⟨e.1, by rw [e.2, ih.2]⟩
/-- the sets: nx leads lower, with one stone less -/
def zr_N (nx : Nat → Nat → Int) (m : Nat) : Prop := ∀ d S : Nat, S < 2 ^ m → nx d S = -1 ∨ (0 ≤ nx d S ∧ (nx d S).toNat < 2 ^ m ∧ zb_c (nx d S).toNat.testBit m + 1 = zb_c S.testBit m ∧ (nx d S).toNat < S)
theorem zr_run_r {nx : Nat → Nat → Int} {m : Nat} (hN : zr_N nx m) : ∀ (l : List Nat) (S : Nat), S < 2 ^ m → zr_run nx S l = -1 ∨ (0 ≤ zr_run nx S l ∧ (zr_run nx S l).toNat < 2 ^ m ∧ zb_c (zr_run nx S l).toNat.testBit m + l.length = zb_c S.testBit m)
  | [], S, hS => Or.inr ⟨Int.natCast_nonneg _, by rw [zr_run, Int.toNat_natCast]; exact hS, by rw [zr_run, Int.toNat_natCast]; rfl⟩
  | d :: l, S, hS => by
    rw [zr_run]
    rcases hN d S hS with e | ⟨e1, e2, e3, e4⟩
    · exact Or.inl (if_pos e)
    · rw [if_neg (by omega)]
      rcases zr_run_r hN l (nx d S).toNat e2 with k | ⟨k1, k2, k3⟩
      · exact Or.inl k
      · exact Or.inr ⟨k1, k2, by rw [List.length_cons]; omega⟩
theorem zr_run_app {nx : Nat → Nat → Int} {m : Nat} (hN : zr_N nx m) : ∀ (l : List Nat) (S d : Nat), S < 2 ^ m → zr_run nx S (l ++ [d]) = if zr_run nx S l = -1 then -1 else nx d (zr_run nx S l).toNat
  | [], S, d, hS => by
    show (if nx d S = -1 then -1 else (((nx d S).toNat : Nat) : Int)) = if ((S : Nat) : Int) = -1 then -1 else nx d ((S : Nat) : Int).toNat
    rw [if_neg (show ¬ ((S : Nat) : Int) = -1 by omega), Int.toNat_natCast]
    rcases hN d S hS with e | ⟨e1, _⟩
    · rw [if_pos e, e]
    · rw [if_neg (by omega), Int.toNat_of_nonneg e1]
  | e :: l, S, d, hS => by
    rw [List.cons_append, zr_run, zr_run]
    rcases hN e S hS with k | ⟨k1, k2, _⟩
    · rw [if_pos k, if_pos k, if_pos rfl]
    · have ne : ¬ nx e S = -1 := by omega
      rw [if_neg ne, if_neg ne]
      exact zr_run_app hN l (nx e S).toNat d k2
/-- the fewest sins from S -/
def zr_F1 (nx : Nat → Nat → Int) (T : Nat → Prop) (F : Nat → Int) (S : Nat) : Prop := (T S → F S = 0) ∧ (¬ T S → 1 ≤ F S ∧ F S ≤ 99 ∧ (∀ d, d < 6 → nx d S ≠ -1 → F S ≤ F (nx d S).toNat + 1) ∧ (F S < 99 → ∃ d, d < 6 ∧ nx d S ≠ -1 ∧ F S = F (nx d S).toNat + 1))
theorem zr_F1_r {nx : Nat → Nat → Int} {T : Nat → Prop} {F : Nat → Int} {S : Nat} (h : zr_F1 nx T F S) : 0 ≤ F S ∧ F S ≤ 99 := by
  by_cases q : T S
  · rw [h.1 q]
    decide
  · have := h.2 q
    omega
theorem zr_F1_cg {nx : Nat → Nat → Int} {m : Nat} (hN : zr_N nx m) {T : Nat → Prop} {F F' : Nat → Int} {S : Nat} (hS : S < 2 ^ m) (he : ∀ R, R ≤ S → F' R = F R) (h : zr_F1 nx T F S) : zr_F1 nx T F' S := by
  have en : ∀ d, nx d S ≠ -1 → F' (nx d S).toNat = F (nx d S).toNat := fun d hd => by
    rcases hN d S hS with e | ⟨_, _, _, e4⟩
    · exact absurd e hd
    · exact he _ (by omega)
  refine ⟨fun q => by rw [he S (Nat.le_refl _)]; exact h.1 q, fun q => ?_⟩
  obtain ⟨h1, h2, h3, h4⟩ := h.2 q
  rw [he S (Nat.le_refl _)]
  refine ⟨h1, h2, fun d hd hn => by rw [en d hn]; exact h3 d hd hn, fun p => ?_⟩
  obtain ⟨d, d1, d2, d3⟩ := h4 p
  exact ⟨d, d1, d2, by rw [en d d2]; exact d3⟩
def zr_lo (nx : Nat → Nat → Int) (F : Nat → Int) (S : Nat) : Int := zb_s (fun d => decide (nx d S ≠ -1 ∧ F (nx d S).toNat + 1 = F S)) 6 0
def zr_gr (nx : Nat → Nat → Int) (F : Nat → Int) : Nat → Nat → List Nat
  | 0, _ => []
  | f + 1, S => (zr_lo nx F S).toNat :: zr_gr nx F f (nx (zr_lo nx F S).toNat S).toNat
section
variable {nx : Nat → Nat → Int} {m : Nat} {T : Nat → Prop} {F : Nat → Int}
theorem zr_gr_len : ∀ (f S : Nat), (zr_gr nx F f S).length = f
  | 0, _ => rfl
  | f + 1, S => by rw [zr_gr, List.length_cons, zr_gr_len f]
/-- one step of the lowest way -/
theorem zr_lo_p (hN : zr_N nx m) (hF : ∀ S, S < 2 ^ m → zr_F1 nx T F S) {S : Nat} (hS : S < 2 ^ m) {f : Nat} (hf : F S = (f : Int) + 1) (h99 : F S < 99) : ∃ d : Nat, zr_lo nx F S = (d : Int) ∧ d < 6 ∧ nx d S ≠ -1 ∧ (nx d S).toNat < 2 ^ m ∧ F (nx d S).toNat = (f : Int) ∧ ∀ e, e < 6 → nx e S ≠ -1 → F (nx e S).toNat + 1 = F S → d ≤ e := by
  have hT : ¬ T S := fun q => by
    have := (hF S hS).1 q
    omega
  obtain ⟨h1, h2, h3, h4⟩ := (hF S hS).2 hT
  obtain ⟨d0, p1, p2, p3⟩ := h4 h99
  unfold zr_lo
  rcases zb_s_spec (fun d => decide (nx d S ≠ -1 ∧ F (nx d S).toNat + 1 = F S)) 6 0 with ⟨k1, k2⟩ | ⟨d, k1, k2, k3, k4, k5⟩
  · have := k2 d0 (by omega) (by omega)
    simp at this
    exact absurd p3.symm (this p2)
  · simp only [decide_eq_true_eq] at k4
    refine ⟨d, k3, by omega, k4.1, ?_, by omega, fun e e1 e2 e3 => ?_⟩
    · rcases hN d S hS with q | ⟨_, q, _⟩
      · exact absurd q k4.1
      · exact q
    · by_cases q : d ≤ e
      · exact q
      · have := k5 e (by omega) (by omega)
        simp at this
        exact absurd e3 (this e2)
theorem zr_gr_p (hN : zr_N nx m) (hF : ∀ S, S < 2 ^ m → zr_F1 nx T F S) : ∀ (f S : Nat), S < 2 ^ m → F S = (f : Int) → f < 99 → zr_dg (zr_gr nx F f S) ∧ ∃ R : Nat, zr_run nx S (zr_gr nx F f S) = (R : Int) ∧ T R
  | 0, S, hS, hf, _ => ⟨fun d hd => absurd hd (by simp [zr_gr]), S, rfl, by
    by_cases q : T S
    · exact q
    · have := ((hF S hS).2 q).1
      omega⟩
  | f + 1, S, hS, hf, h99 => by
    obtain ⟨d, e1, e2, e3, e4, e5, _⟩ := zr_lo_p hN hF hS (f := f) (by omega) (by omega)
    obtain ⟨i1, R, i2, i3⟩ := zr_gr_p hN hF f (nx d S).toNat e4 e5 (by omega)
    rw [zr_gr, e1, Int.toNat_natCast]
    refine ⟨fun x hx => ?_, R, ?_, i3⟩
    · rcases List.mem_cons.mp hx with h | h
      · rw [h]
        exact e2
      · exact i1 x h
    · rw [zr_run, if_neg e3]
      exact i2
/-- no way is shorter -/
theorem zr_F_le (hN : zr_N nx m) (hF : ∀ S, S < 2 ^ m → zr_F1 nx T F S) : ∀ (l : List Nat) (S R : Nat), S < 2 ^ m → zr_dg l → zr_run nx S l = (R : Int) → T R → F S ≤ l.length
  | [], S, R, hS, _, hr, hT => by
    have : S = R := by
      have h : ((S : Nat) : Int) = (R : Int) := hr
      omega
    rw [this] at hS ⊢
    rw [(hF R hS).1 hT]
    exact Int.le_refl 0
  | d :: l, S, R, hS, hd, hr, hT => by
    rw [zr_run] at hr
    by_cases q : nx d S = -1
    · rw [if_pos q] at hr
      omega
    · rw [if_neg q] at hr
      have hlt : (nx d S).toNat < 2 ^ m := by
        rcases hN d S hS with e | ⟨_, e, _⟩
        · exact absurd e q
        · exact e
      have ih := zr_F_le hN hF l (nx d S).toNat R hlt (fun x hx => hd x (List.mem_cons_of_mem _ hx)) hr hT
      have hr0 := zr_F1_r (hF S hS)
      rw [List.length_cons]
      by_cases p : T S
      · rw [(hF S hS).1 p]
        omega
      · have := ((hF S hS).2 p).2.2.1 d (hd d (List.mem_cons_self)) q
        omega
/-- and of those as short none is lower -/
theorem zr_gr_le (hN : zr_N nx m) (hF : ∀ S, S < 2 ^ m → zr_F1 nx T F S) : ∀ (f S c : Nat) (l : List Nat) (R : Nat), S < 2 ^ m → F S = (f : Int) → f < 99 → l.length = f → zr_dg l → zr_run nx S l = (R : Int) → T R → zr_ext c (zr_gr nx F f S) ≤ zr_ext c l
  | 0, S, c, l, R, hS, hf, _, hl, _, _, _ => by
    rw [List.length_eq_zero_iff.mp hl]
    exact Nat.le_refl _
  | f + 1, S, c, [], R, hS, hf, _, hl, _, _, _ => absurd hl (by simp)
  | f + 1, S, c, d' :: l, R, hS, hf, h99, hl, hd, hr, hT => by
    obtain ⟨d, e1, e2, e3, e4, e5, e6⟩ := zr_lo_p hN hF hS (f := f) (by omega) (by omega)
    have hdl : zr_dg l := fun x hx => hd x (List.mem_cons_of_mem _ hx)
    have hd' : d' < 6 := hd d' (List.mem_cons_self)
    have hl' : l.length = f := by simpa using hl
    rw [zr_run] at hr
    by_cases q : nx d' S = -1
    · rw [if_pos q] at hr
      omega
    rw [if_neg q] at hr
    have hlt : (nx d' S).toNat < 2 ^ m := by
      rcases hN d' S hS with e | ⟨_, e, _⟩
      · exact absurd e q
      · exact e
    have hle := zr_F_le hN hF l (nx d' S).toNat R hlt hdl hr hT
    have hnT : ¬ T S := fun p => by
      have := (hF S hS).1 p
      omega
    have hge := ((hF S hS).2 hnT).2.2.1 d' hd' q
    have hm := e6 d' hd' q (by omega)
    rw [zr_gr, e1, Int.toNat_natCast, zr_ext, zr_ext]
    by_cases p : d = d'
    · subst p
      exact zr_gr_le hN hF f (nx d S).toNat (6 * c + d) l R e4 e5 (by omega) hl' hdl hr hT
    · have g := zr_gr_p hN hF f (nx d S).toNat e4 e5 (by omega)
      have b1 := (zr_ext_r _ (6 * c + d) g.1).2
      have b2 := (zr_ext_r l (6 * c + d') hdl).1
      rw [zr_gr_len] at b1
      rw [hl'] at b2
      have b3 : (6 * c + d + 1) * 6 ^ f ≤ (6 * c + d') * 6 ^ f := Nat.mul_le_mul_right _ (by omega)
      omega
/-- the least way of all is the lowest of the shortest -/
theorem zr_same (hN : zr_N nx m) (hF : ∀ S, S < 2 ^ m → zr_F1 nx T F S) {S R : Nat} {l : List Nat} (hm : m ≤ 8) (hS : S < 2 ^ m) (hd : zr_dg l) (hr : zr_run nx S l = (R : Int)) (hT : T R) (hl : ∀ (l' : List Nat) (R' : Nat), zr_dg l' → zr_run nx S l' = (R' : Int) → T R' → zr_ext 1 l ≤ zr_ext 1 l') : ∃ f : Nat, F S = (f : Int) ∧ f ≤ 8 ∧ l = zr_gr nx F f S := by
  have h1 := zr_F_le hN hF l S R hS hd hr hT
  have h0 := zr_F1_r (hF S hS)
  obtain ⟨f, hf⟩ := Int.eq_ofNat_of_zero_le h0.1
  have hlen : l.length ≤ 8 := by
    rcases zr_run_r hN l S hS with k | ⟨_, _, k3⟩
    · omega
    · have := zb_c_le S.testBit m
      omega
  have g := zr_gr_p hN hF f S hS hf (by omega)
  obtain ⟨g1, R', g2, g3⟩ := g
  have le1 := hl _ R' g1 g2 g3
  have r1 := (zr_ext_r l 1 hd).1
  have r2 := (zr_ext_r _ 1 g1).2
  rw [zr_gr_len] at r2
  have len : l.length = f := by
    by_cases q : l.length ≤ f
    · omega
    · have : 6 ^ (f + 1) ≤ 6 ^ l.length := Nat.pow_le_pow_right (by decide) (by omega)
      rw [Nat.pow_succ] at this
      omega
  have le2 := zr_gr_le hN hF f S 1 l R hS hf (by omega) len hd hr hT
  exact ⟨f, hf, by omega, (zr_ext_inj l (zr_gr nx F f S) 1 1 hd g1 (by rw [zr_gr_len]; exact len) (by omega)).2⟩
end
