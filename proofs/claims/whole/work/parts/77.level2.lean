/-! level on the class's side *-/
def zg_A (μ : zk_M) (m : Nat) (x own : Nat → Int) (g : Nat → Nat) : Prop := m ≤ 12 ∧ μ 46 1 = (m : Int) ∧ ∀ i : Nat, i < m → μ 47 i = (g i : Int) ∧ μ 48 i = own i ∧ μ 49 i = x i
def zg_R (m : Nat) (x own : Nat → Int) (g : Nat → Nat) (e : Nat) : Prop := ∀ i, i < m → g i < 30 ∧ 0 ≤ own i ∧ own i < (e : Int) ∧ 0 ≤ x i ∧ x i ≤ 99
def zg_B (bw bn : Int → Int) : Prop := ∀ o : Int, 0 ≤ o → o < 6 → (0 ≤ bw o ∧ bw o ≤ 2970) ∧ 0 ≤ bn o ∧ bn o ≤ 8
def zg_st (μ : zk_M) (bw bn : Int → Int) (x own : Nat → Int) (f : Nat → Bool) (m : Nat) : Prop := ∀ o : Int, 0 ≤ o → o < 6 → μ 50 o = zg_f bw x own f m o ∧ μ 51 o = zg_f bn (fun _ => 1) own f m o
def zg_P (bw bn : Int → Int) (x own : Nat → Int) (m e : Nat) (bd : Int) (s : Nat) : Prop := zg_lv (zg_f bw x own s.testBit m) (zg_f bn (fun _ => 1) own s.testBit m) e bd
theorem zg_st_up {ν : zk_M} {bw bn : Int → Int} {x own : Nat → Int} {f f' : Nat → Bool} {m i : Nat} (hi : i < m) (hst : zg_st ν bw bn x own f m) (hd : ∀ j, j ≠ i → f' j = f j) {v w : Int} (hv : v = zg_f bw x own f' m (own i)) (hw : w = zg_f bn (fun _ => 1) own f' m (own i)) : zg_st (zk_set (zk_set ν 50 (own i) v) 51 (own i) w) bw bn x own f' m := fun o o0 o6 => by
  by_cases q : o = own i
  · subst q
    rw [zk_set_o (by decide), zk_set_s, zk_set_s]
    exact ⟨hv, hw⟩
  · have q' : ¬ own i = o := fun e => q e.symm
    rw [zk_set_o (c := 50) (by decide), zk_set_n q, zk_set_n q, zk_set_o (by decide), (hst o o0 o6).1, (hst o o0 o6).2]
    rw [zg_f_upd hd hi o, zg_f_upd hd hi o, if_neg (fun p => q' p.2), if_neg (fun p => q' p.2), if_neg (fun p => q' p.2), if_neg (fun p => q' p.2)]
    omega
theorem zg_pop {s : Nat} (hs : s < 4096) : zb_c s.testBit 30 ≤ 12 := by
  rw [zb_c_ext (f := s.testBit) (n := 12) 30 (by decide) (fun j hj => Nat.testBit_lt_two_pow (Nat.lt_of_lt_of_le hs (Nat.pow_le_pow_right (n := 2) (i := 12) (by decide) hj)))]
  exact zb_c_le _ _
section
variable {μ : zk_M} {BV : zk_M → Prop} {B : Int → zk_M → Prop} {σ : za_S} {sis : Int} {m e : Nat} {x own : Nat → Int} {g : Nat → Nat} {bw bn : Int → Int}
theorem sp_turn {s : Nat} (hs : s < 4096) (he : e ≤ 6) (hA : zg_A μ m x own g) (hR : zg_R m x own g e) (hb : zg_B bw bn) (hst : zg_st μ bw bn x own (s - 1).testBit m) (hB : ∀ μ', zq [50, 51] μ μ' → zg_st μ' bw bn x own s.testBit m → BV μ') : zk_C 22 [.inr (.inr (.inl 46)), .inl (s : Int)] μ (zk_RV BV) := by
  have hT : s ^^^ (s - 1) < 4096 := Nat.xor_lt_two_pow (n := 12) hs (by omega)
  have hm12 := hA.1
  have lp : ∀ i, i ≤ m → (∀ ν, zq [50, 51] μ ν → zg_st ν bw bn x own (fun j => if j < i then s.testBit j else (s - 1).testBit j) m → zk_K 22 16 [.inr (.inr (.inl 46)), .inl (s : Int), .inl ((s ^^^ (s - 1) : Nat) : Int), .inl (i : Int), .inr (.inr (.inr 0)), .inr (.inr (.inr 0))] [] ν (zk_RV BV)) := by
    refine zl_up (fun ν z g1 => t_Lev_turn_16 ⟨fun _ => hB ν z (fun o o0 o6 => ?_), fun q => absurd (by rw [z 46 (by decide), hA.2.1]; exact Int.le_refl _) q⟩) (fun i hi ih ν z g1 => ?_)
    · have := g1 o o0 o6
      rw [this.1, this.2]
      exact ⟨zg_f_cg (fun j hj => if_pos hj) o, zg_f_cg (fun j hj => if_pos hj) o⟩
    · obtain ⟨a1, a2, a3⟩ := hA.2.2 i hi
      obtain ⟨r0, r1, r2, r3, r4⟩ := hR i hi
      have e46 : ν 46 1 = (m : Int) := by rw [z 46 (by decide)]; exact hA.2.1
      have e48 : ν 48 i = own i := by rw [z 48 (by decide)]; exact a2
      have e49 : ν 49 i = x i := by rw [z 49 (by decide)]; exact a3
      have b0 := hb (own i) r1 (by omega)
      have g0 := g1 (own i) r1 (by omega)
      have d1 := zg_f_r (b := bw) (x := x) (own := own) (f := fun j => if j < i then s.testBit j else (s - 1).testBit j) (m := m) (K := 99) (by decide) b0.1 (fun k hk => (hR k hk).2.2.2)
      have d2 := zg_f_r (b := bn) (x := fun _ => 1) (own := own) (f := fun j => if j < i then s.testBit j else (s - 1).testBit j) (m := m) (K := 1) (by decide) b0.2 (fun k hk => by decide)
      have hd : ∀ j, j ≠ i → (fun j => if j < i + 1 then s.testBit j else (s - 1).testBit j) j = (fun j => if j < i then s.testBit j else (s - 1).testBit j) j := fun j hj => by
        by_cases q : j < i
        · simp only [if_pos q, if_pos (show j < i + 1 by omega)]
        · simp only [if_neg q, if_neg (show ¬ j < i + 1 by omega)]
      have f0 : (if i < i then s.testBit i else (s - 1).testBit i) = (s - 1).testBit i := if_neg (by omega)
      have f1 : (if i < i + 1 then s.testBit i else (s - 1).testBit i) = s.testBit i := if_pos (by omega)
      have u1 := zg_f_upd (b := bw) (x := x) (own := own) hd hi (own i)
      have u2 := zg_f_upd (b := bn) (x := fun _ => 1) (own := own) hd hi (own i)
      rw [f0, f1] at u1 u2
      generalize (fun j => if j < i + 1 then s.testBit j else (s - 1).testBit j) = F1 at *
      have hx : ∀ (j : Nat), i ≤ j → (fun j => if j < i then s.testBit j else (s - 1).testBit j) j = (s - 1).testBit j := fun j hj => if_neg (by omega)
      have hy : ∀ (j : Nat), j < i → (fun j => if j < i then s.testBit j else (s - 1).testBit j) j = s.testBit j := fun j hj => if_pos hj
      generalize (fun j => if j < i then s.testBit j else (s - 1).testBit j) = F0 at *
      refine t_Lev_turn_16 ⟨fun q => by omega, fun _ => ⟨fun q => by omega, fun _ => ?_⟩⟩
      rw [zb_shr (a := s ^^^ (s - 1)) (by omega) (by omega), zb_has (a := s) (by omega) (by omega), e48, e49, g0.1]
      refine ⟨fun q => hB ν z (fun o o0 o6 => ?_), fun q => ⟨by omega, fun q2 => by omega, fun _ => ⟨fun q2 => by omega, fun _ => ?_⟩⟩⟩
      · have q' : (s ^^^ (s - 1)) / 2 ^ i = 0 := by omega
        have cg : ∀ j, j < m → s.testBit j = F0 j := fun j hj => by
          by_cases w : j < i
          · exact (hy j w).symm
          · rw [hx j (by omega)]
            exact zg_same q' (by omega)
        rw [(g1 o o0 o6).1, (g1 o o0 o6).2]
        exact ⟨(zg_f_cg cg o).symm, (zg_f_cg cg o).symm⟩
      · have q' : (s ^^^ (s - 1)) / 2 ^ i ≠ 0 := by omega
        have hs0 : s ≠ 0 := fun e => by
          rw [e] at q'
          exact q' (by rw [show (0 ^^^ (0 - 1) : Nat) = 0 from rfl]; exact Nat.zero_div _)
        have df := zg_dif i s hs0 q'
        cases hb1 : s.testBit i
        · have hb0 : (s - 1).testBit i = true := by
            rw [hb1] at df
            cases w : (s - 1).testBit i
            · exact absurd w.symm df
            · rfl
          rw [hb1, hb0] at u1 u2
          simp only [Bool.false_eq_true, false_and, if_false, true_and, if_true] at u1 u2
          refine ⟨fun _ => ⟨by omega, fun _ => ⟨by omega, by omega, t_Lev_turn_101 ⟨by omega, by omega, by omega, fun _ => ⟨by omega, by omega, by omega, ih _ ((z.set (by decide) _ _).set (by decide) _ _) (zg_st_up hi g1 hd (by omega) (by omega))⟩, fun q => absurd rfl q⟩⟩, fun q => absurd rfl q⟩, fun q => absurd q (by decide)⟩
        · have hb0 : (s - 1).testBit i = false := by
            rw [hb1] at df
            cases w : (s - 1).testBit i
            · rfl
            · exact absurd w.symm df
          rw [hb1, hb0] at u1 u2
          simp only [Bool.false_eq_true, false_and, if_false, true_and, if_true] at u1 u2
          refine ⟨fun q => absurd rfl q, fun _ => ⟨by omega, fun q => absurd q (by decide), fun _ => ⟨by omega, t_Lev_turn_101 ⟨by omega, by omega, by omega, fun q => absurd q (by decide), fun _ => ⟨by omega, by omega, by omega, ih _ ((z.set (by decide) _ _).set (by decide) _ _) (zg_st_up hi g1 hd (by omega) (by omega))⟩⟩⟩⟩⟩
  have l0 := lp 0 (Nat.zero_le _) μ (zq.rf _ _) (fun o o0 o6 => by
    rw [(hst o o0 o6).1, (hst o o0 o6).2]
    exact ⟨zg_f_cg (fun j _ => (if_neg (by omega)).symm) o, zg_f_cg (fun j _ => (if_neg (by omega)).symm) o⟩)
  refine c_Lev_turn ⟨fun q => ⟨by omega, ?_⟩, fun q => ?_⟩
  · have e1 : zk_xor (s : Int) ((s : Int) - 1) = ((s ^^^ (s - 1) : Nat) : Int) := by
      rw [show (s : Int) - 1 = ((s - 1 : Nat) : Int) by omega, zb_xor (by omega) (by omega)]
    rw [e1]
    exact l0
  · have : s = 0 := by omega
    subst this
    exact l0
theorem sp_isLevel {W N : Int → Int} {bd : Int} (he : e ≤ 6) (hbd : 0 ≤ bd) (hW : ∀ o : Nat, 0 ≤ W o ∧ W o ≤ 10000) (h50 : ∀ o : Nat, o < 6 → μ 50 o = W o ∧ μ 51 o = N o) (hy : zg_lv W N e bd → B 1 μ) (hn : ¬ zg_lv W N e bd → B 0 μ) : zk_C 23 [.inr (.inr (.inl 46)), .inl (e : Int), .inl bd] μ (zk_RI B) := by
  have lp : ∀ n, n ≤ e → ((∀ o : Nat, o < n → N o ≤ 8) → (n ≠ 0 → zs_hi (fun n => W n) (n - 1) - zs_lo (fun n => W n) (n - 1) ≤ bd) → zk_K 23 13 [.inr (.inr (.inl 46)), .inl (e : Int), .inl bd, .inl (zs_lo (fun n => W n) (n - 1)), .inl (zs_hi (fun n => W n) (n - 1)), .inl (n : Int)] [] μ (zk_RI B)) := by
    refine zl_up (fun h1 h2 => t_Lev_isLevel_13 ⟨fun _ => hy ⟨h1, ?_⟩, fun q => absurd (Int.le_refl _) q⟩) (fun n hn' ih h1 h2 => ?_)
    · unfold zs_sp
      split
      · exact hbd
      · rename_i q
        exact h2 q
    · obtain ⟨w1, w2⟩ := h50 n (by omega)
      rw [Nat.add_sub_cancel] at ih
      have el : min (zs_lo (fun n => W n) (n - 1)) (W n) = zs_lo (fun n => W n) n := by
        cases n with
        | zero => simp [zs_lo]
        | succ k => rfl
      have eh : max (zs_hi (fun n => W n) (n - 1)) (W n) = zs_hi (fun n => W n) n := by
        cases n with
        | zero => simp [zs_hi]
        | succ k => rfl
      have lh := zs_lh (f := fun n => W n) hW n
      refine t_Lev_isLevel_13 ⟨fun q => by omega, fun _ => ⟨fun q => by omega, fun _ => ⟨by omega, by omega, by omega, ?_⟩⟩⟩
      rw [w1, w2, el, eh]
      refine ⟨fun q => hn (fun p => by have := p.1 n hn'; omega), fun q8 => ⟨by omega, fun q => ⟨by omega, ih (fun o ho => ?_) (fun _ => q)⟩, fun q => hn (fun p => ?_)⟩⟩
      · by_cases w : o = n
        · rw [w]
          omega
        · exact h1 o (by omega)
      · have p2 := p.2
        unfold zs_sp at p2
        rw [if_neg (by omega)] at p2
        have := zs_lo_mono (f := fun n => W n) (n := n) (e - 1) (by omega)
        have := zs_hi_mono (f := fun n => W n) (n := n) (e - 1) (by omega)
        omega
  have l0 := lp 0 (Nat.zero_le _) (fun o ho => by omega) (fun q => absurd rfl q)
  have w0 := (h50 0 (by decide)).1
  rw [show ((0 : Nat) : Int) = (0 : Int) from rfl] at w0
  refine c_Lev_isLevel ?_
  rw [w0]
  exact l0
theorem sp_bitsOf {s : Nat} (hs : s < 4096) (hA : zg_A μ m x own g) (hR : zg_R m x own g e) (h : B (zg_mk s g m : Nat) μ) : zk_C 24 [.inr (.inr (.inl 46)), .inl (s : Int)] μ (zk_RI B) := by
  have hm12 := hA.1
  have h46 := hA.2.1
  have lp : ∀ n, n ≤ m → zk_K 24 4 [.inr (.inr (.inl 46)), .inl (s : Int), .inl (zg_mk s g n : Nat), .inl (n : Int)] [] μ (zk_RI B) := by
    refine zl_up (t_Lev_bitsOf_4 ⟨fun _ => h, fun q => absurd (by rw [h46]; exact Int.le_refl _) q⟩) (fun n hn ih => t_Lev_bitsOf_4 ⟨fun q => by omega, fun _ => ⟨fun q => by omega, fun _ => ?_⟩⟩)
    have hl := zg_mk_lt (s := s) (g := g) n (fun i hi => (hR i (by omega)).1)
    have hg := (hR n hn).1
    have hp : 2 ^ g n < 2 ^ 30 := Nat.pow_lt_pow_right (by omega) hg
    rw [zb_has (a := s) (by omega) (by omega), (hA.2.2 n hn).1]
    rw [zg_mk] at ih
    cases hb : s.testBit n
    · rw [hb] at ih
      exact ⟨fun _ => ⟨by omega, ih⟩, fun q => absurd q (by decide)⟩
    · rw [hb] at ih
      refine ⟨fun q => absurd rfl q, fun _ => ⟨by omega, by omega, ?_⟩⟩
      rw [zb_one (by omega), zb_or (by omega) (by omega)]
      exact ih
  exact c_Lev_bitsOf (lp 0 (Nat.zero_le _))
theorem sp_search {bd r : Int} (he : e ≤ 6) (hbd : 0 ≤ bd) (hA : zg_A μ m x own g) (hR : zg_R m x own g e) (hb : zg_B bw bn) (hW : ∀ (s : Nat) (o : Nat), 0 ≤ zg_f bw x own s.testBit m o ∧ zg_f bw x own s.testBit m o ≤ 10000) (hst : zg_st μ bw bn x own (Nat.testBit 0) m) (hr : zg_s (zg_P bw bn x own m e bd) (2 ^ m) 0 (-1) r) (hB : ∀ μ', zq [46, 50, 51] μ μ' → (r ≠ -1 → μ' 46 0 = (zg_mk r.toNat g m : Nat)) → (r = -1 ∨ 0 ≤ r ∧ r < (2 ^ m : Nat)) → B (if r = -1 then 0 else 1) μ') : zk_C 21 [.inr (.inr (.inl 46)), .inl (e : Int), .inl bd] μ (zk_RI B) := by
  have hm12 := hA.1
  have hp : 2 ^ m ≤ 4096 := Nat.pow_le_pow_right (n := 2) (by decide) hm12
  have lp : ∀ n, n ≤ 2 ^ m → (∀ (b : Int) (ν : zk_M), zq [46, 50, 51] μ ν → ν 46 1 = (m : Int) → zg_st ν bw bn x own (n - 1).testBit m → (b = -1 ∨ 0 ≤ b ∧ b < (2 ^ m : Nat)) → (b ≠ -1 → ν 46 0 = (zg_mk b.toNat g m : Nat)) → zg_s (zg_P bw bn x own m e bd) (2 ^ m - n) n b r → zk_K 21 6 [.inr (.inr (.inl 46)), .inl (e : Int), .inl bd, .inl (if b = -1 then 13 else (zb_c b.toNat.testBit 30 : Nat)), .inl (n : Int)] [] ν (zk_RI B)) := by
    refine zl_up (fun b ν z h1 g1 hb1 hf k => ?_) (fun n hn ih b ν z h1 g1 hb1 hf k => ?_)
    · rw [Nat.sub_self] at k
      have kb : r = b := k
      subst kb
      refine t_Lev_search_6 ⟨fun _ => ?_, fun q => absurd (by rw [h1, zb_one (by omega)]; exact Int.le_refl _) q⟩
      have b1 := hB ν z hf hb1
      by_cases w : r = -1
      · rw [if_pos w] at b1 ⊢
        exact ⟨fun _ => b1, fun q => absurd (by decide) q⟩
      · rw [if_neg w] at b1 ⊢
        have := zg_pop (s := r.toNat) (by omega)
        exact ⟨fun q => by omega, fun _ => b1⟩
    · have pn := zg_pop (s := n) (by omega)
      have hcond : (b = -1 ∨ zb_c n.testBit 30 < zb_c b.toNat.testBit 30) ↔ ¬ ((if b = -1 then 13 else ((zb_c b.toNat.testBit 30 : Nat) : Int)) ≤ (zb_c n.testBit 30 : Nat)) := by
        by_cases w : b = -1
        · rw [if_pos w]
          exact ⟨fun _ => by omega, fun _ => Or.inl w⟩
        · rw [if_neg w]
          exact ⟨fun p => by rcases p with p | p <;> omega, fun p => Or.inr (by omega)⟩
      have hA' : zg_A ν m x own g := ⟨hm12, h1, fun i hi => by rw [z 47 (by decide), z 48 (by decide), z 49 (by decide)]; exact hA.2.2 i hi⟩
      refine t_Lev_search_6 ⟨fun q => by rw [h1, zb_one (by omega)] at q; omega, fun _ => sp_turn (by omega) he hA' hR hb g1 (fun ν1 z1 g2 => sp_bitCount (by omega) ⟨fun q => ⟨by omega, ?_⟩, fun q => ?_⟩)⟩
      · refine ih b ν1 (z.tr (z1.up (by decide))) (by rw [z1 46 (by decide)]; exact h1) (by rw [Nat.add_sub_cancel]; exact g2) hb1 (by rw [z1 46 (by decide)]; exact hf) (zg_s_n k hn (fun p => absurd q (hcond.mp p.1)))
      · refine sp_isLevel (W := zg_f bw x own n.testBit m) (N := zg_f bn (fun _ => 1) own n.testBit m) he hbd (hW n) (fun o ho => g2 o (by omega) (by omega)) (fun p => ⟨fun q => absurd q (by decide), fun _ => sp_bitCount (by omega) (sp_bitsOf (by omega) ⟨hm12, by rw [z1 46 (by decide)]; exact h1, fun i hi => by rw [z1 47 (by decide), z1 48 (by decide), z1 49 (by decide)]; exact hA'.2.2 i hi⟩ hR ⟨by omega, ?_⟩)⟩) (fun p => ⟨fun _ => ⟨by omega, ?_⟩, fun q => absurd rfl q⟩)
        · have i0 := ih (n : Int) (zk_set ν1 46 0 (zg_mk n g m : Nat)) ((z.tr (z1.up (by decide))).set (by decide) _ _) (by rw [zk_set_n (by decide), z1 46 (by decide)]; exact h1) (by rw [Nat.add_sub_cancel]; intro o o0 o6; rw [zk_set_o (by decide), zk_set_o (by decide)]; exact g2 o o0 o6) (Or.inr ⟨by omega, by omega⟩) (fun _ => by rw [zk_set_s, Int.toNat_natCast]) (zg_s_y k hn ⟨hcond.mpr q, p⟩)
          rw [if_neg (by omega), Int.toNat_natCast] at i0
          exact i0
        · exact ih b ν1 (z.tr (z1.up (by decide))) (by rw [z1 46 (by decide)]; exact h1) (by rw [Nat.add_sub_cancel]; exact g2) hb1 (by rw [z1 46 (by decide)]; exact hf) (zg_s_n k hn (fun w => p w.2))
  exact c_Lev_search (lp 0 (Nat.zero_le _) (-1) μ (zq.rf _ _) hA.2.1 hst (Or.inl rfl) (fun q => absurd rfl q) hr)
end
