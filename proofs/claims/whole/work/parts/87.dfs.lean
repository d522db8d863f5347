/-! done on the reference's side *-/
def zi_ld : List Nat := [66, 67, 68, 79, 80]
def zn_sf (f : Nat → Nat) : Nat → Nat → Nat
  | 0, _ => 0
  | m + 1, d => f d + zn_sf f m (d + 1)
theorem zn_sf_6 (f : Nat → Nat) : zn_sf f 6 0 = zn_sum f 6 := by
  show f 0 + (f 1 + (f 2 + (f 3 + (f 4 + (f 5 + 0))))) = 0 + f 0 + f 1 + f 2 + f 3 + f 4 + f 5
  omega
theorem zn_sf_st {f : Nat → Nat} {d : Nat} (h : d < 6) : zn_sf f (6 - d) d = f d + zn_sf f (6 - (d + 1)) (d + 1) := by
  rw [show 6 - d = (6 - (d + 1)) + 1 by omega, zn_sf]
def zn_np (p : Nat → Nat) (q : Nat) : Nat → Bool
  | 0 => true
  | k + 1 => zn_np p q k && decide (p k ≠ q)
theorem zn_np_cg {p p' : Nat → Nat} {q : Nat} : ∀ k, (∀ i, i < k → p' i = p i) → zn_np p' q k = zn_np p q k
  | 0, _ => rfl
  | k + 1, h => by rw [zn_np, zn_np, zn_np_cg k (fun i hi => h i (by omega)), h k (by omega)]
theorem zn_np_6 {p : Nat → Nat} : ∀ k, (∀ i, i < k → p i < 6) → zn_np p 6 k = true
  | 0, _ => rfl
  | k + 1, h => by
    have := h k (by omega)
    rw [zn_np, zn_np_6 k (fun i hi => h i (by omega))]
    simp
    omega
def zn_m (p : Nat → Nat) : Nat → Nat
  | 0 => 0
  | j + 1 => zn_m p j ||| 2 ^ p j
theorem zn_m_bit (p : Nat → Nat) (b : Nat) : ∀ j, (zn_m p j).testBit b = !zn_np p b j
  | 0 => by simp [zn_m, zn_np]
  | j + 1 => by
    rw [zn_m, zn_np, Nat.testBit_or, zn_m_bit p b j, Nat.testBit_two_pow]
    cases zn_np p b j <;> by_cases q : p j = b <;> simp [q]
theorem zn_m_lt (p : Nat → Nat) : ∀ j, (∀ i, i < j → p i < 6) → zn_m p j < 64
  | 0, _ => (by decide : 0 < 64)
  | j + 1, h => by
    have := zn_m_lt p j (fun i hi => h i (by omega))
    have h2 : 2 ^ p j < 2 ^ 6 := Nat.pow_lt_pow_right (by decide) (h j (by omega))
    rw [zn_m]
    exact Nat.or_lt_two_pow (n := 6) (by omega) h2
section
variable {μ : zk_M} {BV : zk_M → Prop} {B : Int → zk_M → Prop} {σ : za_S} {sis s : Int} {Lw Lg : Option (List (Int × Int))}
/-- a sin of the reference's set -/
theorem sp_take {S d : Nat} (hk : za_ok σ sis) (hs : sis ≤ 6) (h : za_M (μ 61) σ) (hG : zvM μ (μ 61 4) 1 (1, 0) Lg) (hd : d < 6) (h0 : zn_nx (zn_gs Lg σ s d) (za_n σ s) S = -1 → ∀ μ', zq zi_lm μ μ' → B (-1) μ') (h1 : ∀ S' : Nat, zn_nx (zn_gs Lg σ s d) (za_n σ s) S = (S' : Int) → ∀ r : Nat, zk_and ((zn_ph σ s S : Nat) : Int) (zk_xor (zk_shl 1 (r : Int)) (-1)) = ((zn_ph σ s S' : Nat) : Int) → ∀ μ', zq zi_lm μ μ' → B (r : Int) μ') : zk_C 204 [.inr (.inr (.inl 60)), .inl ((zn_ph σ s S : Nat) : Int), .inl (d : Int)] μ (zk_RI B) := by
  have c30 := hk.1.1
  have hl := zn_ph_lt (σ := σ) (s := s) S c30
  refine sp_taken (L := Lg) hk hs h (by omega) (by omega) hG (fun μ' z => ?_)
  rw [zn_tk Lg S (d : Int)]
  unfold zn_nx at h0 h1
  rcases zn_t_p (zn_gs Lg σ s d) (za_n σ s) S with ⟨k1, k2⟩ | ⟨i, k1, k2, k3, k4, k5⟩
  · have e : zn_t (fun i => zv_g Lg σ (d : Int) (zn_v σ s i)) (za_n σ s) S = -1 := k1
    rw [if_pos e]
    rw [if_pos k1] at h0
    exact h0 rfl μ' z
  · have e : zn_t (fun i => zv_g Lg σ (d : Int) (zn_v σ s i)) (za_n σ s) S = (i : Int) := k2
    rw [e, if_neg (by omega), Int.toNat_natCast]
    rw [k2, if_neg (by omega), Int.toNat_natCast] at h1
    have p := zn_v_p k1
    refine h1 (S ^^^ 2 ^ i) rfl (zn_v σ s i) ?_ μ' z
    rw [zb_clr hl (by omega) (zn_ph_t.mpr ⟨p.1, p.2.1, by rw [p.2.2]; exact k3⟩), zn_ph_clr k1 k3]
theorem sp_wM {x : Int} {S : Nat} (hk : za_ok σ sis) (hs : sis ≤ 6) (h : za_M (μ 61) σ) (hL : zvM μ x 0 (0, 1) Lw) (hB : ∀ μ', zq zi_lm μ μ' → B (zn_S (zn_w Lw σ s) (za_n σ s) S) μ') : zk_C 202 [.inr (.inr (.inl 60)), .inl x, .inl ((zn_ph σ s S : Nat) : Int)] μ (zk_RI B) := by
  have hl := zn_ph_lt (σ := σ) (s := s) S hk.1.1
  refine sp_weightOf (L := Lw) hk hs h (by omega) hL (fun μ' z => ?_)
  rw [zn_wt]
  exact hB μ' z
/-- the leaf's row of sins as bits -/
theorem sp_mask {wt x4 R k : Int} {a n : Nat} {p : Nat → Nat} (ha : a < 64) (hn : n ≤ 4) (hp : ∀ i : Nat, i < n → μ 79 i = (p i : Int) ∧ p i < 6) (h : zk_K 232 93 [.inr (.inr (.inl 60)), .inr (.inr (.inr 0)), .inl wt, .inl (n : Int), .inl x4, .inl R, .inl ((a &&& zn_m p n : Nat) : Int), .inl k, .inr (.inr (.inr 0)), .inr (.inr (.inr 0)), .inr (.inr (.inr 0))] [] μ (zk_RI B)) : zk_K 232 229 [.inr (.inr (.inl 60)), .inr (.inr (.inr 0)), .inl wt, .inl (n : Int), .inl x4, .inl R, .inl (a : Int), .inl k, .inr (.inr (.inr 0)), .inl 0, .inl 0] [] μ (zk_RI B) := by
  have lp : ∀ j, j ≤ n → zk_K 232 229 [.inr (.inr (.inl 60)), .inr (.inr (.inr 0)), .inl wt, .inl (n : Int), .inl x4, .inl R, .inl (a : Int), .inl k, .inr (.inr (.inr 0)), .inl ((zn_m p j : Nat) : Int), .inl (j : Int)] [] μ (zk_RI B) := by
    have hm := fun j (hj : j ≤ n) => zn_m_lt p j (fun i hi => (hp i (by omega)).2)
    refine zl_up (t_Mod_done_229 ⟨fun _ => ?_, fun q => absurd (Int.le_refl _) q⟩) (fun j hj ih => t_Mod_done_229 ⟨fun q => by omega, fun _ => ⟨by omega, by omega, ?_⟩⟩)
    · have := hm n (Nat.le_refl _)
      rw [zb_and (by omega) (by omega)]
      exact h
    · have := hm j (by omega)
      have h2 : 2 ^ p j < 2 ^ 6 := Nat.pow_lt_pow_right (by decide) (hp j hj).2
      have := (hp j hj).2
      rw [(hp j hj).1, zb_one (by omega), zb_or (by omega) (by omega)]
      exact ih
  exact lp 0 (Nat.zero_le _)
theorem sp_dfs {wt x4 : Int} {n : Nat} (hk : za_ok σ sis) (hs : sis ≤ 6) (h : za_M (μ 61) σ) (hL : zvM μ (μ 61 4) 0 (0, 1) Lw) (hG : zvM μ (μ 61 4) 1 (1, 0) Lg) (hn : n ≤ 4) : ∀ (r k : Nat), k + r + 1 = n → ∀ (S : Nat) (p : Nat → Nat), S < 2 ^ za_n σ s → ∀ d : Nat, d ≤ 6 → ∀ (N : Nat → Nat) (ν : zk_M), zq zi_ld μ ν → ν 80 k = ((zn_ph σ s S : Nat) : Int) → ν 79 k = (d : Int) - 1 → (∀ i : Nat, i < k → ν 79 i = (p i : Int) ∧ p i < 6) → N 6 + zn_sf (fun d => if d ≠ 6 ∧ zn_nx (zn_gs Lg σ s d) (za_n σ s) S ≠ -1 then zn_c (fun d S => zn_nx (zn_gs Lg σ s d) (za_n σ s) S) (fun S => zn_S (zn_w Lw σ s) (za_n σ s) S == wt) 6 r (zn_nx (zn_gs Lg σ s d) (za_n σ s) S).toNat else 0) (6 - d) d ≤ 1000000 → (∀ (N' : Nat → Nat) (ν' : zk_M), zq zi_ld ν ν' → (∀ i : Nat, i < k → ν' 79 i = ν 79 i ∧ ν' 80 i = ν 80 i) → (∀ q, q ≤ 6 → N' q = N q + (if zn_np p q k then zn_sf (fun d => if d ≠ q ∧ zn_nx (zn_gs Lg σ s d) (za_n σ s) S ≠ -1 then zn_c (fun d S => zn_nx (zn_gs Lg σ s d) (za_n σ s) S) (fun S => zn_S (zn_w Lw σ s) (za_n σ s) S == wt) q r (zn_nx (zn_gs Lg σ s d) (za_n σ s) S).toNat else 0) (6 - d) d else 0)) → zk_K 232 93 [.inr (.inr (.inl 60)), .inr (.inr (.inr 0)), .inl wt, .inl (n : Int), .inl x4, .inl (N' 6 : Int), .inl (zn_all N' : Int), .inl ((k : Int) + -1), .inr (.inr (.inr 0)), .inr (.inr (.inr 0)), .inr (.inr (.inr 0))] [] ν' (zk_RI B)) → zk_K 232 93 [.inr (.inr (.inl 60)), .inr (.inr (.inr 0)), .inl wt, .inl (n : Int), .inl x4, .inl (N 6 : Int), .inl (zn_all N : Int), .inl (k : Int), .inr (.inr (.inr 0)), .inr (.inr (.inr 0)), .inr (.inr (.inr 0))] [] ν (zk_RI B) := by
  have c30 := hk.1.1
  generalize hnx : (fun d S => zn_nx (zn_gs Lg σ s d) (za_n σ s) S) = nx
  generalize hV : (fun S => zn_S (zn_w Lw σ s) (za_n σ s) S == wt) = V
  have enx : ∀ d S, zn_nx (zn_gs Lg σ s d) (za_n σ s) S = nx d S := fun d S => by rw [← hnx]
  have eV : ∀ S, V S = (zn_S (zn_w Lw σ s) (za_n σ s) S == wt) := fun S => by rw [← hV]
  have rnx : ∀ {d S S' : Nat}, S < 2 ^ za_n σ s → nx d S = (S' : Int) → S' < 2 ^ za_n σ s := fun {d S S'} hS e => by
    rcases zn_nx_r (gs := zn_gs Lg σ s d) hS with q | ⟨q1, q2, _⟩
    · rw [enx, e] at q
      omega
    · rw [enx, e, Int.toNat_natCast] at q2
      exact q2
  simp only [enx]
  intro r
  induction r with
  | zero =>
    intro k hkr S p hS
    refine zl_up (P := fun d => ∀ (N : Nat → Nat) (ν : zk_M), zq zi_ld μ ν → ν 80 k = ((zn_ph σ s S : Nat) : Int) → ν 79 k = (d : Int) - 1 → (∀ i : Nat, i < k → ν 79 i = (p i : Int) ∧ p i < 6) → N 6 + zn_sf (fun d => if d ≠ 6 ∧ nx d S ≠ -1 then zn_c nx V 6 0 (nx d S).toNat else 0) (6 - d) d ≤ 1000000 → (∀ (N' : Nat → Nat) (ν' : zk_M), zq zi_ld ν ν' → (∀ i : Nat, i < k → ν' 79 i = ν 79 i ∧ ν' 80 i = ν 80 i) → (∀ q, q ≤ 6 → N' q = N q + (if zn_np p q k then zn_sf (fun d => if d ≠ q ∧ nx d S ≠ -1 then zn_c nx V q 0 (nx d S).toNat else 0) (6 - d) d else 0)) → zk_K 232 93 [.inr (.inr (.inl 60)), .inr (.inr (.inr 0)), .inl wt, .inl (n : Int), .inl x4, .inl (N' 6 : Int), .inl (zn_all N' : Int), .inl ((k : Int) + -1), .inr (.inr (.inr 0)), .inr (.inr (.inr 0)), .inr (.inr (.inr 0))] [] ν' (zk_RI B)) → zk_K 232 93 [.inr (.inr (.inl 60)), .inr (.inr (.inr 0)), .inl wt, .inl (n : Int), .inl x4, .inl (N 6 : Int), .inl (zn_all N : Int), .inl (k : Int), .inr (.inr (.inr 0)), .inr (.inr (.inr 0)), .inr (.inr (.inr 0))] [] ν (zk_RI B)) (fun N ν z k80 k79 kp hN cont => ?_) (fun d hd ih N ν z k80 k79 kp hN cont => ?_)
    · refine t_Mod_done_93 ⟨fun q => by omega, fun _ => ?_⟩
      rw [k79, zk_set_s]
      refine ⟨by omega, by omega, by omega, by omega, fun q => absurd (by decide) q, fun _ => ⟨by omega, cont N _ ((zq.rf _ _).set (by decide) _ _) (fun i hi => ⟨zk_set_n (by omega), by rw [zk_set_o (by decide)]⟩) (fun q hq => ?_)⟩⟩
      rw [show zn_sf (fun d => if d ≠ q ∧ nx d S ≠ -1 then zn_c nx V q 0 (nx d S).toNat else 0) (6 - 6) 6 = 0 from rfl]
      split <;> rfl
    · refine t_Mod_done_93 ⟨fun q => by omega, fun _ => ?_⟩
      rw [k79, zk_set_s, show (d : Int) - 1 + 1 = (d : Int) by omega, k80]
      have z1 : zq zi_ld ν (zk_set ν 79 (k : Int) (d : Int)) := (zq.rf _ _).set (by decide) _ _
      have k1 : zk_set ν 79 (k : Int) (d : Int) 79 k = (d : Int) := zk_set_s _ _ _ _
      have k2 : ∀ i : Nat, i < k → zk_set ν 79 (k : Int) (d : Int) 79 i = ν 79 i := fun i hi => zk_set_n (by omega)
      have k3 : zk_set ν 79 (k : Int) (d : Int) 80 = ν 80 := zk_set_o (by decide)
      generalize zk_set ν 79 (k : Int) (d : Int) = ν1 at *
      have e61 : ν1 61 = μ 61 := (z.tr z1) 61 (by decide)
      have e63 : ν1 63 = μ 63 := (z.tr z1) 63 (by decide)
      have hnext : ∀ (N1 : Nat → Nat) (ν2 : zk_M), zq zi_ld ν1 ν2 → (∀ i : Nat, i < k + 1 → ν2 79 i = ν1 79 i ∧ ν2 80 i = ν1 80 i) → (∀ q, q ≤ 6 → N1 q = N q + (if zn_np p q k then (if d ≠ q ∧ nx d S ≠ -1 then zn_c nx V q 0 (nx d S).toNat else 0) else 0)) → zk_K 232 93 [.inr (.inr (.inl 60)), .inr (.inr (.inr 0)), .inl wt, .inl (n : Int), .inl x4, .inl (N1 6 : Int), .inl (zn_all N1 : Int), .inl (k : Int), .inr (.inr (.inr 0)), .inr (.inr (.inr 0)), .inr (.inr (.inr 0))] [] ν2 (zk_RI B) := by
        intro N1 ν2 z2 g2 hN1
        refine ih N1 ν2 (z.tr (z1.tr z2)) (by rw [(g2 k (by omega)).2, k3]; exact k80) (by rw [(g2 k (by omega)).1, k1]; omega) (fun i hi => by rw [(g2 i (by omega)).1, k2 i hi]; exact kp i hi) ?_ (fun N' ν' z' g' hN' => cont N' ν' (z1.tr (z2.tr z')) (fun i hi => ⟨by rw [(g' i hi).1, (g2 i (by omega)).1, k2 i hi], by rw [(g' i hi).2, (g2 i (by omega)).2, k3]⟩) (fun q hq => ?_))
        · have n6 := hN1 6 (by decide)
          rw [zn_np_6 k (fun i hi => (kp i hi).2)] at n6
          rw [zn_sf_st hd] at hN
          simp only [if_true] at n6
          omega
        · rw [hN' q hq, hN1 q hq, zn_sf_st hd]
          cases zn_np p q k
          · rfl
          · simp only [if_true]
            omega
      refine ⟨by omega, by omega, by omega, by omega, fun _ => ⟨by omega, by omega, sp_take (Lg := Lg) (s := s) hk hs (by rw [e61]; exact h) (by rw [e61]; exact zvM_q e63 hG) hd (fun q ν2 z2 => ⟨fun q2 => absurd q2 (by decide), fun _ => hnext N ν2 (z2.up (by decide)) (fun i hi => by rw [z2 79 (by decide), z2 80 (by decide)]; exact ⟨rfl, rfl⟩) (fun q3 hq => ?_)⟩) (fun S' hS' rr hrr ν2 z2 => ⟨fun _ => ⟨by omega, by omega, by omega, by omega, fun q => ?_, fun q => absurd (by omega) q⟩, fun q => by omega⟩)⟩, fun q => by omega⟩
      · rw [enx] at q
        cases zn_np p q3 k <;> simp [q]
      · rw [enx] at hS'
        have hS2 := rnx hS hS'
        have kn : n = k + 1 := by omega
        rw [z2 80 (by decide), k3, k80, hrr, zk_set_e (by omega), z2 61 (by decide), e61]
        refine ⟨by omega, sp_wM (Lw := Lw) (s := s) hk hs (by rw [zk_set_o (by decide), z2 61 (by decide), e61]; exact h) (zvM_q (by rw [zk_set_o (by decide), z2 63 (by decide)]; exact e63) hL) (fun ν3 z3 => ?_)⟩
        have z4 : zq zi_ld ν1 ν3 := (z2.up (by decide)).tr (((zq.rf _ _).set (by decide) _ _).tr (z3.up (by decide)))
        have g4 : ∀ i : Nat, i < k + 1 → ν3 79 i = ν1 79 i ∧ ν3 80 i = ν1 80 i := fun i hi => by
          rw [z3 79 (by decide), z3 80 (by decide), zk_set_o (by decide), zk_set_n (by omega), z2 79 (by decide), z2 80 (by decide)]
          exact ⟨rfl, rfl⟩
        have n6 : N 6 + 1 ≤ 1000001 := by omega
        refine ⟨fun q2 => hnext N ν3 z4 g4 (fun q3 hq => ?_), fun q2 => ⟨by omega, sp_mask (p := fun i => if i = k then d else p i) (zn_all_lt N) hn (fun i hi => ?_) ?_⟩⟩
        · have : V S' = false := by rw [eV]; simpa using q2
          rw [hS', Int.toNat_natCast, zn_c, this]
          simp
        · rw [(g4 i (by omega)).1]
          by_cases e : i = k
          · rw [if_pos e, e, k1]
            exact ⟨rfl, hd⟩
          · rw [if_neg e, k2 i (by omega)]
            exact kp i (by omega)
        · have hv : V S' = true := by rw [eV]; simpa using q2
          have np : ∀ q3, zn_np (fun i => if i = k then d else p i) q3 n = (zn_np p q3 k && decide (d ≠ q3)) := fun q3 => by
            rw [kn, zn_np, zn_np_cg (p := p) k (fun i hi => if_neg (by omega)), if_pos rfl]
          have key := hnext (fun q3 => N q3 + (if zn_np p q3 k && decide (d ≠ q3) then 1 else 0)) ν3 z4 g4 (fun q3 hq => by
            rw [hS', Int.toNat_natCast, zn_c, hv]
            cases zn_np p q3 k <;> by_cases e : d = q3 <;> simp [e])
          rw [zn_all_and (N := N) (N' := fun q3 => N q3 + (if zn_np p q3 k && decide (d ≠ q3) then 1 else 0)) (fun b hb => by
            rw [zn_m_bit, np]
            cases (zn_np p b k && decide (d ≠ b)) <;> rfl)]
          have e6 : zn_np p 6 k = true := zn_np_6 k (fun i hi => (kp i hi).2)
          have e7 : d ≠ 6 := by omega
          simp only [e6, e7, ne_eq, not_false_eq_true, decide_true, Bool.and_self, if_true] at key
          push_cast at key
          exact key
  | succ r ihr =>
    intro k hkr S p hS
    refine zl_up (P := fun d => ∀ (N : Nat → Nat) (ν : zk_M), zq zi_ld μ ν → ν 80 k = ((zn_ph σ s S : Nat) : Int) → ν 79 k = (d : Int) - 1 → (∀ i : Nat, i < k → ν 79 i = (p i : Int) ∧ p i < 6) → N 6 + zn_sf (fun d => if d ≠ 6 ∧ nx d S ≠ -1 then zn_c nx V 6 (r + 1) (nx d S).toNat else 0) (6 - d) d ≤ 1000000 → (∀ (N' : Nat → Nat) (ν' : zk_M), zq zi_ld ν ν' → (∀ i : Nat, i < k → ν' 79 i = ν 79 i ∧ ν' 80 i = ν 80 i) → (∀ q, q ≤ 6 → N' q = N q + (if zn_np p q k then zn_sf (fun d => if d ≠ q ∧ nx d S ≠ -1 then zn_c nx V q (r + 1) (nx d S).toNat else 0) (6 - d) d else 0)) → zk_K 232 93 [.inr (.inr (.inl 60)), .inr (.inr (.inr 0)), .inl wt, .inl (n : Int), .inl x4, .inl (N' 6 : Int), .inl (zn_all N' : Int), .inl ((k : Int) + -1), .inr (.inr (.inr 0)), .inr (.inr (.inr 0)), .inr (.inr (.inr 0))] [] ν' (zk_RI B)) → zk_K 232 93 [.inr (.inr (.inl 60)), .inr (.inr (.inr 0)), .inl wt, .inl (n : Int), .inl x4, .inl (N 6 : Int), .inl (zn_all N : Int), .inl (k : Int), .inr (.inr (.inr 0)), .inr (.inr (.inr 0)), .inr (.inr (.inr 0))] [] ν (zk_RI B)) (fun N ν z k80 k79 kp hN cont => ?_) (fun d hd ih N ν z k80 k79 kp hN cont => ?_)
    · refine t_Mod_done_93 ⟨fun q => by omega, fun _ => ?_⟩
      rw [k79, zk_set_s]
      refine ⟨by omega, by omega, by omega, by omega, fun q => absurd (by decide) q, fun _ => ⟨by omega, cont N _ ((zq.rf _ _).set (by decide) _ _) (fun i hi => ⟨zk_set_n (by omega), by rw [zk_set_o (by decide)]⟩) (fun q hq => ?_)⟩⟩
      rw [show zn_sf (fun d => if d ≠ q ∧ nx d S ≠ -1 then zn_c nx V q (r + 1) (nx d S).toNat else 0) (6 - 6) 6 = 0 from rfl]
      split <;> rfl
    · refine t_Mod_done_93 ⟨fun q => by omega, fun _ => ?_⟩
      rw [k79, zk_set_s, show (d : Int) - 1 + 1 = (d : Int) by omega, k80]
      have z1 : zq zi_ld ν (zk_set ν 79 (k : Int) (d : Int)) := (zq.rf _ _).set (by decide) _ _
      have k1 : zk_set ν 79 (k : Int) (d : Int) 79 k = (d : Int) := zk_set_s _ _ _ _
      have k2 : ∀ i : Nat, i < k → zk_set ν 79 (k : Int) (d : Int) 79 i = ν 79 i := fun i hi => zk_set_n (by omega)
      have k3 : zk_set ν 79 (k : Int) (d : Int) 80 = ν 80 := zk_set_o (by decide)
      generalize zk_set ν 79 (k : Int) (d : Int) = ν1 at *
      have e61 : ν1 61 = μ 61 := (z.tr z1) 61 (by decide)
      have e63 : ν1 63 = μ 63 := (z.tr z1) 63 (by decide)
      have hnext : ∀ (N1 : Nat → Nat) (ν2 : zk_M), zq zi_ld ν1 ν2 → (∀ i : Nat, i < k + 1 → ν2 79 i = ν1 79 i ∧ ν2 80 i = ν1 80 i) → (∀ q, q ≤ 6 → N1 q = N q + (if zn_np p q k then (if d ≠ q ∧ nx d S ≠ -1 then zn_c nx V q (r + 1) (nx d S).toNat else 0) else 0)) → zk_K 232 93 [.inr (.inr (.inl 60)), .inr (.inr (.inr 0)), .inl wt, .inl (n : Int), .inl x4, .inl (N1 6 : Int), .inl (zn_all N1 : Int), .inl (k : Int), .inr (.inr (.inr 0)), .inr (.inr (.inr 0)), .inr (.inr (.inr 0))] [] ν2 (zk_RI B) := by
        intro N1 ν2 z2 g2 hN1
        refine ih N1 ν2 (z.tr (z1.tr z2)) (by rw [(g2 k (by omega)).2, k3]; exact k80) (by rw [(g2 k (by omega)).1, k1]; omega) (fun i hi => by rw [(g2 i (by omega)).1, k2 i hi]; exact kp i hi) ?_ (fun N' ν' z' g' hN' => cont N' ν' (z1.tr (z2.tr z')) (fun i hi => ⟨by rw [(g' i hi).1, (g2 i (by omega)).1, k2 i hi], by rw [(g' i hi).2, (g2 i (by omega)).2, k3]⟩) (fun q hq => ?_))
        · have n6 := hN1 6 (by decide)
          rw [zn_np_6 k (fun i hi => (kp i hi).2)] at n6
          rw [zn_sf_st hd] at hN
          simp only [if_true] at n6
          omega
        · rw [hN' q hq, hN1 q hq, zn_sf_st hd]
          cases zn_np p q k
          · rfl
          · simp only [if_true]
            omega
      refine ⟨by omega, by omega, by omega, by omega, fun _ => ⟨by omega, by omega, sp_take (Lg := Lg) (s := s) hk hs (by rw [e61]; exact h) (by rw [e61]; exact zvM_q e63 hG) hd (fun q ν2 z2 => ⟨fun q2 => absurd q2 (by decide), fun _ => hnext N ν2 (z2.up (by decide)) (fun i hi => by rw [z2 79 (by decide), z2 80 (by decide)]; exact ⟨rfl, rfl⟩) (fun q3 hq => ?_)⟩) (fun S' hS' rr hrr ν2 z2 => ⟨fun _ => ⟨by omega, by omega, by omega, by omega, fun q => by omega, fun _ => ⟨by omega, by omega, ?_⟩⟩, fun q => by omega⟩)⟩, fun q => by omega⟩
      · rw [enx] at q
        cases zn_np p q3 k <;> simp [q]
      · rw [enx] at hS'
        have hS2 := rnx hS hS'
        rw [z2 80 (by decide), k3, k80, hrr]
        have np : ∀ q3, zn_np (fun i => if i = k then d else p i) q3 (k + 1) = (zn_np p q3 k && decide (d ≠ q3)) := fun q3 => by
          rw [zn_np, zn_np_cg (p := p) k (fun i hi => if_neg (by omega)), if_pos rfl]
        have z4 : zq zi_ld ν1 (zk_set (zk_set ν2 80 ((k : Int) + 1) ((zn_ph σ s S' : Nat) : Int)) 79 ((k : Int) + 1) (-1)) := (z2.up (by decide)).tr (((zq.rf _ _).set (by decide) _ _).set (by decide) _ _)
        have g4 : ∀ i : Nat, i < k + 1 → zk_set (zk_set ν2 80 ((k : Int) + 1) ((zn_ph σ s S' : Nat) : Int)) 79 ((k : Int) + 1) (-1) 79 i = ν1 79 i ∧ zk_set (zk_set ν2 80 ((k : Int) + 1) ((zn_ph σ s S' : Nat) : Int)) 79 ((k : Int) + 1) (-1) 80 i = ν1 80 i := fun i hi => by
          rw [zk_set_n (by omega), zk_set_n (by omega), zk_set_n (by omega), zk_set_n (by omega), z2 79 (by decide), z2 80 (by decide)]
          exact ⟨rfl, rfl⟩
        have c80 : zk_set (zk_set ν2 80 ((k : Int) + 1) ((zn_ph σ s S' : Nat) : Int)) 79 ((k : Int) + 1) (-1) 80 ((k + 1 : Nat) : Int) = ((zn_ph σ s S' : Nat) : Int) := by
          rw [zk_set_o (by decide), zk_set_e (by omega)]
        have c79 : zk_set (zk_set ν2 80 ((k : Int) + 1) ((zn_ph σ s S' : Nat) : Int)) 79 ((k : Int) + 1) (-1) 79 ((k + 1 : Nat) : Int) = ((0 : Nat) : Int) - 1 := by
          rw [zk_set_e (by omega)]
          rfl
        generalize zk_set (zk_set ν2 80 ((k : Int) + 1) ((zn_ph σ s S' : Nat) : Int)) 79 ((k : Int) + 1) (-1) = ν3 at *
        have e6 : zn_np p 6 k = true := zn_np_6 k (fun i hi => (kp i hi).2)
        have e7 : d ≠ 6 := by omega
        have e8 : nx d S ≠ -1 := by omega
        have key := ihr (k + 1) (by omega) S' (fun i => if i = k then d else p i) hS2 0 (by decide) N ν3 (z.tr (z1.tr z4)) c80 c79 (fun i hi => ?_) ?_ (fun N' ν' z' g' hN' => ?_)
        · exact key
        · rw [(g4 i (by omega)).1]
          by_cases e : i = k
          · rw [if_pos e, e, k1]
            exact ⟨rfl, hd⟩
          · rw [if_neg e, k2 i (by omega)]
            exact kp i (by omega)
        · rw [zn_sf_st hd, if_pos ⟨e7, e8⟩, hS', Int.toNat_natCast, zn_c, ← zn_sf_6] at hN
          rw [show 6 - 0 = 6 from rfl]
          omega
        · rw [show ((k + 1 : Nat) : Int) + -1 = (k : Int) by omega]
          refine hnext N' ν' (z4.tr z') (fun i hi => ⟨by rw [(g' i hi).1, (g4 i hi).1], by rw [(g' i hi).2, (g4 i hi).2]⟩) (fun q3 hq => ?_)
          rw [hN' q3 hq, np, hS', Int.toNat_natCast, zn_c, ← zn_sf_6, show 6 - 0 = 6 from rfl]
          cases zn_np p q3 k <;> by_cases e : d = q3 <;> simp [e]
end
