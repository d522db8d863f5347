/-! done: plain, and on the class's side *-/
def zn_sum (f : Nat → Nat) : Nat → Nat
  | 0 => 0
  | n + 1 => zn_sum f n + f n
theorem zn_sum_cg {f g : Nat → Nat} : ∀ n, (∀ i, i < n → f i = g i) → zn_sum f n = zn_sum g n
  | 0, _ => rfl
  | n + 1, h => by rw [zn_sum, zn_sum, zn_sum_cg n (fun i hi => h i (by omega)), h n (by omega)]
/-- how many rows of k sins there are from S on, none of them q -/
def zn_c (nx : Nat → Nat → Int) (V : Nat → Bool) (q : Nat) : Nat → Nat → Nat
  | 0, S => if V S then 1 else 0
  | k + 1, S => zn_sum (fun d => if d ≠ q ∧ nx d S ≠ -1 then zn_c nx V q k (nx d S).toNat else 0) 6
/-- the same of one row, as a number -/
def zn_vd (nx : Nat → Nat → Int) (V : Nat → Bool) (q : Nat) : Nat → Nat → Nat → Bool
  | 0, S, _ => V S
  | k + 1, S, r => decide (r % 6 ≠ q ∧ nx (r % 6) S ≠ -1) && zn_vd nx V q k (nx (r % 6) S).toNat (r / 6)
theorem zb_c6 (f : Nat → Bool) : ∀ N, zb_c f (6 * N) = zn_sum (fun d => zb_c (fun r => f (6 * r + d)) N) 6
  | 0 => rfl
  | N + 1 => by
    have ih := zb_c6 f N
    rw [show 6 * (N + 1) = 6 * N + 1 + 1 + 1 + 1 + 1 + 1 by omega]
    simp only [zb_c, zn_sum] at ih ⊢
    rw [ih]
    simp only [Nat.add_zero, Nat.add_assoc]
    omega
theorem zb_c_and {g : Nat → Bool} {c : Bool} : ∀ N, zb_c (fun r => c && g r) N = if c then zb_c g N else 0
  | 0 => by cases c <;> rfl
  | N + 1 => by
    rw [zb_c, zb_c_and N]
    cases c
    · simp
    · simp [zb_c]
theorem zn_cnt (nx : Nat → Nat → Int) (V : Nat → Bool) (q : Nat) : ∀ k S, zb_c (zn_vd nx V q k S) (6 ^ k) = zn_c nx V q k S
  | 0, S => by
    simp only [Nat.pow_zero, zb_c, zn_vd, zn_c, Nat.zero_add]
  | k + 1, S => by
    rw [show 6 ^ (k + 1) = 6 * 6 ^ k by rw [Nat.pow_succ, Nat.mul_comm], zb_c6, zn_c]
    refine zn_sum_cg 6 (fun d hd => ?_)
    have e : ∀ r, zn_vd nx V q (k + 1) S (6 * r + d) = (decide (d ≠ q ∧ nx d S ≠ -1) && zn_vd nx V q k (nx d S).toNat r) := fun r => by
      rw [zn_vd, show (6 * r + d) % 6 = d by omega, show (6 * r + d) / 6 = r by omega]
    rw [zb_c_congr (f := fun r => zn_vd nx V q (k + 1) S (6 * r + d)) (g := fun r => decide (d ≠ q ∧ nx d S ≠ -1) && zn_vd nx V q k (nx d S).toNat r) (6 ^ k) (fun r _ => e r), zb_c_and, zn_cnt nx V q k]
    by_cases p : d ≠ q ∧ nx d S ≠ -1
    · rw [if_pos p, if_pos (by simpa using p)]
    · rw [if_neg p, if_neg (by simpa using p)]
theorem zn_tm6 {a : Nat} : Int.tmod (a : Int) 6 = ((a % 6 : Nat) : Int) := by
  rw [Int.tmod_eq_emod_of_nonneg (by omega)]; rfl
theorem zn_td6 {a : Nat} : Int.tdiv (a : Int) 6 = ((a / 6 : Nat) : Int) := by
  rw [Int.tdiv_eq_ediv_of_nonneg (by omega)]; rfl
/-- sins in all rows -/
def zn_all (N : Nat → Nat) : Nat := zb_t (fun b => N b == 0) 6
theorem zn_all_lt (N : Nat → Nat) : zn_all N < 64 := zb_t_lt _ 6
theorem zn_all_and {N N' : Nat → Nat} {M : Nat} (h : ∀ b, b < 6 → N' b = N b + (if M.testBit b then 0 else 1)) : zn_all N &&& M = zn_all N' := by
  apply Nat.eq_of_testBit_eq
  intro b
  unfold zn_all
  rw [Nat.testBit_and, zb_t_bit, zb_t_bit]
  by_cases q : b < 6
  · rw [h b q]
    cases M.testBit b <;> simp [q]
  · simp [q]
theorem zn_all_cg {N N' : Nat → Nat} (h : ∀ b, b < 6 → N' b = N b) : zn_all N' = zn_all N := zb_t_congr 6 (fun b hb => by rw [h b hb])
section
variable {μ : zk_M} {BV : zk_M → Prop} {B : Int → zk_M → Prop} {m : Nat} {w : Nat → Int} {gs : Nat → Nat → Bool}
theorem sp_guess {wt : Int} {n : Nat} (hA : zn_A μ m w gs) (hn : n ≤ 4) (hB : ∀ μ', zq [56] μ μ' → μ' 56 0 = (zn_c (fun d S => zn_nx (gs d) m S) (fun S => zn_S w m S == wt) 6 n (2 ^ m - 1) : Nat) → μ' 56 1 = (if zn_c (fun d S => zn_nx (gs d) m S) (fun S => zn_S w m S == wt) 6 n (2 ^ m - 1) = 0 then 0 else (zn_all (fun b => zn_c (fun d S => zn_nx (gs d) m S) (fun S => zn_S w m S == wt) b n (2 ^ m - 1)) : Nat)) → BV μ') : zk_C 40 [.inr (.inr (.inl 56)), .inl wt, .inl (n : Int)] μ (zk_RV BV) := by
  have h8 := hA.1
  have hp : 2 ^ m ≤ 256 := Nat.pow_le_pow_right (n := 2) (j := 8) (by decide) h8
  have hp0 : 0 < 2 ^ m := Nat.two_pow_pos m
  have h6n : 6 ^ n ≤ 1296 := Nat.pow_le_pow_right (n := 6) (j := 4) (by decide) hn
  generalize hnx : (fun d S => zn_nx (gs d) m S) = nx at hB
  generalize hV : (fun S => zn_S w m S == wt) = V at hB
  have enx : ∀ d S, nx d S = zn_nx (gs d) m S := fun d S => by rw [← hnx]
  have eV : ∀ S, V S = (zn_S w m S == wt) := fun S => by rw [← hV]
  have rows : ∀ r, r ≤ 6 ^ n → (∀ ν, zq [56] μ ν → ν 56 2 = (m : Int) → ν 56 0 = ((zb_c (zn_vd nx V 6 n (2 ^ m - 1)) r : Nat) : Int) → ν 56 1 = ((zn_all (fun b => zb_c (zn_vd nx V b n (2 ^ m - 1)) r) : Nat) : Int) → zk_K 40 36 [.inr (.inr (.inl 56)), .inl wt, .inl (n : Int), .inl ((6 ^ n : Nat) : Int), .inl (r : Int), .inr (.inr (.inr 0)), .inr (.inr (.inr 0)), .inr (.inr (.inr 0)), .inr (.inr (.inr 0))] [] ν (zk_RV BV)) := by
    refine zl_up (fun ν z k2 k0 k1 => t_Pen_guess_36 ⟨fun _ => ?_, fun q => absurd (Int.le_refl _) q⟩) (fun r hr ih ν z k2 k0 k1 => ?_)
    · rw [zn_cnt] at k0
      have k1' : ν 56 1 = ((zn_all (fun b => zn_c nx V b n (2 ^ m - 1)) : Nat) : Int) := by
        rw [k1, zn_all_cg (fun b _ => (zn_cnt nx V b n (2 ^ m - 1)))]
      rw [k0]
      refine ⟨fun q => hB ν z k0 (by rw [if_neg (by omega)]; exact k1'), fun q => hB _ (z.set (by decide) _ _) (by rw [zk_set_n (by decide)]; exact k0) (by rw [if_pos (by omega), zk_set_s]; rfl)⟩
    · have hA' : zn_A ν m w gs := zn_A_q hA (by rw [k2]; exact hA.2.1.symm) (z 57 (by decide)) (z 58 (by decide))
      have hle := zb_c_le (zn_vd nx V 6 n (2 ^ m - 1)) r
      have same : (∀ q, q ≤ 6 → zn_vd nx V q n (2 ^ m - 1) r = false) → zk_K 40 36 [.inr (.inr (.inl 56)), .inl wt, .inl (n : Int), .inl ((6 ^ n : Nat) : Int), .inl ((r : Int) + 1), .inr (.inr (.inr 0)), .inr (.inr (.inr 0)), .inr (.inr (.inr 0)), .inr (.inr (.inr 0))] [] ν (zk_RV BV) := fun hf => by
        refine ih ν z k2 ?_ ?_
        · rw [k0, zb_c, hf 6 (by decide)]
          rfl
        · rw [k1, zn_all_cg (N := fun b => zb_c (zn_vd nx V b n (2 ^ m - 1)) r) (N' := fun b => zb_c (zn_vd nx V b n (2 ^ m - 1)) (r + 1)) (fun b hb => by simp only [zb_c, hf b (by omega)]; rfl)]
      have digs : ∀ j, j ≤ n → (∀ (S M t : Nat), S < 2 ^ m → M < 64 → t ≤ 1296 → (∀ q, q ≤ 6 → zn_vd nx V q n (2 ^ m - 1) r = (!M.testBit q && zn_vd nx V q (n - j) S t)) → zk_K 40 62 [.inr (.inr (.inl 56)), .inl wt, .inl (n : Int), .inl ((6 ^ n : Nat) : Int), .inl (r : Int), .inl (S : Int), .inl (M : Int), .inl (t : Int), .inl (j : Int)] [] ν (zk_RV BV)) := by
        refine zl_up (fun S M t hS hM ht hv => ?_) (fun j hj ih2 S M t hS hM ht hv => ?_)
        · rw [Nat.sub_self] at hv
          refine t_Pen_guess_62 ⟨fun _ => t_Pen_guess_112 ⟨fun q => by omega, fun _ => sp_pW hA' (by omega) ⟨fun q => ⟨by omega, same (fun q2 hq => ?_)⟩, fun q => ?_⟩⟩, fun q => absurd (Int.le_refl _) q⟩
          · rw [hv q2 hq, zn_vd, eV]
            simp [q]
          · have hv1 : ∀ q2, q2 ≤ 6 → zn_vd nx V q2 n (2 ^ m - 1) r = !M.testBit q2 := fun q2 hq => by
              rw [hv q2 hq, zn_vd, eV]
              simp [q]
            have m6 : M.testBit 6 = false := Nat.testBit_lt_two_pow (show M < 2 ^ 6 by omega)
            rw [k0, k1]
            refine ⟨by omega, by omega, ih _ ((z.set (by decide) _ _).set (by decide) _ _) (by rw [zk_set_n (by decide), zk_set_n (by decide)]; exact k2) ?_ ?_⟩
            · rw [zk_set_n (by decide), zk_set_s, zb_c, hv1 6 (by decide), m6]
              rfl
            · rw [zk_set_s, zb_and (Nat.lt_trans (zn_all_lt _) (by decide)) (by omega), zn_all_and (N' := fun b => zb_c (zn_vd nx V b n (2 ^ m - 1)) (r + 1))]
              intro b hb
              simp only [zb_c, hv1 b (by omega)]
              cases M.testBit b <;> rfl
        · refine t_Pen_guess_62 ⟨fun q => by omega, fun _ => ⟨fun q => by omega, fun _ => ?_⟩⟩
          rw [zn_tm6, zn_td6]
          have hd : t % 6 < 6 := Nat.mod_lt _ (by decide)
          rw [show n - j = (n - (j + 1)) + 1 by omega] at hv
          have ht6 : ((6 : Int) ≠ 0 ∧ -2147483648 ≤ ((t / 6 : Nat) : Int) ∧ ((t / 6 : Nat) : Int) ≤ 2147483647) := ⟨by decide, by omega, by omega⟩
          refine ⟨ht6, ht6, sp_behind hA' hS hd ⟨ht6, by omega, ?_⟩⟩
          have hp2 : 2 ^ (t % 6) < 64 := Nat.pow_lt_pow_right (n := 6) (by decide) hd
          rw [zb_one (by omega), zb_or (by omega) (by omega)]
          have hM2 : M ||| 2 ^ (t % 6) < 64 := Nat.or_lt_two_pow (n := 6) (by omega) (by omega)
          rcases zn_nx_r (gs := gs (t % 6)) hS with e | ⟨e1, e2, e3, e4⟩
          · rw [e]
            have hf : ∀ q, q ≤ 6 → zn_vd nx V q n (2 ^ m - 1) r = false := fun q hq => by
              rw [hv q hq, zn_vd, enx, e]
              simp
            exact t_Pen_guess_62 ⟨fun _ => t_Pen_guess_112 ⟨fun _ => ⟨by omega, same hf⟩, fun q => absurd rfl q⟩, fun _ => ⟨fun _ => t_Pen_guess_112 ⟨fun _ => ⟨by omega, same hf⟩, fun q => absurd rfl q⟩, fun q => absurd rfl q⟩⟩
          · have k := ih2 (zn_nx (gs (t % 6)) m S).toNat (M ||| 2 ^ (t % 6)) (t / 6) e2 hM2 (by omega) (fun q hq => ?_)
            · rw [Int.toNat_of_nonneg e1] at k
              exact k
            · rw [hv q hq, zn_vd, enx, Nat.testBit_or, Nat.testBit_two_pow]
              have : zn_nx (gs (t % 6)) m S ≠ -1 := by omega
              by_cases p : t % 6 = q
              · simp [p]
              · simp [p, this]
      refine t_Pen_guess_36 ⟨fun q => by omega, fun _ => ?_⟩
      rw [k2, zb_one (by omega)]
      refine ⟨by omega, ?_⟩
      have k := digs 0 (Nat.zero_le _) (2 ^ m - 1) 0 r (by omega) (by decide) (by omega) (fun q hq => by simp)
      rw [show ((2 ^ m - 1 : Nat) : Int) = ((2 ^ m : Nat) : Int) - 1 by omega] at k
      exact k
  have pw : ∀ j, j ≤ n → zk_K 40 5 [.inr (.inr (.inl 56)), .inl wt, .inl (n : Int), .inl ((6 ^ j : Nat) : Int), .inl (j : Int), .inr (.inr (.inr 0)), .inr (.inr (.inr 0)), .inr (.inr (.inr 0)), .inr (.inr (.inr 0))] [] μ (zk_RV BV) := by
    refine zl_up (t_Pen_guess_5 ⟨fun _ => rows 0 (Nat.zero_le _) _ (((zq.rf _ _).set (by decide) _ _).set (by decide) _ _) (by rw [zk_set_n (by decide), zk_set_n (by decide)]; exact hA.2.1) (by rw [zk_set_n (by decide), zk_set_s]; rfl) (by rw [zk_set_s]; rfl), fun q => absurd (Int.le_refl _) q⟩) (fun j hj ih => t_Pen_guess_5 ⟨fun q => by omega, fun _ => ?_⟩)
    have : 6 ^ (j + 1) ≤ 1296 := Nat.pow_le_pow_right (n := 6) (j := 4) (by decide) (by omega)
    rw [Nat.pow_succ] at this ih
    rw [show ((6 ^ j * 6 : Nat) : Int) = ((6 ^ j : Nat) : Int) * 6 by omega] at ih
    exact ⟨by omega, by omega, ih⟩
  exact c_Pen_guess (pw 0 (Nat.zero_le _))
end
