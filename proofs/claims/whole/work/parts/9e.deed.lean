/-! deeds: plain, and on the class's side *-/
def zt_num (lo hi : Int) (t : zt_T) : Int := if t.1 ≠ 2 then 1 else if t.2.1 < lo ∨ hi < t.2.1 then 2 else 0
abbrev zt_Dr := Int × Nat × (Int × Int × Int) × zt_T
def zt_dbad (k : Int) (t : zt_T) : zt_Dr := (k, t.2.2.1, (0, 0, 0), (0, 0, 0, 0))
def zt_semi (tk : Nat → zt_T) (a b c : Int) (t : zt_T) : zt_Dr := if t.1 ≠ 15 then zt_dbad 1 t else (0, 0, (a, b, c), tk t.2.2.2)
def zt_deed5 (tk : Nat → zt_T) (a b : Int) (t : zt_T) : zt_Dr := if zt_num 0 5 t ≠ 0 then zt_dbad (zt_num 0 5 t) t else zt_semi tk a b t.2.1 (tk t.2.2.2)
def zt_deed4 (tk : Nat → zt_T) (a b : Int) (t : zt_T) : zt_Dr := if t.1 ≠ 23 then zt_dbad 1 t else zt_deed5 tk a b (tk t.2.2.2)
def zt_deed3 (tk : Nat → zt_T) (w : Nat) (a : Int) (t : zt_T) : zt_Dr := if zt_num 0 5 t ≠ 0 then zt_dbad (zt_num 0 5 t) t else if w = 19 then zt_deed4 tk a t.2.1 (tk t.2.2.2) else zt_semi tk a t.2.1 (-1) (tk t.2.2.2)
def zt_deed2 (tk : Nat → zt_T) (w : Nat) (a : Int) (t : zt_T) : zt_Dr := if t.1 ≠ 22 then zt_dbad 1 t else zt_deed3 tk w a (tk t.2.2.2)
def zt_deed (tk : Nat → zt_T) (w : Nat) (t : zt_T) : zt_Dr :=
  if w = 20 then (if zt_num 0 29 t ≠ 0 then zt_dbad (zt_num 0 29 t) t else zt_semi tk t.2.1 (-1) (-1) (tk t.2.2.2))
  else if w = 21 then (if zt_num 1 99 t ≠ 0 then zt_dbad (zt_num 1 99 t) t else zt_semi tk t.2.1 (-1) (-1) (tk t.2.2.2))
  else if zt_num 0 5 t ≠ 0 then zt_dbad (zt_num 0 5 t) t else zt_deed2 tk w t.2.1 (tk t.2.2.2)
/-- what reading a deed may change *-/
def zt_df (k : Nat) (μ ν : zk_M) : Prop := zq [42, 44, k, k + 1] μ ν ∧ (∀ i : Int, i ≠ 0 → ν k i = μ k i) ∧ (∀ i : Int, 2 ≤ i → ν 44 i = μ 44 i) ∧ ν 42 1 = μ 42 1
theorem zt_df.rf (k : Nat) (μ : zk_M) : zt_df k μ μ := ⟨zq.rf _ _, fun _ _ => rfl, fun _ _ => rfl, rfl⟩
theorem zt_df.tr {k : Nat} {μ μ1 μ2 : zk_M} (h : zt_df k μ μ1) (h2 : zt_df k μ1 μ2) : zt_df k μ μ2 := ⟨h.1.tr h2.1, fun i hi => (h2.2.1 i hi).trans (h.2.1 i hi), fun i hi => (h2.2.2.1 i hi).trans (h.2.2.1 i hi), h2.2.2.2.trans h.2.2.2⟩
/-- the same but the token and the fault *-/
def zt_tk (μ ν : zk_M) : Prop := zq [42, 44] μ ν ∧ (∀ i : Int, 2 ≤ i → ν 44 i = μ 44 i) ∧ ν 42 1 = μ 42 1
theorem zt_tk.rf (μ : zk_M) : zt_tk μ μ := ⟨zq.rf _ _, fun _ _ => rfl, rfl⟩
theorem zt_tk.tr {μ μ1 μ2 : zk_M} (h : zt_tk μ μ1) (h2 : zt_tk μ1 μ2) : zt_tk μ μ2 := ⟨h.1.tr h2.1, fun i hi => (h2.2.1 i hi).trans (h.2.1 i hi), h2.2.2.trans h.2.2⟩
theorem zt_tk.df {k : Nat} {μ ν : zk_M} (h : zt_tk μ ν) (hk : k = 26 ∨ k = 30 ∨ k = 34 ∨ k = 38) : zt_df k μ ν := ⟨h.1.up (by simp), fun i hi => by rw [h.1 k (by simp; omega)], h.2.1, h.2.2⟩
section
variable {μ : zk_M} {BV : zk_M → Prop} {B : Int → zk_M → Prop} {f : Nat → Int} {len k : Nat} {t : zt_T}
theorem sp_blameT {kd : Int} (h : zt_at μ f len t) (hB : ∀ μ', zt_tk μ μ' → μ' 44 0 = kd → μ' 44 1 = (t.2.2.1 : Int) → BV μ') : zk_C 43 [.inr (.inr (.inl 44)), .inr (.inr (.inl 42)), .inl kd] μ (zk_RV BV) :=
  sp_blame (k := 26) h (Or.inl rfl) (fun μ' _ z e0 e1 n => hB μ' ⟨z.up (by simp), n, by rw [z 42 (by decide)]⟩ e0 e1)
theorem sp_adv (hb : zt_by f len) (h : zt_at μ f len t) (ht : zt_tf len t) (h0 : t.1 ≠ 0) (hB : ∀ ν, zt_tk μ ν → zt_at ν f len (zt_tok f len t.2.2.2) → zt_tf len (zt_tok f len t.2.2.2) → t.2.2.1 < (zt_tok f len t.2.2.2).2.2.1 → BV ν) : zk_C 107 [.inr (.inr (.inl 42))] μ (zk_RV BV) := by
  have tf := zt_tok_f (f := f) ht.2.1
  have tn := ht.2.2.2.1 h0
  exact sp_advance hb h.2.2.1 ht.2.1 h.2.2.2.2.2.1 (fun ν z c cc => hB ν ⟨z.up (by simp), fun i _ => by rw [z 44 (by decide)], by rw [c.1, h.2.2.1.1]⟩ ⟨by rw [z 44 (by decide)]; exact h.1, by rw [z 44 (by decide)]; exact h.2.1, c, cc⟩ tf.1 (by omega))
theorem sp_expC {x : Nat} (hb : zt_by f len) (h : zt_at μ f len t) (ht : zt_tf len t) (hx : x ≠ 0) (hy : t.1 = x → ∀ ν, zt_tk μ ν → zt_at ν f len (zt_tok f len t.2.2.2) → zt_tf len (zt_tok f len t.2.2.2) → t.2.2.1 < (zt_tok f len t.2.2.2).2.2.1 → BV ν) (hn : t.1 ≠ x → ∀ ν, zt_tk μ ν → ν 44 0 = 1 → ν 44 1 = (t.2.2.1 : Int) → BV ν) : zk_C 46 [.inr (.inr (.inl 44)), .inr (.inr (.inl 42)), .inl (x : Int)] μ (zk_RV BV) := by
  have h2 : μ 42 2 = (t.1 : Int) := h.2.2.2.1
  refine c_Rea_expect ?_
  rw [h2]
  refine ⟨fun q => ⟨fun q2 => absurd h.1 q2, fun _ => sp_adv hb h ht (by omega) (hy (by omega))⟩, fun q => sp_blameT h (fun ν z e0 e1 => ⟨fun _ => hn (by omega) ν z e0 e1, fun q2 => by rw [e0] at q2; exact absurd q2 (by decide)⟩)⟩
theorem sp_expF {x : Int} (h : μ 44 0 ≠ 0) (hB : BV μ) : zk_C 46 [.inr (.inr (.inl 44)), .inr (.inr (.inl 42)), .inl x] μ (zk_RV BV) :=
  c_Rea_expect ⟨fun _ => ⟨fun _ => hB, fun q => absurd q h⟩, fun _ => c_Rea_blame ⟨fun _ => ⟨fun _ => hB, fun q => absurd q h⟩, fun q => absurd q h⟩⟩
theorem sp_numC {lo hi : Int} (hb : zt_by f len) (h : zt_at μ f len t) (ht : zt_tf len t) (hy : zt_num lo hi t = 0 → ∀ ν, zt_tk μ ν → zt_at ν f len (zt_tok f len t.2.2.2) → zt_tf len (zt_tok f len t.2.2.2) → t.2.2.1 < (zt_tok f len t.2.2.2).2.2.1 → B t.2.1 ν) (hn : zt_num lo hi t ≠ 0 → ∀ x ν, zt_tk μ ν → ν 44 0 = zt_num lo hi t → ν 44 1 = (t.2.2.1 : Int) → B x ν) : zk_C 47 [.inr (.inr (.inl 44)), .inr (.inr (.inl 42)), .inl lo, .inl hi] μ (zk_RI B) := by
  have h2 : μ 42 2 = (t.1 : Int) := h.2.2.2.1
  refine c_Rea_readNumber ?_
  rw [h2]
  unfold zt_num at hy hn
  refine ⟨fun q => ?_, fun q => ?_⟩
  · have e2 : t.1 = 2 := by omega
    have h4 : μ 42 4 = t.2.1 := h.2.2.2.2.2.2 e2
    rw [if_neg (by omega)] at hy hn
    rw [h4]
    refine ⟨fun q2 => ?_, fun q2 => ⟨fun q3 => ?_, fun q3 => ?_⟩⟩
    · rw [if_pos (Or.inl q2)] at hn
      exact sp_blameT h (fun ν z e0 e1 => ⟨fun _ => hn (by decide) _ ν z e0 e1, fun q2 => by rw [e0] at q2; exact absurd q2 (by decide)⟩)
    · rw [if_neg (by omega)] at hy
      exact ⟨fun q4 => absurd h.1 q4, fun _ => sp_adv hb h ht (by omega) (hy rfl)⟩
    · rw [if_pos (Or.inr (by omega))] at hn
      exact sp_blameT h (fun ν z e0 e1 => ⟨fun _ => hn (by decide) _ ν z e0 e1, fun q2 => by rw [e0] at q2; exact absurd q2 (by decide)⟩)
  · rw [if_pos (by omega)] at hn
    exact sp_blameT h (fun ν z e0 e1 => ⟨fun _ => hn (by decide) _ ν z e0 e1, fun q2 => by rw [e0] at q2; exact absurd q2 (by decide)⟩)
theorem sp_numF {lo hi : Int} (h : μ 44 0 ≠ 0) (hB : ∀ x, B x μ) : zk_C 47 [.inr (.inr (.inl 44)), .inr (.inr (.inl 42)), .inl lo, .inl hi] μ (zk_RI B) := by
  have bl : ∀ kd : Int, zk_C 43 [.inr (.inr (.inl 44)), .inr (.inr (.inl 42)), .inl kd] μ (zk_RV fun μ1 => (¬ (μ1 44 0) = 0 → (B (μ 42 4) μ1)) ∧ ((μ1 44 0) = 0 → (zk_C 107 [.inr (.inr (.inl 42))] μ1 (zk_RV fun μ2 => B (μ 42 4) μ2)))) := fun kd => c_Rea_blame ⟨fun _ => ⟨fun _ => hB _, fun q => absurd q h⟩, fun q => absurd q h⟩
  exact c_Rea_readNumber ⟨fun _ => ⟨fun _ => bl 2, fun _ => ⟨fun _ => ⟨fun _ => hB _, fun q => absurd q h⟩, fun _ => bl 2⟩⟩, fun _ => bl 1⟩
/-- a clause more *-/
theorem sp_addCl {n : Nat} {x1 x2 x3 x4 : Int} (hk : k = 26 ∨ k = 30 ∨ k = 34 ∨ k = 38) (h0 : μ k 0 = (n : Int)) (hn : n < 24) (hB : ∀ ν, zt_df k μ ν → ν 42 = μ 42 → ν 44 = μ 44 → ν k 0 = (n : Int) + 1 → (∀ i : Int, i < 4 * n → ν (k + 1) i = μ (k + 1) i) → ν (k + 1) (4 * n) = x1 → ν (k + 1) (4 * n + 1) = x2 → ν (k + 1) (4 * n + 2) = x3 → ν (k + 1) (4 * n + 3) = x4 → BV ν) : zk_C 75 [.inr (.inr (.inl k)), .inl x1, .inl x2, .inl x3, .inl x4] μ (zk_RV BV) := by
  refine c_Scr_addClause hk ?_
  rw [h0, show (n : Int) * 4 = 4 * (n : Int) by omega]
  refine ⟨by omega, fun q => by omega, fun _ => ⟨by omega, fun _ => ⟨by omega, by omega, by omega, by omega, by omega, by omega, by omega, by omega, ?_⟩, fun q => by omega⟩⟩
  have z : zq [k, k + 1] μ (zk_set (zk_set (zk_set (zk_set (zk_set μ (k + 1) (4 * (n : Int)) x1) (k + 1) (4 * (n : Int) + 1) x2) (k + 1) (4 * (n : Int) + 2) x3) (k + 1) (4 * (n : Int) + 3) x4) k 0 ((n : Int) + 1)) := (((((zq.rf _ _).set (by simp) _ _).set (by simp) _ _).set (by simp) _ _).set (by simp) _ _).set (by simp) _ _
  refine hB _ ⟨z.up (by simp), fun i hi => ?_, fun i hi => by rw [z 44 (by simp; omega)], by rw [z 42 (by simp; omega)]⟩ (z 42 (by simp; omega)) (z 44 (by simp; omega)) (zk_set_s _ _ _ _) (fun i hi => ?_) ?_ ?_ ?_ ?_
  · rw [zk_set_n hi, zk_set_o (by omega), zk_set_o (by omega), zk_set_o (by omega), zk_set_o (by omega)]
  · rw [zk_set_o (by omega), zk_set_n (by omega), zk_set_n (by omega), zk_set_n (by omega), zk_set_n (by omega)]
  · rw [zk_set_o (by omega), zk_set_n (by omega), zk_set_n (by omega), zk_set_n (by omega), zk_set_s]
  · rw [zk_set_o (by omega), zk_set_n (by omega), zk_set_n (by omega), zk_set_s]
  · rw [zk_set_o (by omega), zk_set_n (by omega), zk_set_s]
  · rw [zk_set_o (by omega), zk_set_s]
/-- what a deed leaves *-/
def zt_dB (k : Nat) (w n : Nat) (f : Nat → Int) (len : Nat) (μ0 : zk_M) (R : zt_Dr) (BV : zk_M → Prop) : Prop :=
  (R.1 ≠ 0 → ∀ ν, zt_df k μ0 ν → ν 44 0 = R.1 → ν 44 1 = (R.2.1 : Int) → BV ν) ∧ (R.1 = 0 → ∀ ν, zt_df k μ0 ν → zt_at ν f len R.2.2.2 → zt_tf len R.2.2.2 → ν k 0 = (n : Int) + 1 → (∀ i : Int, i < 4 * n → ν (k + 1) i = μ0 (k + 1) i) → ν (k + 1) (4 * n) = (w : Int) → ν (k + 1) (4 * n + 1) = R.2.2.1.1 → ν (k + 1) (4 * n + 2) = R.2.2.1.2.1 → ν (k + 1) (4 * n + 3) = R.2.2.1.2.2 → BV ν)
theorem sp_semiC {w n : Nat} {a b c : Int} {μ0 : zk_M} (hb : zt_by f len) (hk : k = 26 ∨ k = 30 ∨ k = 34 ∨ k = 38) (z0 : zt_tk μ0 μ) (h0 : μ0 k 0 = (n : Int)) (hn : n < 24) (ha : zt_at μ f len t) (ht : zt_tf len t) (hB : zt_dB k w n f len μ0 (zt_semi (zt_tok f len) a b c t) BV) : zk_C 46 [.inr (.inr (.inl 44)), .inr (.inr (.inl 42)), .inl 15] μ (zk_RV fun μ10 => zk_C 75 [.inr (.inr (.inl k)), .inl (w : Int), .inl a, .inl b, .inl c] μ10 (zk_RV fun μ11 => BV μ11)) := by
  unfold zt_semi at hB
  refine sp_expC (x := 15) hb ha ht (by decide) (fun e ν z a1 t1 _ => ?_) (fun e ν z e0 e1 => ?_)
  · rw [if_neg (fun q => q e)] at hB
    have zz := z0.tr z
    refine sp_addCl (n := n) hk (by rw [zz.1 k (by simp; omega)]; exact h0) hn (fun ν1 y y42 y44 k0 kp p1 p2 p3 p4 => hB.2 rfl ν1 ((zz.df hk).tr y) ⟨by rw [y44]; exact a1.1, by rw [y44]; exact a1.2.1, ⟨by rw [y42]; exact a1.2.2.1.1, fun i hi => by rw [y.1 43 (by simp; omega)]; exact a1.2.2.1.2 i hi⟩, by unfold zt_C; rw [y42]; exact a1.2.2.2⟩ t1 k0 (fun i hi => by rw [kp i hi, zz.1 (k + 1) (by simp; omega)]) p1 p2 p3 p4)
  · rw [if_pos e] at hB
    have zz := z0.tr z
    exact sp_addCl (n := n) hk (by rw [zz.1 k (by simp; omega)]; exact h0) hn (fun ν1 y y42 y44 k0 kp p1 p2 p3 p4 => hB.1 (show (1 : Int) ≠ 0 by decide) ν1 ((zz.df hk).tr y) (by rw [y44]; exact e0) (by rw [y44]; exact e1))
theorem sp_69F {w n : Nat} {a b c : Int} (hk : k = 26 ∨ k = 30 ∨ k = 34 ∨ k = 38) (hf : μ 44 0 ≠ 0) (h0 : μ k 0 = (n : Int)) (hn : n < 24) (hB : ∀ ν, zt_df k μ ν → ν 44 = μ 44 → BV ν) : zk_K 45 69 [.inr (.inr (.inl 44)), .inr (.inr (.inl 42)), .inr (.inr (.inl k)), .inl (w : Int), .inl a, .inl b, .inl c] [] μ (zk_RV BV) :=
  t_Rea_readDeed_69 hk ⟨fun _ => sp_expF hf (sp_addCl hk h0 hn (fun ν y _ y44 _ _ _ _ _ _ => hB ν y y44)), fun _ => sp_expF hf (sp_numF hf (fun x => sp_expF hf (sp_addCl hk h0 hn (fun ν y _ y44 _ _ _ _ _ _ => hB ν y y44))))⟩
theorem sp_readDeed {w n : Nat} (hb : zt_by f len) (hk : k = 26 ∨ k = 30 ∨ k = 34 ∨ k = 38) (h0 : μ k 0 = (n : Int)) (hn : n < 24) (ha : zt_at μ f len t) (ht : zt_tf len t) (hB : zt_dB k w n f len μ (zt_deed (zt_tok f len) w t) BV) : zk_C 45 [.inr (.inr (.inl 44)), .inr (.inr (.inl 42)), .inr (.inr (.inl k)), .inl (w : Int)] μ (zk_RV BV) := by
  have fl : ∀ {R : zt_Dr} (kd : Int) (tt : zt_T) (a b c : Int) (ν : zk_M), R = zt_dbad kd tt → kd ≠ 0 → zt_dB k w n f len μ R BV → zt_tk μ ν → ν 44 0 = kd → ν 44 1 = (tt.2.2.1 : Int) → zk_K 45 69 [.inr (.inr (.inl 44)), .inr (.inr (.inl 42)), .inr (.inr (.inl k)), .inl (w : Int), .inl a, .inl b, .inl c] [] ν (zk_RV BV) := fun {R} kd tt a b c ν e hkd hB z e0 e1 => by
    rw [e] at hB
    exact sp_69F hk (by rw [e0]; exact hkd) (by rw [z.1 k (by simp; omega)]; exact h0) hn (fun ν1 y y44 => hB.1 hkd ν1 ((z.df hk).tr y) (by rw [y44]; exact e0) (by rw [y44]; exact e1))
  unfold zt_deed at hB
  refine c_Rea_readDeed hk ⟨fun n20 => ⟨fun n21 => ?_, fun e21 => ?_⟩, fun e20 => ?_⟩
  · rw [if_neg (by omega), if_neg (by omega)] at hB
    refine sp_numC hb ha ht (fun e ν z a1 t1 _ => ?_) (fun e x ν z e0 e1 => ?_)
    · rw [if_neg (fun q => q e)] at hB
      unfold zt_deed2 at hB
      refine sp_expC (x := 22) hb a1 t1 (by decide) (fun e2 ν2 z2 a2 t2 _ => ?_) (fun e2 ν2 z2 c0 c1 => ?_)
      · rw [if_neg (fun q => q e2)] at hB
        unfold zt_deed3 at hB
        refine sp_numC hb a2 t2 (fun e3 ν3 z3 a3 t3 _ => ?_) (fun e3 x ν3 z3 c0 c1 => ?_)
        · rw [if_neg (fun q => q e3)] at hB
          have zz3 := z.tr (z2.tr z3)
          refine t_Rea_readDeed_69 hk ⟨fun n19 => ?_, fun e19 => ?_⟩
          · rw [if_neg (by omega)] at hB
            exact sp_semiC hb hk zz3 h0 hn a3 t3 hB
          · rw [if_pos (by omega)] at hB
            unfold zt_deed4 at hB
            refine sp_expC (x := 23) hb a3 t3 (by decide) (fun e4 ν4 z4 a4 t4 _ => ?_) (fun e4 ν4 z4 c0 c1 => ?_)
            · rw [if_neg (fun q => q e4)] at hB
              unfold zt_deed5 at hB
              refine sp_numC hb a4 t4 (fun e5 ν5 z5 a5 t5 _ => ?_) (fun e5 x ν5 z5 c0 c1 => ?_)
              · rw [if_neg (fun q => q e5)] at hB
                exact sp_semiC hb hk (zz3.tr (z4.tr z5)) h0 hn a5 t5 hB
              · rw [if_pos e5] at hB
                have zz := zz3.tr (z4.tr z5)
                exact sp_expF (by rw [c0]; exact e5) (sp_addCl hk (by rw [zz.1 k (by simp; omega)]; exact h0) hn (fun ν1 y _ y44 _ _ _ _ _ _ => hB.1 e5 ν1 ((zz.df hk).tr y) (by rw [y44]; exact c0) (by rw [y44]; exact c1)))
            · rw [if_pos e4] at hB
              have zz := zz3.tr z4
              have nf : ν4 44 0 ≠ 0 := by rw [c0]; decide
              exact sp_numF nf (fun x => sp_expF nf (sp_addCl hk (by rw [zz.1 k (by simp; omega)]; exact h0) hn (fun ν1 y _ y44 _ _ _ _ _ _ => hB.1 (by decide : (1 : Int) ≠ 0) ν1 ((zz.df hk).tr y) (by rw [y44]; exact c0) (by rw [y44]; exact c1))))
        · rw [if_pos e3] at hB
          exact fl _ _ _ _ _ ν3 rfl e3 hB (z.tr (z2.tr z3)) c0 c1
      · rw [if_pos e2] at hB
        exact sp_numF (by rw [c0]; decide) (fun x => fl _ _ _ _ _ ν2 rfl (by decide) hB (z.tr z2) c0 c1)
    · rw [if_pos e] at hB
      have nf : ν 44 0 ≠ 0 := by rw [e0]; exact e
      exact sp_expF nf (sp_numF nf (fun x2 => fl _ _ _ _ _ ν rfl e hB z e0 e1))
  · rw [if_neg (by omega), if_pos (by omega)] at hB
    refine sp_numC hb ha ht (fun e ν z a1 t1 _ => ?_) (fun e x ν z e0 e1 => ?_)
    · rw [if_neg (fun q => q e)] at hB
      exact t_Rea_readDeed_69 hk ⟨fun _ => sp_semiC hb hk z h0 hn a1 t1 hB, fun q => by omega⟩
    · rw [if_pos e] at hB
      exact fl _ _ _ _ _ ν rfl e hB z e0 e1
  · rw [if_pos (by omega)] at hB
    refine sp_numC hb ha ht (fun e ν z a1 t1 _ => ?_) (fun e x ν z e0 e1 => ?_)
    · rw [if_neg (fun q => q e)] at hB
      exact t_Rea_readDeed_69 hk ⟨fun _ => sp_semiC hb hk z h0 hn a1 t1 hB, fun q => by omega⟩
    · rw [if_pos e] at hB
      exact fl _ _ _ _ _ ν rfl e hB z e0 e1
end
