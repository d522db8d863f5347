/-! a law is read to its end: the class's side *-/
def zt_tf (len : Nat) (t : zt_T) : Prop := t.2.2.1 ≤ len ∧ t.2.2.2 ≤ len ∧ t.1 ≤ 31 ∧ (t.1 ≠ 0 → t.2.2.1 < t.2.2.2) ∧ (t.1 = 2 → 0 ≤ t.2.1 ∧ t.2.1 ≤ 10000)
theorem zt_tok_f {f : Nat → Int} {len m : Nat} (h : m ≤ len) : zt_tf len (zt_tok f len m) ∧ m ≤ (zt_tok f len m).2.2.1 := by
  obtain ⟨a, b, c, d, e, g⟩ := zt_tok_r (f := f) h
  exact ⟨⟨b, c, d, e, g⟩, a⟩
theorem zt_br_op (W : List Nat) : zt_br W ≤ zt_op W := by
  induction W with
  | nil => exact Nat.le_refl 0
  | cons x W ih => rw [zt_br, zt_op]; split <;> split <;> omega
theorem zt_st_op (r : Nat) : ∀ (W : List Nat) (l : List (Int × Int)), zt_op (zt_st r W l).1 ≤ zt_op W
  | [], _ => Nat.le_refl _
  | s :: W, l => by
    rw [zt_st]
    split
    · have := zt_st_op r W (l ++ [(zt_o s, 0)])
      rw [zt_op]
      omega
    · exact Nat.le_refl _
section
variable {μ : zk_M} {BV : zk_M → Prop} {B : Int → zk_M → Prop} {f : Nat → Int} {len k : Nat} {o : List (Int × Int)} {W : List Nat} {cmp g : Bool} {t : zt_T}
theorem sp_flag {c : Nat} (hk : k = 26 ∨ k = 30 ∨ k = 34 ∨ k = 38) (h : zt_L μ k o W cmp) (hB : ∀ ν, zt_lf k μ ν → ν 42 = μ 42 → ν 44 0 = μ 44 0 → ν 44 1 = μ 44 1 → zt_L ν k o W (zt_cm cmp c) → BV ν) : ((c : Int) = 24 → (BV (zk_set μ 44 8 0))) ∧ (¬ (c : Int) = 24 → ((¬ (c : Int) = 25 → (zk_C 53 [.inl (c : Int)] μ (zk_RI fun r7 μ6 => (r7 = 0 → (BV μ6)) ∧ (¬ r7 = 0 → (BV (zk_set μ6 44 8 1)))))) ∧ ((c : Int) = 25 → (BV (zk_set μ 44 8 0))))) := by
  have st : ∀ (x : Int) (b : Bool), x = (if b then 1 else 0) → zt_L (zk_set μ 44 8 x) k o W b ∧ zt_lf k μ (zk_set μ 44 8 x) ∧ zk_set μ 44 8 x 42 = μ 42 ∧ zk_set μ 44 8 x 44 0 = μ 44 0 ∧ zk_set μ 44 8 x 44 1 = μ 44 1 := fun x b hx => by
    have z : zq [44] μ (zk_set μ 44 8 x) := (zq.rf _ _).set (by decide) _ _
    obtain ⟨h1, h2, h3, h4, h5, h6, h7⟩ := h
    refine ⟨⟨by rw [zk_set_n (by decide)]; exact h1, by rw [z 45 (by decide)]; exact h2, by rw [zk_set_n (by decide)]; exact h3, by rw [zk_set_n (by decide)]; exact h4, by rw [zk_set_s]; exact hx, by rw [z k (by simp; omega)]; exact h6, by rw [z (k + 2) (by simp; omega)]; exact h7⟩, ⟨z.up (by simp), fun i hi => by rw [z k (by simp; omega)], zk_set_n (by decide), zk_set_n (by decide), by rw [z 42 (by decide)]⟩, z 42 (by decide), zk_set_n (by decide), zk_set_n (by decide)⟩
  have off : c = 24 ∨ c = 25 → BV (zk_set μ 44 8 0) := fun e => by
    obtain ⟨a1, a2, a3, a4, a5⟩ := st 0 false rfl
    refine hB _ a2 a3 a4 a5 ?_
    unfold zt_cm
    rw [if_pos e]
    exact a1
  refine ⟨fun q => off (by omega), fun q => ⟨fun q2 => ?_, fun q2 => off (by omega)⟩⟩
  unfold zt_cm at hB
  rw [if_neg (by omega)] at hB
  refine c_Rea_isComparison ⟨fun p => ⟨fun _ => ?_, fun e => absurd rfl e⟩, fun p => ⟨fun p2 => ⟨fun _ => ?_, fun e => absurd rfl e⟩, fun p2 => ⟨fun e => absurd e (by decide), fun _ => ?_⟩⟩⟩
  · rw [if_neg (by omega)] at hB
    exact hB μ (zt_lf.rf _ _) rfl rfl rfl h
  · rw [if_neg (by omega)] at hB
    exact hB μ (zt_lf.rf _ _) rfl rfl rfl h
  · rw [if_pos (by omega)] at hB
    obtain ⟨a1, a2, a3, a4, a5⟩ := st 1 true rfl
    exact hB _ a2 a3 a4 a5 a1
/-- a sign behind a ONE, that can stand there *-/
theorem sp_readSign {law : Nat} (hk : k = 26 ∨ k = 30 ∨ k = 34 ∨ k = 38) (hlaw : (law = 16 ∧ g = false) ∨ (law = 17 ∧ g = true)) {o0 l : List (Int × Int)} (ha : zt_at μ f len t) (h : zt_L μ k (o0 ++ l) W cmp) (hI : zt_I g false W cmp l) (hl : o0.length + l.length + W.length ≤ 300) (hbad : zt_cf g W cmp t.1 = false → ∀ ν, zt_lf k μ ν → ν 44 0 = 1 → ν 44 1 = (t.2.2.1 : Int) → BV ν) (hok : zt_cf g W cmp t.1 = true → ∀ ν, zt_lf k μ ν → ν 42 = μ 42 → ν 44 0 = 0 → ν 44 1 = -1 → zt_L ν k (o0 ++ (zt_st (zt_rk t.1) W l).2) (if t.1 = 14 then (zt_st (zt_rk t.1) W l).1.tail else if t.1 = 15 then (zt_st (zt_rk t.1) W l).1 else t.1 :: (zt_st (zt_rk t.1) W l).1) (zt_cm cmp t.1) → BV ν) : zk_C 51 [.inr (.inr (.inl 44)), .inr (.inr (.inl 42)), .inr (.inr (.inl k)), .inl (law : Int)] μ (zk_RV BV) := by
  have h2 : μ 42 2 = (t.1 : Int) := ha.2.2.2.1
  have hW29 := zt_I_len hI
  refine c_Rea_readSign hk ?_
  rw [h2]
  refine sp_canFollow (g := g) h hlaw (fun hc => ⟨fun _ => sp_rank (c_Rea_settle hk ?_), fun q => absurd q (by decide)⟩) (fun hc => ⟨fun q => absurd rfl q, fun _ => sp_blame ha hk (fun ν z zz e0 e1 _ => hbad hc ν z e0 e1)⟩)
  obtain ⟨s1, s2, s3, s4⟩ := zt_sgn (c := t.1) hI hc
  have hr : 1 ≤ zt_rk t.1 := by
    by_cases e : t.1 = 13
    · exfalso
      rw [e] at hc
      unfold zt_cf at hc
      rw [if_neg (by decide)] at hc
      split at hc
      · exact absurd hc (by decide)
      · split at hc
        · exact absurd hc (by decide)
        · split at hc
          · exact absurd hc (by decide)
          · exact absurd hc (by decide)
    · unfold zt_rk
      rw [if_neg e]
      repeat' split
      all_goals decide
  refine sp_settleK hr hk W (o0 ++ l) 0 μ h hI.1 hI.2.1 (by omega) (by rw [List.length_append]; omega) (fun ν z e42 e0 e1 hL => ?_)
  have so := zt_st_o (zt_rk t.1) o0 W l
  have sop := Nat.le_trans (zt_st_op (zt_rk t.1) W l) hI.2.1
  rw [so.1, so.2] at hL
  generalize zt_st (zt_rk t.1) W l = R at *
  have k0 : ν 44 0 = 0 := e0.trans ha.1
  have k1 : ν 44 1 = -1 := e1.trans ha.2.1
  have fin : ∀ (W' : List Nat) (ν1 : zk_M), zt_lf k ν ν1 → ν1 42 = ν 42 → ν1 44 0 = ν 44 0 → ν1 44 1 = ν 44 1 → zt_L ν1 k (o0 ++ R.2) W' cmp → W' = (if t.1 = 14 then R.1.tail else if t.1 = 15 then R.1 else t.1 :: R.1) → ((t.1 : Int) = 24 → (BV (zk_set ν1 44 8 0))) ∧ (¬ (t.1 : Int) = 24 → ((¬ (t.1 : Int) = 25 → (zk_C 53 [.inl (t.1 : Int)] ν1 (zk_RI fun r7 μ6 => (r7 = 0 → (BV μ6)) ∧ (¬ r7 = 0 → (BV (zk_set μ6 44 8 1)))))) ∧ ((t.1 : Int) = 25 → (BV (zk_set ν1 44 8 0))))) := fun W' ν1 y y42 y0 y1 hL1 eW => sp_flag hk hL1 (fun ν2 w w42 w0 w1 hL2 => hok hc ν2 (z.tr (y.tr w)) (w42.trans (y42.trans e42)) (w0.trans (y0.trans k0)) (w1.trans (y1.trans k1)) (by rw [← eW]; exact hL2))
  refine ⟨fun q14 => ⟨fun q15 => ?_, fun q15 => ?_⟩, fun q14 => ?_⟩
  · exact fin R.1 ν (zt_lf.rf _ _) rfl rfl rfl hL (by rw [if_neg (by omega), if_pos (by omega)])
  · have hI2 := s4 (by omega) (by omega)
    have no : ¬ (t.1 = 13 ∨ t.1 = 26 ∨ t.1 = 32) := by
      intro e
      have : zt_cf g W cmp t.1 = false := by
        unfold zt_cf
        rcases e with e | e | e <;> rw [e] <;> simp <;> repeat' split
        all_goals first | rfl | simp_all
      rw [this] at hc
      exact absurd hc (by decide)
    refine sp_push (s := t.1) hk hL (by have := zt_I_len hI2; rw [List.length_cons] at this; omega) (zq.rf _ _) (fun _ _ _ => rfl) ?_ ?_ (fun ν1 y y42 y0 y1 hL1 => fin (t.1 :: R.1) ν1 y y42 y0 y1 hL1 (by rw [if_neg (by omega), if_neg (by omega)]))
    · rw [zt_op, if_neg no]
      exact hL.2.2.1
    · rw [zt_br, if_neg (by omega)]
      exact hL.2.2.2.1
  · obtain ⟨W', hW', hI2⟩ := s2 (by omega)
    rw [hW'] at hL fin
    have l2 := zt_I_len hI2
    have hRop : zt_op (13 :: W') ≤ 8 := by
      rw [← hW']
      exact sop
    refine sp_drop hL hk (by rw [List.length_cons]; have := zt_wok_29 (W := 13 :: W') ⟨hI2.1, by unfold zt_adj; split <;> exact Or.inl rfl⟩ hRop; rw [List.length_cons] at this; exact this) hRop (fun ν1 y y42 y0 y1 hL1 => fin W' ν1 y y42 y0 y1 hL1 (by rw [if_pos (by omega)]; rfl))
theorem zt_L_42 {ν ν' : zk_M} (hk : k = 26 ∨ k = 30 ∨ k = 34 ∨ k = 38) (h : zt_L ν k o W cmp) (z : zq [42] ν ν') : zt_L ν' k o W cmp := by
  unfold zt_L at *
  rw [z 44 (by decide), z 45 (by decide), z k (by simp; omega), z (k + 2) (by simp; omega)]
  exact h
theorem sp_lawK {law : Nat} (hb : zt_by f len) (hk : k = 26 ∨ k = 30 ∨ k = 34 ∨ k = 38) (hlaw : (law = 16 ∧ g = false) ∨ (law = 17 ∧ g = true)) {μ0 : zk_M} (o0 : List (Int × Int)) : ∀ (n : Nat) (due : Bool) (W : List Nat) (cmp : Bool) (l : List (Int × Int)) (t : zt_T) (ν : zk_M), n ≤ 301 → zt_lf k μ0 ν → zt_at ν f len t → zt_tf len t → zt_L ν k (o0 ++ l) W cmp → zt_I g due W cmp l → o0.length + l.length + W.length ≤ t.2.2.1 → len + 1 ≤ t.2.2.1 + n → ((zt_law (zt_tok f len) g n due W cmp l t).1 ≠ 0 → ∀ ν', zt_lf k μ0 ν' → ν' 44 0 = (zt_law (zt_tok f len) g n due W cmp l t).1 → ν' 44 1 = ((zt_law (zt_tok f len) g n due W cmp l t).2.1 : Int) → zk_C 78 [.inr (.inr (.inl k)), .inl (law : Int)] ν' (zk_RV BV)) → ((zt_law (zt_tok f len) g n due W cmp l t).1 = 0 → ∀ ν', zt_lf k μ0 ν' → zt_at ν' f len (zt_law (zt_tok f len) g n due W cmp l t).2.2.2 → zt_tf len (zt_law (zt_tok f len) g n due W cmp l t).2.2.2 → (o0 ++ (zt_law (zt_tok f len) g n due W cmp l t).2.2.1).length ≤ (zt_law (zt_tok f len) g n due W cmp l t).2.2.2.2.2.1 → t.2.2.1 < (zt_law (zt_tok f len) g n due W cmp l t).2.2.2.2.2.1 → ν' k 3 = ((o0 ++ (zt_law (zt_tok f len) g n due W cmp l t).2.2.1).length : Int) → (∀ (i : Nat) (q : Int × Int), (o0 ++ (zt_law (zt_tok f len) g n due W cmp l t).2.2.1)[i]? = some q → ν' (k + 2) i = zx_enc q) → zk_C 78 [.inr (.inr (.inl k)), .inl (law : Int)] ν' (zk_RV BV)) → zk_K 48 34 [.inr (.inr (.inl 44)), .inr (.inr (.inl 42)), .inr (.inr (.inl k)), .inl (law : Int), .inl (if due then 1 else 0), .inl 0, .inl ((301 : Int) - n)] [] ν (zk_RV BV) := by
  have hlen := hb.1
  have ex : ∀ (x4 x5 x6 : Int) (ν' : zk_M), (ν' 44 0 ≠ 0 ∨ x5 ≠ 0) → zk_C 78 [.inr (.inr (.inl k)), .inl (law : Int)] ν' (zk_RV BV) → zk_K 48 34 [.inr (.inr (.inl 44)), .inr (.inr (.inl 42)), .inr (.inr (.inl k)), .inl (law : Int), .inl x4, .inl x5, .inl x6] [] ν' (zk_RV BV) := fun x4 x5 x6 ν' hx h => t_Rea_readLaw_34 hk ⟨fun _ => h, fun _ => ⟨fun _ => h, fun q => ⟨fun _ => h, fun q2 => by rcases hx with hx | hx; exact absurd q hx; exact absurd q2 hx⟩⟩⟩
  intro n
  induction n with
  | zero =>
    intro due W cmp l t ν _ _ _ ht _ _ _ hf
    have := ht.1
    omega
  | succ n ih =>
    intro due W cmp l t ν hn hlf ha ht hL hI hol hf hbad hok
    have ht0 : t.2.2.1 ≤ len := ht.1
    have h42 : ν 42 2 = (t.1 : Int) := ha.2.2.2.1
    have x6 : ((301 : Int) - (n + 1 : Nat)) + 1 = (301 : Int) - n := by omega
    have W29 := zt_I_len hI
    have bad : ∀ (x4 x5 : Int) (kd : Int) (ν5 : zk_M), zt_law (zt_tok f len) g (n + 1) due W cmp l t = zt_bad kd t → kd ≠ 0 → zt_lf k ν ν5 → ν5 44 0 = kd → ν5 44 1 = (t.2.2.1 : Int) → (¬ (ν5 44 0) = 0 → (((-2147483648 : Int) ≤ (((301 : Int) - (n + 1 : Nat)) + 1) ∧ ((((301 : Int) - (n + 1 : Nat)) + 1) : Int) ≤ 2147483647) ∧ (zk_K 48 34 [.inr (.inr (.inl 44)), .inr (.inr (.inl 42)), .inr (.inr (.inl k)), .inl (law : Int), .inl x4, .inl x5, .inl (((301 : Int) - (n + 1 : Nat)) + 1)] [] ν5 (zk_RV BV)))) ∧ ((ν5 44 0) = 0 → (zk_C 107 [.inr (.inr (.inl 42))] ν5 (zk_RV fun μ7 => ((-2147483648 : Int) ≤ (((301 : Int) - (n + 1 : Nat)) + 1) ∧ ((((301 : Int) - (n + 1 : Nat)) + 1) : Int) ≤ 2147483647) ∧ (zk_K 48 34 [.inr (.inr (.inl 44)), .inr (.inr (.inl 42)), .inr (.inr (.inl k)), .inl (law : Int), .inl x4, .inl x5, .inl (((301 : Int) - (n + 1 : Nat)) + 1)] [] μ7 (zk_RV BV))))) := fun x4 x5 kd ν5 e hkd y e0 e1 => by
      rw [e] at hbad
      exact ⟨fun _ => ⟨by omega, ex _ _ _ _ (Or.inl (by rw [e0]; exact hkd)) (hbad hkd ν5 (hlf.tr y) e0 e1)⟩, fun q => absurd (e0.symm.trans q) hkd⟩
    have adv : ∀ {BV' : zk_M → Prop} (ν5 : zk_M), t.1 ≠ 0 → zt_lf k ν ν5 → ν5 42 = ν 42 → ν5 44 0 = 0 → ν5 44 1 = -1 → (∀ μ7, zq [42] ν5 μ7 → zt_lf k μ0 μ7 → zt_at μ7 f len (zt_tok f len t.2.2.2) → zt_tf len (zt_tok f len t.2.2.2) → t.2.2.1 + 1 ≤ (zt_tok f len t.2.2.2).2.2.1 → BV' μ7) → zk_C 107 [.inr (.inr (.inl 42))] ν5 (zk_RV BV') := fun {BV'} ν5 h0 y e42 e0 e1 hB => by
      have tf := zt_tok_f (f := f) ht.2.1
      have tn := ht.2.2.2.1 h0
      have c0 : zt_C0 ν5 f len := ⟨by rw [e42]; exact ha.2.2.1.1, fun i hi => by rw [y.1 43 (by simp; omega)]; exact ha.2.2.1.2 i hi⟩
      refine sp_advance hb c0 ht.2.1 (by rw [e42]; exact ha.2.2.2.2.2.1) (fun μ7 z7 c7 cc => hB μ7 z7 (hlf.tr (y.tr ⟨z7.up (by simp), fun i hi => by rw [z7 k (by simp; omega)], by rw [z7 44 (by decide)], by rw [z7 44 (by decide)], by rw [c7.1, c0.1]⟩)) ⟨by rw [z7 44 (by decide)]; exact e0, by rw [z7 44 (by decide)]; exact e1, c7, cc⟩ tf.1 (by omega))
    have good : ∀ (due' : Bool) (W' : List Nat) (cmp' : Bool) (l' : List (Int × Int)) (ν5 : zk_M), zt_law (zt_tok f len) g (n + 1) due W cmp l t = zt_law (zt_tok f len) g n due' W' cmp' l' (zt_tok f len t.2.2.2) → t.1 ≠ 0 → zt_lf k ν ν5 → ν5 42 = ν 42 → ν5 44 0 = 0 → ν5 44 1 = -1 → zt_L ν5 k (o0 ++ l') W' cmp' → zt_I g due' W' cmp' l' → l'.length + W'.length ≤ l.length + W.length + 1 → (¬ (ν5 44 0) = 0 → (((-2147483648 : Int) ≤ (((301 : Int) - (n + 1 : Nat)) + 1) ∧ ((((301 : Int) - (n + 1 : Nat)) + 1) : Int) ≤ 2147483647) ∧ (zk_K 48 34 [.inr (.inr (.inl 44)), .inr (.inr (.inl 42)), .inr (.inr (.inl k)), .inl (law : Int), .inl (if due' then 1 else 0), .inl 0, .inl (((301 : Int) - (n + 1 : Nat)) + 1)] [] ν5 (zk_RV BV)))) ∧ ((ν5 44 0) = 0 → (zk_C 107 [.inr (.inr (.inl 42))] ν5 (zk_RV fun μ7 => ((-2147483648 : Int) ≤ (((301 : Int) - (n + 1 : Nat)) + 1) ∧ ((((301 : Int) - (n + 1 : Nat)) + 1) : Int) ≤ 2147483647) ∧ (zk_K 48 34 [.inr (.inr (.inl 44)), .inr (.inr (.inl 42)), .inr (.inr (.inl k)), .inl (law : Int), .inl (if due' then 1 else 0), .inl 0, .inl (((301 : Int) - (n + 1 : Nat)) + 1)] [] μ7 (zk_RV BV))))) := fun due' W' cmp' l' ν5 e h0 y e42 e0 e1 hL5 hI5 hl5 => by
      rw [e] at hbad hok
      refine ⟨fun q => absurd e0 q, fun _ => adv ν5 h0 y e42 e0 e1 (fun μ7 z7 f7 a7 tf7 p7 => ⟨by omega, ?_⟩)⟩
      rw [x6]
      exact ih due' W' cmp' l' (zt_tok f len t.2.2.2) μ7 (by omega) f7 a7 tf7 (zt_L_42 hk hL5 z7) hI5 (by omega) (by omega) hbad (fun q ν' g1 g2 g3 g4 g5 g6 g7 => hok q ν' g1 g2 g3 g4 (by omega) g6 g7)
    have a00 : ν 44 0 = 0 := ha.1
    have a01 : ν 44 1 = -1 := ha.2.1
    cases due with
    | true =>
      refine t_Rea_readLaw_34 hk ⟨fun q => by omega, fun _ => ⟨fun q => absurd a00 q, fun _ => ⟨fun q => absurd rfl q, fun _ => ⟨fun q => absurd q (by decide), fun _ => c_Rea_readStart hk ?_⟩⟩⟩⟩
      rw [h42]
      have ho300 : t.1 ≠ 0 → (o0 ++ l).length < 300 := fun h0 => by
        have := ht.2.2.2.1 h0
        have := ht.2.1
        rw [List.length_append]
        omega
      have addN : ∀ (q : Int × Int) (x : Int), x = zx_enc q → t.1 ≠ 0 → zt_I g false W cmp (l ++ [q]) → zt_law (zt_tok f len) g (n + 1) true W cmp l t = zt_law (zt_tok f len) g n false W cmp (l ++ [q]) (zt_tok f len t.2.2.2) → zk_C 76 [.inr (.inr (.inl k)), .inl x] ν (zk_RV fun μ1 => (¬ (μ1 44 0) = 0 → (((-2147483648 : Int) ≤ (((301 : Int) - (n + 1 : Nat)) + 1) ∧ ((((301 : Int) - (n + 1 : Nat)) + 1) : Int) ≤ 2147483647) ∧ (zk_K 48 34 [.inr (.inr (.inl 44)), .inr (.inr (.inl 42)), .inr (.inr (.inl k)), .inl (law : Int), .inl 0, .inl 0, .inl (((301 : Int) - (n + 1 : Nat)) + 1)] [] μ1 (zk_RV BV)))) ∧ ((μ1 44 0) = 0 → (zk_C 107 [.inr (.inr (.inl 42))] μ1 (zk_RV fun μ7 => ((-2147483648 : Int) ≤ (((301 : Int) - (n + 1 : Nat)) + 1) ∧ ((((301 : Int) - (n + 1 : Nat)) + 1) : Int) ≤ 2147483647) ∧ (zk_K 48 34 [.inr (.inr (.inl 44)), .inr (.inr (.inl 42)), .inr (.inr (.inl k)), .inl (law : Int), .inl 0, .inl 0, .inl (((301 : Int) - (n + 1 : Nat)) + 1)] [] μ7 (zk_RV BV)))))) := fun q x ex1 h0 hI1 e => sp_add hk hL (ho300 h0) (fun μ1 z1 b42 b44 hL1 => by
        have hL2 := hL1 q ex1
        rw [List.append_assoc] at hL2
        exact good false W cmp (l ++ [q]) μ1 e h0 z1 b42 (by rw [b44]; exact a00) (by rw [b44]; exact a01) hL2 hI1 (by rw [List.length_append, List.length_singleton]; omega))
      have addB : ∀ (kd : Int) (x : Int), kd ≠ 0 → t.1 ≠ 0 → zt_law (zt_tok f len) g (n + 1) true W cmp l t = zt_bad kd t → ∀ ν1, zt_lf k ν ν1 → ν1 44 0 = kd → ν1 44 1 = (t.2.2.1 : Int) → zt_L ν1 k (o0 ++ l) W cmp → zk_C 76 [.inr (.inr (.inl k)), .inl x] ν1 (zk_RV fun μ1 => (¬ (μ1 44 0) = 0 → (((-2147483648 : Int) ≤ (((301 : Int) - (n + 1 : Nat)) + 1) ∧ ((((301 : Int) - (n + 1 : Nat)) + 1) : Int) ≤ 2147483647) ∧ (zk_K 48 34 [.inr (.inr (.inl 44)), .inr (.inr (.inl 42)), .inr (.inr (.inl k)), .inl (law : Int), .inl 0, .inl 0, .inl (((301 : Int) - (n + 1 : Nat)) + 1)] [] μ1 (zk_RV BV)))) ∧ ((μ1 44 0) = 0 → (zk_C 107 [.inr (.inr (.inl 42))] μ1 (zk_RV fun μ7 => ((-2147483648 : Int) ≤ (((301 : Int) - (n + 1 : Nat)) + 1) ∧ ((((301 : Int) - (n + 1 : Nat)) + 1) : Int) ≤ 2147483647) ∧ (zk_K 48 34 [.inr (.inr (.inl 44)), .inr (.inr (.inl 42)), .inr (.inr (.inl k)), .inl (law : Int), .inl 0, .inl 0, .inl (((301 : Int) - (n + 1 : Nat)) + 1)] [] μ7 (zk_RV BV)))))) := fun kd x hkd h0 e ν1 y1 e0 e1 hL1 => sp_add hk hL1 (ho300 h0) (fun μ1 z1 b42 b44 _ => bad 0 0 kd μ1 e hkd (y1.tr z1) (by rw [b44]; exact e0) (by rw [b44]; exact e1))
      have opens : ∀ s : Nat, s = (if t.1 = 10 then 32 else t.1) → (t.1 = 13 ∨ t.1 = 10 ∨ (t.1 = 26 ∧ g = true ∧ zt_ask W = true)) → zk_K 49 115 [.inr (.inr (.inl 44)), .inr (.inr (.inl 42)), .inr (.inr (.inr 0)), .inr (.inr (.inr 0)), .inl (t.1 : Int)] [] ν (zk_RI fun r6 μ5 => (¬ (μ5 44 0) = 0 → (((-2147483648 : Int) ≤ (((301 : Int) - (n + 1 : Nat)) + 1) ∧ ((((301 : Int) - (n + 1 : Nat)) + 1) : Int) ≤ 2147483647) ∧ (zk_K 48 34 [.inr (.inr (.inl 44)), .inr (.inr (.inl 42)), .inr (.inr (.inl k)), .inl (law : Int), .inl r6, .inl 0, .inl (((301 : Int) - (n + 1 : Nat)) + 1)] [] μ5 (zk_RV BV)))) ∧ ((μ5 44 0) = 0 → (zk_C 107 [.inr (.inr (.inl 42))] μ5 (zk_RV fun μ7 => ((-2147483648 : Int) ≤ (((301 : Int) - (n + 1 : Nat)) + 1) ∧ ((((301 : Int) - (n + 1 : Nat)) + 1) : Int) ≤ 2147483647) ∧ (zk_K 48 34 [.inr (.inr (.inl 44)), .inr (.inr (.inl 42)), .inr (.inr (.inl k)), .inl (law : Int), .inl r6, .inl 0, .inl (((301 : Int) - (n + 1 : Nat)) + 1)] [] μ7 (zk_RV BV)))))) := fun s hs hc => by
        have hv : s = 13 ∨ s = 32 ∨ (s = 26 ∧ g = true ∧ zt_ask W = true) := by
          rcases hc with c | c | c
          · left
            rw [hs, if_neg (by omega), c]
          · right; left
            rw [hs, if_pos c]
          · right; right
            exact ⟨by rw [hs, if_neg (by omega)]; exact c.1, c.2⟩
        have hv3 : s = 13 ∨ s = 32 ∨ s = 26 := by
          rcases hv with c | c | c
          · exact Or.inl c
          · exact Or.inr (Or.inl c)
          · exact Or.inr (Or.inr c.1)
        have hc3 : t.1 = 13 ∨ t.1 = 10 ∨ t.1 = 26 := by
          rcases hc with c | c | c
          · exact Or.inl c
          · exact Or.inr (Or.inl c)
          · exact Or.inr (Or.inr c.1)
        have t0 : t.1 ≠ 0 := by omega
        have eq : zt_law (zt_tok f len) g (n + 1) true W cmp l t = if 8 ≤ zt_op W then zt_bad 3 t else zt_law (zt_tok f len) g n true (s :: W) cmp l (zt_tok f len t.2.2.2) := by
          rw [zt_law, if_neg (by omega), if_neg (by omega), if_pos hc, ← hs]
        have opS : zt_op (s :: W) = zt_op W + 1 := by rw [zt_op, if_pos (by omega)]
        have h8 := hI.2.1
        have pushG : ∀ (ν1 : zk_M) (x b6 b7 : Int) (P : zk_M → Prop), zq [44] ν ν1 → (∀ i : Int, 2 ≤ i → ν1 44 i = ν 44 i) → x = (s : Int) → b6 = (zt_op W : Int) + 1 → b7 = (zt_br (s :: W) : Int) → (∀ ν5, zt_lf k ν ν5 → ν5 42 = ν 42 → ν5 44 0 = ν1 44 0 → ν5 44 1 = ν1 44 1 → zt_L ν5 k (o0 ++ l) (s :: W) cmp → P ν5) → zk_C 57 [.inr (.inr (.inl 44)), .inl x] (zk_set (zk_set ν1 44 6 b6) 44 7 b7) (zk_RV P) := fun ν1 x b6 b7 P y1 yn ex e6 e7 hP => by
          subst ex
          have hL1 := zt_L_b hL hk y1 yn
          have y1f : zt_lf k ν ν1 := ⟨y1.up (by simp), fun i hi => by rw [y1 k (by simp; omega)], yn 2 (by decide), yn 3 (by decide), by rw [y1 42 (by decide)]⟩
          refine sp_push (s := s) hk hL1 W29 (((zq.rf _ _).set (by decide) _ _).set (by decide) _ _) (fun i i6 i7 => by rw [zk_set_n i7, zk_set_n i6]) (by rw [zk_set_n (by decide), zk_set_s, opS, e6]; rfl) (by rw [zk_set_s]; exact e7) (fun ν5 z5 d42 d0 d1 hL5 => hP ν5 (y1f.tr z5) (d42.trans (y1 42 (by decide))) d0 d1 hL5)
        have hbr := zt_br_op W
        have h6 : ν 44 6 = (zt_op W : Int) := hL.2.2.1
        have h7 : ν 44 7 = (zt_br W : Int) := hL.2.2.2.1
        have b13 : t.1 = 13 → zt_br (s :: W) = zt_br W + 1 := fun e => by rw [zt_br, if_pos (by rw [hs, if_neg (by omega)]; exact e)]
        have bn13 : t.1 ≠ 13 → zt_br (s :: W) = zt_br W := fun e => by rw [zt_br, if_neg (by rw [hs]; split <;> omega), Nat.add_zero]
        have s10 : t.1 = 10 → (32 : Int) = (s : Int) := fun e => by rw [hs, if_pos e]; rfl
        have sn10 : t.1 ≠ 10 → (t.1 : Int) = (s : Int) := fun e => by rw [hs, if_neg e]
        refine t_Rea_readStart_115 ⟨fun q => ?_, fun q => ?_⟩
        · rw [if_neg (by omega)] at eq
          have hP : ∀ ν5, zt_lf k ν ν5 → ν5 42 = ν 42 → ν5 44 0 = ν 44 0 → ν5 44 1 = ν 44 1 → zt_L ν5 k (o0 ++ l) (s :: W) cmp → _ := fun ν5 z5 d42 d0 d1 hL5 => good true (s :: W) cmp l ν5 eq t0 z5 d42 (d0.trans a00) (d1.trans a01) hL5 (zt_I_o hI hv (by omega)) (by rw [List.length_cons]; omega)
          refine ⟨by omega, fun n13 => ⟨by omega, fun n10 => ?_, fun e10 => ?_⟩, fun e13 => ⟨by omega, fun n10 => ?_, fun e10 => by omega⟩⟩
          · exact pushG ν _ _ _ _ (zq.rf _ _) (fun _ _ => rfl) (sn10 (by omega)) (by omega) (by rw [bn13 (by omega)]; omega) hP
          · exact pushG ν _ _ _ _ (zq.rf _ _) (fun _ _ => rfl) (s10 (by omega)) (by omega) (by rw [bn13 (by omega)]; omega) hP
          · exact pushG ν _ _ _ _ (zq.rf _ _) (fun _ _ => rfl) (sn10 (by omega)) (by omega) (by rw [b13 (by omega)]; omega) hP
        · rw [if_pos (by omega)] at eq
          refine sp_blame ha hk (fun ν1 zf1 z1 c0 c1 cn => ?_)
          have k6 : ν1 44 6 = (zt_op W : Int) := (cn 6 (by decide)).trans h6
          have k7 : ν1 44 7 = (zt_br W : Int) := (cn 7 (by decide)).trans h7
          have hP : ∀ ν5, zt_lf k ν ν5 → ν5 42 = ν 42 → ν5 44 0 = ν1 44 0 → ν5 44 1 = ν1 44 1 → zt_L ν5 k (o0 ++ l) (s :: W) cmp → _ := fun ν5 z5 d42 d0 d1 hL5 => bad 1 0 3 ν5 eq (by decide) z5 (d0.trans c0) (d1.trans c1)
          refine ⟨by omega, fun n13 => ⟨by omega, fun n10 => ?_, fun e10 => ?_⟩, fun e13 => ⟨by omega, fun n10 => ?_, fun e10 => by omega⟩⟩
          · exact pushG ν1 _ _ _ _ z1 cn (sn10 (by omega)) (by omega) (by rw [bn13 (by omega)]; omega) hP
          · exact pushG ν1 _ _ _ _ z1 cn (s10 (by omega)) (by omega) (by rw [bn13 (by omega)]; omega) hP
          · exact pushG ν1 _ _ _ _ z1 cn (sn10 (by omega)) (by omega) (by rw [b13 (by omega)]; omega) hP
      have k81 : t.1 ≠ 2 → ¬ (27 ≤ t.1 ∧ t.1 ≤ 31) → zk_K 49 81 [.inr (.inr (.inl 44)), .inr (.inr (.inl 42)), .inr (.inr (.inr 0)), .inl (law : Int), .inl (t.1 : Int)] [] ν (zk_RI fun r6 μ5 => (¬ (μ5 44 0) = 0 → (((-2147483648 : Int) ≤ (((301 : Int) - (n + 1 : Nat)) + 1) ∧ ((((301 : Int) - (n + 1 : Nat)) + 1) : Int) ≤ 2147483647) ∧ (zk_K 48 34 [.inr (.inr (.inl 44)), .inr (.inr (.inl 42)), .inr (.inr (.inl k)), .inl (law : Int), .inl r6, .inl 0, .inl (((301 : Int) - (n + 1 : Nat)) + 1)] [] μ5 (zk_RV BV)))) ∧ ((μ5 44 0) = 0 → (zk_C 107 [.inr (.inr (.inl 42))] μ5 (zk_RV fun μ7 => ((-2147483648 : Int) ≤ (((301 : Int) - (n + 1 : Nat)) + 1) ∧ ((((301 : Int) - (n + 1 : Nat)) + 1) : Int) ≤ 2147483647) ∧ (zk_K 48 34 [.inr (.inr (.inl 44)), .inr (.inr (.inl 42)), .inr (.inr (.inl k)), .inl (law : Int), .inl r6, .inl 0, .inl (((301 : Int) - (n + 1 : Nat)) + 1)] [] μ7 (zk_RV BV)))))) := fun h2 h27 => by
        have one : ¬ (t.1 = 13 ∨ t.1 = 10 ∨ (t.1 = 26 ∧ g = true ∧ zt_ask W = true)) → zt_law (zt_tok f len) g (n + 1) true W cmp l t = zt_bad 1 t := fun hn => by rw [zt_law, if_neg h2, if_neg h27, if_neg hn]
        refine t_Rea_readStart_81 ⟨fun q => opens _ rfl (Or.inl (by omega)), fun q13 => ⟨fun q => opens _ rfl (Or.inr (Or.inl (by omega))), fun q10 => ⟨fun q26 => ?_, fun q26 => ⟨fun q17 => ?_, fun q17 => ?_⟩⟩⟩⟩
        · exact sp_blame ha hk (fun ν1 zf1 z1 c0 c1 cn => bad 1 0 1 ν1 (one (by intro e; rcases e with e | e | e; exact q13 (by omega); exact q10 (by omega); exact q26 (by omega))) (by decide) zf1 c0 c1)
        · refine sp_blame ha hk (fun ν1 zf1 z1 c0 c1 cn => bad 1 0 1 ν1 (one (fun e => ?_)) (by decide) zf1 c0 c1)
          rcases e with e | e | e
          · exact q13 (by omega)
          · exact q10 (by omega)
          · rcases hlaw with p | p
            · rw [p.2] at e
              exact absurd e.2.1 (by decide)
            · exact q17 (by omega)
        · have g1 : g = true := by
            rcases hlaw with p | p
            · omega
            · exact p.2
          refine c_Rea_startsAsk (sp_lastW hL W29 ?_)
          have askT : zt_ask W = true → zk_K 49 115 [.inr (.inr (.inl 44)), .inr (.inr (.inl 42)), .inr (.inr (.inr 0)), .inr (.inr (.inr 0)), .inl (t.1 : Int)] [] ν _ := fun e => opens _ rfl (Or.inr (Or.inr ⟨by omega, g1, e⟩))
          have askF : zt_ask W = false → zk_C 43 [.inr (.inr (.inl 44)), .inr (.inr (.inl 42)), .inl 1] ν _ := fun e => sp_blame ha hk (fun ν1 zf1 z1 c0 c1 cn => bad 1 0 1 ν1 (one (fun e2 => by rcases e2 with e2 | e2 | e2; exact q13 (by omega); exact q10 (by omega); rw [e] at e2; exact absurd e2.2.2 (by decide))) (by decide) zf1 c0 c1)
          cases W with
          | nil => exact ⟨fun _ => ⟨fun q => absurd q (by decide), fun _ => askT rfl⟩, fun q => absurd rfl q⟩
          | cons x W' =>
            have hx := zt_adj_v hI.1.2
            rw [List.headD_cons]
            refine ⟨fun q => by omega, fun _ => ⟨fun q => ⟨fun q => absurd q (by decide), fun _ => askT (by simp [zt_ask]; omega)⟩, fun n24 => ⟨fun q => ⟨fun q => absurd q (by decide), fun _ => askT (by simp [zt_ask]; omega)⟩, fun n25 => ⟨fun n26 => ⟨fun _ => askF (by simp [zt_ask]; omega), fun q => absurd rfl q⟩, fun q => ⟨fun q => absurd q (by decide), fun _ => askT (by simp [zt_ask]; omega)⟩⟩⟩⟩⟩
      have enc27 : 27 ≤ t.1 ∧ t.1 ≤ 31 → zk_xor (t.1 : Int) (-1) = zx_enc (1, (t.1 : Int) - 27) := fun h27 => by rw [zt_not t.1 (by omega), zt_encn h27]
      have name : 27 ≤ t.1 ∧ t.1 ≤ 31 → ¬ (t.1 = 31 ∧ g = false) → zk_C 76 [.inr (.inr (.inl k)), .inl (zk_xor (t.1 : Int) (-1))] ν _ := fun h27 h31 => addN (1, (t.1 : Int) - 27) _ (enc27 h27) (by omega) (zt_I_v hI (Or.inr ⟨rfl, by show 0 ≤ (t.1 : Int) - 27; omega, by show (t.1 : Int) - 27 ≤ 4; omega, fun hg => by
          have : t.1 ≠ 31 := fun e => h31 ⟨e, hg⟩
          show (t.1 : Int) - 27 < 4
          omega⟩)) (by rw [zt_law, if_neg (by omega), if_pos h27, if_neg h31])
      refine ⟨fun n2 => ⟨fun q27 => k81 (by omega) (by omega), fun q27 => ⟨fun q31 => k81 (by omega) (by omega), fun q31 => ⟨fun n31 => name (by omega) (fun e => by omega), fun e31 => ⟨fun n16 => name (by omega) (fun e => ?_), fun e16 => ?_⟩⟩⟩⟩, fun e2 => ?_⟩
      · rcases hlaw with p | p
        · omega
        · rw [p.2] at e
          exact absurd e.2 (by decide)
      · have g0 : g = false := by
          rcases hlaw with p | p
          · exact p.2
          · omega
        refine sp_blame ha hk (fun ν1 zf1 z1 c0 c1 cn => addB 5 _ (by decide) (by omega) ?_ ν1 zf1 c0 c1 (zt_L_b hL hk z1 cn))
        rw [zt_law, if_neg (by omega), if_pos (by omega), if_pos ⟨by omega, g0⟩]
      · have e2' : t.1 = 2 := by omega
        have v2 := ht.2.2.2.2 e2'
        have hv : ν 42 4 = t.2.1 := ha.2.2.2.2.2.2 e2'
        rw [hv]
        refine ⟨fun q => addN (0, t.2.1) _ rfl (by omega) (zt_I_v hI (Or.inl ⟨rfl, v2.1, q⟩)) (by rw [zt_law, if_pos e2', if_neg (by omega)]), fun q => sp_blame ha hk (fun ν1 zf1 z1 c0 c1 cn => addB 2 _ (by decide) (by omega) ?_ ν1 zf1 c0 c1 (zt_L_b hL hk z1 cn))⟩
        rw [zt_law, if_pos e2', if_pos (by omega)]
    | false =>
      have i0 : t.1 = 15 → zt_cf g W cmp t.1 = true → zt_law (zt_tok f len) g (n + 1) false W cmp l t = (0, 0, (zt_st (zt_rk t.1) W l).2, zt_tok f len t.2.2.2) := fun e hc => by
        rw [zt_law, if_neg (by simp [hc]), if_neg (by omega), if_pos e]
      have iB : zt_cf g W cmp t.1 = false → zt_law (zt_tok f len) g (n + 1) false W cmp l t = zt_bad 1 t := fun hc => by rw [zt_law, if_pos hc]
      have h300 : o0.length + l.length + W.length ≤ 300 := by omega
      have cf0 : zt_cf g W cmp t.1 = true → t.1 ≠ 0 := fun hc e => by
        rw [e] at hc
        unfold zt_cf at hc
        rw [if_neg (by decide)] at hc
        repeat' split at hc
        all_goals exact absurd hc (by decide)
      have k85 : ∀ y0 : Int, (t.1 = 14 ∧ y0 = 0 ∨ t.1 ≠ 14 ∧ y0 = 1) → zk_K 48 85 [.inr (.inr (.inl 44)), .inr (.inr (.inl 42)), .inr (.inr (.inl k)), .inl (law : Int), .inr (.inr (.inr 0)), .inr (.inr (.inr 0)), .inl ((301 : Int) - (n + 1 : Nat))] [.inl y0] ν (zk_RV BV) := fun y0 hy => by
        refine t_Rea_readLaw_85 hk ?_
        rw [h42]
        refine ⟨fun n15 => sp_readSign hk hlaw ha hL hI h300 (fun hc ν5 z5 c0 c1 => bad y0 0 1 ν5 (iB hc) (by decide) z5 c0 c1) (fun hc ν5 z5 d42 c0 c1 hL5 => ?_), fun e15 => sp_readSign hk hlaw ha hL hI h300 (fun hc ν5 z5 c0 c1 => bad y0 1 1 ν5 (iB hc) (by decide) z5 c0 c1) (fun hc ν5 z5 d42 c0 c1 hL5 => ?_)⟩
        · obtain ⟨s1, s2, s3, s4⟩ := zt_sgn (c := t.1) hI hc
          by_cases c14 : t.1 = 14
          · obtain ⟨W', hW', hI'⟩ := s2 c14
            have y00 : y0 = 0 := by omega
            rw [y00]
            have ecm : zt_cm cmp t.1 = cmp := by
              unfold zt_cm
              rw [if_neg (by omega), if_neg (by omega)]
            rw [if_pos c14, hW', List.tail_cons, ecm] at hL5
            rw [hW', List.length_cons] at s1
            exact good false W' cmp (zt_st (zt_rk t.1) W l).2 ν5 (by rw [zt_law, if_neg (by simp [hc]), if_pos c14, hW']; rfl) (cf0 hc) z5 d42 c0 c1 hL5 hI' (by omega)
          · have y01 : y0 = 1 := by omega
            have c15 : t.1 ≠ 15 := by omega
            rw [y01]
            rw [if_neg c14, if_neg c15] at hL5
            exact good true _ _ (zt_st (zt_rk t.1) W l).2 ν5 (by rw [zt_law, if_neg (by simp [hc]), if_neg c14, if_neg c15]) (cf0 hc) z5 d42 c0 c1 hL5 (s4 c14 c15) (by rw [List.length_cons]; omega)
        · have c15 : t.1 = 15 := by omega
          obtain ⟨s1, s2, s3, s4⟩ := zt_sgn (c := t.1) hI hc
          have r0 := (s3 c15).1
          have eR := i0 c15 hc
          rw [eR] at hok
          rw [r0] at s1 hL5
          refine ⟨fun q => absurd c0 q, fun _ => adv ν5 (cf0 hc) z5 d42 c0 c1 (fun μ7 z7 f7 a7 tf7 p7 => ⟨by omega, ex _ _ _ _ (Or.inr (by decide)) (hok rfl μ7 f7 a7 tf7 ?_ (show t.2.2.1 < (zt_tok f len t.2.2.2).2.2.1 by omega) ?_ ?_)⟩)⟩
          · show (o0 ++ (zt_st (zt_rk t.1) W l).2).length ≤ (zt_tok f len t.2.2.2).2.2.1
            rw [List.length_append]
            rw [List.length_nil] at s1
            omega
          · rw [z7 k (by simp; omega)]
            exact hL5.2.2.2.2.2.1
          · rw [z7 (k + 2) (by simp; omega)]
            exact hL5.2.2.2.2.2.2
      refine t_Rea_readLaw_34 hk ⟨fun q => by omega, fun _ => ⟨fun q => absurd a00 q, fun _ => ⟨fun q => absurd rfl q, fun _ => ⟨fun _ => ?_, fun q => absurd rfl q⟩⟩⟩⟩
      rw [h42]
      exact ⟨fun q => k85 0 (Or.inl ⟨by omega, rfl⟩), fun q => k85 1 (Or.inr ⟨by omega, rfl⟩)⟩
end
