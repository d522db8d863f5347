/-! signs that wait are joined; faults; what can follow *-/
section
variable {μ : zk_M} {BV : zk_M → Prop} {B : Int → zk_M → Prop} {f : Nat → Int} {len k : Nat} {o : List (Int × Int)} {W : List Nat} {cmp g : Bool} {t : zt_T}
theorem sp_settleK {r : Nat} (hr : 1 ≤ r) (hk : k = 26 ∨ k = 30 ∨ k = 34 ∨ k = 38) : ∀ (W : List Nat) (o : List (Int × Int)) (i : Nat) (μ : zk_M), zt_L μ k o W cmp → zt_wok W → zt_op W ≤ 8 → i + W.length ≤ 31 → o.length + W.length ≤ 300 → (∀ μ', zt_lf k μ μ' → μ' 42 = μ 42 → μ' 44 0 = μ 44 0 → μ' 44 1 = μ 44 1 → zt_L μ' k (zt_st r W o).2 (zt_st r W o).1 cmp → BV μ') → zk_K 55 2 [.inr (.inr (.inl 44)), .inr (.inr (.inl k)), .inl (r : Int), .inl (i : Int)] [] μ (zk_RV BV)
  | [], o, i, μ, h, _, _, hi, _, hB => by
    have h1 : μ 44 5 = 0 := h.1
    exact t_Rea_settle_2 hk ⟨fun q => by omega, fun _ => ⟨fun _ => hB μ (zt_lf.rf _ _) rfl rfl rfl h, fun q => by omega⟩⟩
  | s :: W, o, i, μ, h, hw, h8, hi, ho, hB => by
    have h1 := h.1
    have hl := zt_wok_29 hw h8
    rw [List.length_cons] at h1 hi ho hl
    refine t_Rea_settle_2 hk ⟨fun q => by omega, fun _ => ⟨fun q => by omega, fun _ => sp_lastW h (by rw [List.length_cons]; exact hl) (sp_rank ⟨fun q => ?_, fun q => sp_lastW h (by rw [List.length_cons]; exact hl) ?_⟩)⟩⟩
    · rw [List.headD_cons] at q
      rw [zt_st_n (by omega)] at hB
      exact hB μ (zt_lf.rf _ _) rfl rfl rfl h
    · rw [List.headD_cons] at q ⊢
      have q' : r ≤ zt_rk s := by omega
      have s13 : s ≠ 13 := fun e => by
        rw [e] at q'
        have : zt_rk 13 = 0 := by decide
        omega
      have he := zt_enc hw.2 s13
      rw [zt_not s he.2, ← he.1]
      refine sp_add hk h (by omega) (fun μ1 z1 a42 a44 hL => sp_drop (hL _ rfl) hk (by rw [List.length_cons]; exact hl) h8 (fun μ2 z2 b42 b0 b1 hL2 => ⟨by omega, ?_⟩))
      rw [zt_st, if_pos q'] at hB
      have op : zt_op W ≤ 8 := by rw [zt_op] at h8; omega
      exact sp_settleK hr hk W (o ++ [(zt_o s, 0)]) (i + 1) μ2 hL2 hw.1 op (by omega) (by rw [List.length_append, List.length_singleton]; omega) (fun μ' z' c42 c0 c1 hL3 => hB μ' (z1.tr (z2.tr z')) (c42.trans (b42.trans a42)) (by rw [c0, b0, a44]) (by rw [c1, b1, a44]) hL3)
theorem sp_push {ν : zk_M} {s : Nat} (hk : k = 26 ∨ k = 30 ∨ k = 34 ∨ k = 38) (h : zt_L μ k o W cmp) (hl : W.length ≤ 29) (z : zq [44] μ ν) (hn : ∀ i : Int, i ≠ 6 → i ≠ 7 → ν 44 i = μ 44 i) (h6 : ν 44 6 = (zt_op (s :: W) : Int)) (h7 : ν 44 7 = (zt_br (s :: W) : Int)) (hB : ∀ ν', zt_lf k μ ν' → ν' 42 = μ 42 → ν' 44 0 = μ 44 0 → ν' 44 1 = μ 44 1 → zt_L ν' k o (s :: W) cmp → BV ν') : zk_C 57 [.inr (.inr (.inl 44)), .inl (s : Int)] ν (zk_RV BV) := by
  have e5 : ν 44 5 = (W.length : Int) := by rw [hn 5 (by decide) (by decide)]; exact h.1
  refine c_Rea_await ⟨fun q => by omega, fun _ => ⟨fun q => by omega, fun _ => ⟨by omega, by omega, ?_⟩⟩⟩
  rw [e5]
  have y : zq [44, 45] μ (zk_set (zk_set ν 45 (W.length : Int) (s : Int)) 44 5 ((W.length : Int) + 1)) := ((z.up (by simp)).set (by simp) _ _).set (by simp) _ _
  have n44 : ∀ i : Int, i ≠ 5 → i ≠ 6 → i ≠ 7 → zk_set (zk_set ν 45 (W.length : Int) (s : Int)) 44 5 ((W.length : Int) + 1) 44 i = μ 44 i := fun i i5 i6 i7 => by rw [zk_set_n i5, zk_set_o (by decide)]; exact hn i i6 i7
  refine hB _ ⟨y.up (by simp), fun i hi => by rw [y k (by simp; omega)], n44 2 (by decide) (by decide) (by decide), n44 3 (by decide) (by decide) (by decide), by rw [y 42 (by decide)]⟩ (y 42 (by decide)) (n44 0 (by decide) (by decide) (by decide)) (n44 1 (by decide) (by decide) (by decide)) (zt_L_push h (zk_set_s _ _ _ _) (fun i hi => ?_) ?_ ?_ ?_ (n44 8 (by decide) (by decide) (by decide)) (by rw [y k (by simp; omega)]) (y _ (by simp; omega)))
  · rw [zk_set_o (by decide), zk_set_n hi, z 45 (by decide)]
  · rw [zk_set_o (by decide), zk_set_s]
  · rw [zk_set_n (by decide), zk_set_o (by decide)]
    exact h6
  · rw [zk_set_n (by decide), zk_set_o (by decide)]
    exact h7
/-- a fault is told *-/
theorem sp_blame {kd : Int} (h : zt_at μ f len t) (hk : k = 26 ∨ k = 30 ∨ k = 34 ∨ k = 38) (hB : ∀ μ', zt_lf k μ μ' → zq [44] μ μ' → μ' 44 0 = kd → μ' 44 1 = (t.2.2.1 : Int) → (∀ i : Int, 2 ≤ i → μ' 44 i = μ 44 i) → BV μ') : zk_C 43 [.inr (.inr (.inl 44)), .inr (.inr (.inl 42)), .inl kd] μ (zk_RV BV) := by
  refine c_Rea_blame ⟨fun q => absurd h.1 q, fun _ => ?_⟩
  rw [h.2.2.2.2.1]
  have z : zq [44] μ (zk_set (zk_set μ 44 0 kd) 44 1 (t.2.2.1 : Int)) := ((zq.rf _ _).set (by decide) _ _).set (by decide) _ _
  have n : ∀ i : Int, 2 ≤ i → zk_set (zk_set μ 44 0 kd) 44 1 (t.2.2.1 : Int) 44 i = μ 44 i := fun i hi => by rw [zk_set_n (by omega), zk_set_n (by omega)]
  exact hB _ ⟨z.up (by simp), fun i hi => by rw [z k (by simp; omega)], n 2 (by decide), n 3 (by decide), by rw [z 42 (by decide)]⟩ z (by rw [zk_set_n (by decide), zk_set_s]) (zk_set_s _ _ _ _) n
theorem zt_L_b {μ' : zk_M} (h : zt_L μ k o W cmp) (hk : k = 26 ∨ k = 30 ∨ k = 34 ∨ k = 38) (z : zq [44] μ μ') (n : ∀ i : Int, 2 ≤ i → μ' 44 i = μ 44 i) : zt_L μ' k o W cmp := by
  unfold zt_L at *
  rw [n 5 (by decide), n 6 (by decide), n 7 (by decide), n 8 (by decide), z 45 (by decide), z k (by simp; omega), z (k + 2) (by simp; omega)]
  exact h
theorem sp_canFollow {c law : Nat} (h : zt_L μ k o W cmp) (hlaw : (law = 16 ∧ g = false) ∨ (law = 17 ∧ g = true)) (hy : zt_cf g W cmp c = true → B 1 μ) (hn : zt_cf g W cmp c = false → B 0 μ) : zk_C 52 [.inr (.inr (.inl 44)), .inl (c : Int), .inl (law : Int)] μ (zk_RI B) := by
  have h7 := h.2.2.2.1
  have h8 := h.2.2.2.2.1
  unfold zt_cf at hy hn
  have rest : ¬ (9 ≤ c ∧ c ≤ 12) → ((μ 44 7) ≤ 0 → ((¬ (law : Int) = 16 → (((μ 44 8) = 0 → (zk_C 53 [.inl (c : Int)] μ (zk_RI fun r2 μ1 => ((r2 : Int) = 0 ∨ (r2 : Int) = 1) ∧ (B r2 μ1)))) ∧ (¬ (μ 44 8) = 0 → (((c : Int) = 24 → (B 1 μ)) ∧ (¬ (c : Int) = 24 → (((c : Int) = 25 → (B 1 μ)) ∧ (¬ (c : Int) = 25 → ((¬ (c : Int) = 15 → (B 0 μ)) ∧ ((c : Int) = 15 → (B 1 μ)))))))))) ∧ ((law : Int) = 16 → ((¬ (c : Int) = 15 → (B 0 μ)) ∧ ((c : Int) = 15 → (B 1 μ)))))) ∧ (¬ ((μ 44 7) ≤ 0) → ((¬ (c : Int) = 14 → (B 0 μ)) ∧ ((c : Int) = 14 → (B 1 μ)))) := fun q => by
    rw [if_neg q] at hy hn
    refine ⟨fun b0 => ?_, fun b0 => ?_⟩
    · rw [if_neg (by omega)] at hy hn
      refine ⟨fun l16 => ?_, fun l16 => ?_⟩
      · have g1 : g = true := by rcases hlaw with p | p; omega; exact p.2
        subst g1
        rw [if_neg (by decide)] at hy hn
        cases cmp with
        | false =>
          rw [if_neg (by decide)] at hy hn
          refine ⟨fun _ => c_Rea_isComparison ⟨fun p => ⟨Or.inl rfl, hn (by simp; omega)⟩, fun p => ⟨fun p2 => ⟨Or.inl rfl, hn (by simp; omega)⟩, fun p2 => ⟨Or.inr rfl, hy (by simp; omega)⟩⟩⟩, fun p => absurd h8 p⟩
        | true =>
          rw [if_pos rfl] at hy hn
          refine ⟨fun p => by rw [h8] at p; exact absurd p (by decide), fun _ => ⟨fun p => hy (by simp; omega), fun p1 => ⟨fun p => hy (by simp; omega), fun p2 => ⟨fun p => hn (by simp; omega), fun p => hy (by simp; omega)⟩⟩⟩⟩
      · have g0 : g = false := by rcases hlaw with p | p; exact p.2; omega
        rw [if_pos g0] at hy hn
        exact ⟨fun p => hn (by simp; omega), fun p => hy (by simp; omega)⟩
    · rw [if_pos (by omega)] at hy hn
      exact ⟨fun p => hn (by simp; omega), fun p => hy (by simp; omega)⟩
  refine c_Rea_canFollow ⟨fun q => rest (by omega), fun q => ⟨fun q2 => rest (by omega), fun q2 => ?_⟩⟩
  rw [if_pos (by omega)] at hy
  exact hy rfl
end
