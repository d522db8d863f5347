/-! the law from its entry *-/
theorem zk_Ok.imp {mid N1 pc : Nat} {ls st : List zk_V} {S : zk_S} {Q Q' : Option zk_V → zk_S → Prop} (h : zk_Ok mid N1 pc ls st S Q) (hq : ∀ v S', Q v S' → Q' v S') : zk_Ok mid N1 pc ls st S Q' := by
  intro g p l e R s m args below meth c Z C hr
  exact h g p l e R s m args below meth c Z C (fun v S' H locs cells slots pc' la h1 => hr v S' H locs cells slots pc' la (hq v S' h1))
/-- Model's constructor from its last rows on -/
theorem zw_tail {μ : zk_M} {Q : Option zk_V → zk_S → Prop} (h : ∀ ν, zq [62] (zk_set μ 61 4 (-1)) ν → (∀ i : Int, 0 ≤ i → i < 2026 → ν 62 i = zk_set μ 61 4 (-1) 61 i) → Q none (80, zk_rho, ν)) : zk_Ok 145 60 181 [.inr (.inr (.inl 60))] [] (80, zk_rho, μ) Q := by
  have e1 : ∀ m : zk_M, zk_fv (80, zk_rho, m) 60 (zk_ft 12 0) ((0 : Nat) : Int) = .inr (.inr (.inl 61)) := fun _ => rfl
  have e2 : ∀ m : zk_M, zk_fv (80, zk_rho, m) 60 (zk_ft 12 1) ((1 : Nat) : Int) = .inr (.inr (.inl 62)) := fun _ => rfl
  refine zk_r_aload_n (j := 0) (zy_dd (by decide +kernel)) rfl rfl ?_
  refine zk_r_getf (idx := 7) (ci := 12) (i := 0) (zy_dd (by decide +kernel)) (by decide +kernel) (by decide +kernel) (by decide) (show 60 ≤ 80 by decide) ?_
  rw [e1]
  refine zk_r_iconst (n := 4) (zy_dd (by decide +kernel)) ⟨by decide, by decide⟩ ?_
  refine zk_r_iconst (n := -1) (zy_dd (by decide +kernel)) ⟨by decide, by decide⟩ ?_
  refine zk_r_iast (k := 61) (i := 4) (x := -1) (zy_dd (by decide +kernel)) (by decide +kernel) (by decide) (show 61 ≤ 80 by decide) (by decide) (by decide +kernel) ?_
  show zk_Ok 145 60 188 _ [] (80, zk_rho, zk_set μ 61 4 (-1)) Q
  refine zk_r_aload_n (j := 0) (zy_dd (by decide +kernel)) rfl rfl ?_
  refine zk_r_getf (idx := 7) (ci := 12) (i := 0) (zy_dd (by decide +kernel)) (by decide +kernel) (by decide +kernel) (by decide) (show 60 ≤ 80 by decide) ?_
  rw [e1]
  refine zk_r_aload_n (j := 0) (zy_dd (by decide +kernel)) rfl rfl ?_
  refine zk_r_getf (idx := 13) (ci := 12) (i := 1) (zy_dd (by decide +kernel)) (by decide +kernel) (by decide +kernel) (by decide) (show 60 ≤ 80 by decide) ?_
  rw [e2]
  have hc := sp_mimg (μ := zk_set μ 61 4 (-1)) (BV := fun ν => zq [62] (zk_set μ 61 4 (-1)) ν ∧ ∀ i : Int, 0 ≤ i → i < 2026 → ν 62 i = zk_set μ 61 4 (-1) 61 i) (fun ν a b => ⟨a, b⟩)
  unfold zk_C at hc
  refine zk_r_invS (idx := 79) (callee := 146) (as := [.inr (.inr (.inl 61)), .inr (.inr (.inl 62))]) (st := []) (zy_dd (by decide +kernel)) (by decide +kernel) (by decide +kernel) (by decide +kernel) (by decide +kernel) (by decide +kernel) (by decide +kernel) (by decide +kernel) (show 80 + zk_mc 146 ≤ 60 + zk_mc 145 by decide +kernel) (show zk_SZ 80 + zk_ms 146 ≤ zk_SZ 60 + zk_ms 145 by decide +kernel) hc ?_
  rintro v S' ⟨ν, rfl, hv⟩
  match v, hv with
  | none, hv =>
    refine zk_r_ret (v := none) (h ν hv.1 hv.2) ⟨zy_dd (by decide +kernel), by decide +kernel⟩ (show 80 = 60 + zk_mc 145 by decide +kernel) (show zk_SZ 80 = zk_SZ 60 + zk_ms 145 by decide +kernel)
theorem zw_cm {base : zk_M} (hb : ∀ c i, 1 ≤ c → base c i = 0) {x2 : List ((Nat × Nat) × Nat) × List ((Nat × Nat) × Int)} {y : zk_X} (hx : zk_cx 3000 145 60 (some 181) (zk_ctor 145) [.inr (.inr (.inl 60))] [] (60, x2) = some (y, some [.inr (.inr (.inl 60))])) (hy : zw_fin y = true) : zk_Ct 145 [.inr (.inr (.inl 60))] (zk_st base (60, x2)) (fun v S' => v = none ∧ ∃ ν, S' = (80, zk_rho, ν) ∧ zq [62] (zk_set (zk_mF base y.2.2) 61 4 (-1)) ν ∧ ∀ i : Int, 0 ≤ i → i < 2026 → ν 62 i = zk_set (zk_mF base y.2.2) 61 4 (-1) 61 i) := by
  refine zk_enter (by decide +kernel) (by decide +kernel) (fun _ => by decide +kernel) ?_
  have k := zk_cx_sound hb 3000 145 60 (some 181) (zk_ctor 145) [.inr (.inr (.inl 60))] [] (60, x2) (y, some [.inr (.inr (.inl 60))]) 0 (by decide +kernel) hx
  refine k _ 181 rfl ?_
  show zk_Ok 145 60 181 [.inr (.inr (.inl 60))] [] (y.1, zk_rF y.2.1, zk_mF base y.2.2) _
  rw [(zw_fin_of hy).1, zw_rF hy]
  exact zw_tail (fun ν a b => ⟨rfl, ν, rfl, a, b⟩)
theorem zw_cv {ν : zk_M} {k a : Nat} (k0 : ν k 0 = 0) (k1 : ν k 1 = 0) (k2 : ν k 2 = -1) (r0 : ν (k + 2) 30 = 0) (r1 : ν (k + 2) 31 = 0) (s1 : ν (k + 2 + 1) 1 = 0) (s2 : ν (k + 2 + 1) 2 = 0) (d3 : ν (k + 5) 3 = 0) (a0 : ν a 0 = 0) (a1 : ν a 1 = 0) (a2 : ν a 2 = 0) (a3 : ν a 3 = 0) (a4 : ν a 4 = -1) (a5 : ν a 5 = 0) (a6 : ν a 6 = 0) : zi_cv ν k a := by
  unfold zi_cv
  rw [k0, k1, k2, a0, a3, a4]
  refine ⟨by decide, by decide, by decide, ⟨((0, 0, fun _ => (0, 0, 0, 0)), []), ⟨⟨r0, r1, fun n h => absurd h (Nat.not_lt_zero n)⟩, 0, by decide, s1, s2, fun j r h => (by cases h)⟩, ⟨a1, a2, fun n h => absurd h (Nat.not_lt_zero n), a5, fun j r h => (by cases h)⟩, ⟨⟨by decide, by decide, fun n h => absurd h (Nat.not_lt_zero n), fun s _ => Nat.zero_le _⟩, by decide, fun j r h => (by cases h), fun i j r q _ h => (by cases h)⟩⟩, ?_⟩
  unfold zi_td
  rw [d3, a6]
  exact ⟨rfl, by decide, by decide, fun i h => by omega⟩
theorem zw_zi {base : zk_M} (hb : ∀ c i, 1 ≤ c → base c i = 0) {y : zk_X} (hy : zw_fin y = true) {ν : zk_M} (z : zq [62] (zk_set (zk_mF base y.2.2) 61 4 (-1)) ν) (c : ∀ i : Int, 0 ≤ i → i < 2026 → ν 62 i = zk_set (zk_mF base y.2.2) 61 4 (-1) 61 i) : zi ν ∧ ν 0 = base 0 := by
  have F : ∀ (k i : Nat), 1 ≤ k → k ≠ 62 → k ≠ 61 → ν k i = zw_e (k, i) := by
    intro k i h1 h2 h3
    rw [z k (by simp [h2]), zk_set_o h3]
    exact zw_mF hb hy h1 i
  have G : ∀ i : Nat, i ≠ 4 → i < 2026 → ν 61 i = 0 ∧ ν 62 i = 0 := by
    intro i h4 h9
    have e : zk_set (zk_mF base y.2.2) 61 4 (-1) 61 i = 0 := by
      rw [zk_set_n (by omega), zw_mF hb hy (by decide) i]
      unfold zw_e
      rw [if_neg]
      simp [zw_sp]
    exact ⟨by rw [z 61 (by decide)]; exact e, by rw [c i (by omega) (by omega)]; exact e⟩
  have e4 : zk_set (zk_mF base y.2.2) 61 4 (-1) 61 4 = -1 := zk_set_e rfl
  have g4 : ν 61 4 = -1 := by rw [z 61 (by decide)]; exact e4
  have g5 : ν 62 4 = -1 := by rw [c 4 (by decide) (by decide)]; exact e4
  refine ⟨⟨?_, ?_, ?_, ?_, ?_, ?_⟩, ?_⟩
  · exact zw_cv (F 2 0 (by decide) (by decide) (by decide)) (F 2 1 (by decide) (by decide) (by decide)) (F 2 2 (by decide) (by decide) (by decide)) (F 4 30 (by decide) (by decide) (by decide)) (F 4 31 (by decide) (by decide) (by decide)) (F 5 1 (by decide) (by decide) (by decide)) (F 5 2 (by decide) (by decide) (by decide)) (F 7 3 (by decide) (by decide) (by decide)) (G 0 (by decide) (by decide)).1 (G 1 (by decide) (by decide)).1 (G 2 (by decide) (by decide)).1 (G 3 (by decide) (by decide)).1 g4 (G 5 (by decide) (by decide)).1 (G 6 (by decide) (by decide)).1
  · exact zw_cv (F 12 0 (by decide) (by decide) (by decide)) (F 12 1 (by decide) (by decide) (by decide)) (F 12 2 (by decide) (by decide) (by decide)) (F 14 30 (by decide) (by decide) (by decide)) (F 14 31 (by decide) (by decide) (by decide)) (F 15 1 (by decide) (by decide) (by decide)) (F 15 2 (by decide) (by decide) (by decide)) (F 17 3 (by decide) (by decide) (by decide)) (G 0 (by decide) (by decide)).2 (G 1 (by decide) (by decide)).2 (G 2 (by decide) (by decide)).2 (G 3 (by decide) (by decide)).2 g5 (G 5 (by decide) (by decide)).2 (G 6 (by decide) (by decide)).2
  · have h := G 3 (by decide) (by decide)
    have h1 : ν 61 3 = 0 := h.1
    have h2 : ν 62 3 = 0 := h.2
    rw [h1, h2]
    exact Int.le_refl _
  · have h1 : ν 42 1 = 0 := F 42 1 (by decide) (by decide) (by decide)
    have h2 : ν 60 4 = 0 := F 60 4 (by decide) (by decide) (by decide)
    unfold zi_tp
    rw [h1, h2]
    exact ⟨rfl, by decide, by decide, fun i h3 h4 => by omega⟩
  · exact ⟨(F 44 0 (by decide) (by decide) (by decide)).trans (F 60 5 (by decide) (by decide) (by decide)).symm, (F 44 1 (by decide) (by decide) (by decide)).trans (F 60 6 (by decide) (by decide) (by decide)).symm⟩
  · intro t ht
    have h1 : ν 61 3 = 0 := (G 3 (by decide) (by decide)).1
    rw [h1] at ht
    omega
  · rw [z 0 (by decide), zk_set_o (by decide)]
    exact zw_mF0 hy
theorem zw_law {base : zk_M} (hb : ∀ c i, 1 ≤ c → base c i = 0) (h0 : 0 ≤ base 0 (-1)) (h9 : base 0 (-1) ≤ 3072) : zk_Ok 258 0 0 [.inr (.inr (.inr 2)), .inr (.inr (.inr 0)), .inr (.inr (.inr 0)), .inr (.inr (.inr 0))] [] (zk_st base (0, [], [])) (fun v _ => v = some (.inl 1)) := by
  obtain ⟨⟨x1, x2⟩, y, hx, hx1, hlow, hy0, hy⟩ := zw_ex
  have hx1 : x1 = 59 := hx1
  subst hx1
  have c1 : zk_Ct 115 [.inr (.inr (.inl 1))] (zk_st base (1, [], [])) (fun v S' => v = none ∧ S' = zk_st base (59, x2)) := by
    refine zk_enter (by decide +kernel) (by decide +kernel) (fun _ => by decide +kernel) ?_
    have k := zk_cx_sound hb 3000 115 1 none (zk_ctor 115) [.inr (.inr (.inl 1))] [] (1, [], []) ((59, x2), none) 0 (by decide +kernel) hx
    exact k _ ⟨rfl, rfl⟩
  refine zk_r_new (idx := 7) (ci := 11) (zy_dd (by decide +kernel)) (by decide +kernel) (by decide) (show zk_sh 1 = 11 by decide +kernel) (show 0 < 80 by decide) (zk_low_r (x := (0, [], [])) rfl hb) (show 0 + 1 ≤ 0 + zk_mc 258 by decide +kernel) (show zk_SZ 1 ≤ zk_SZ 0 + zk_ms 258 by decide +kernel) ?_
  show zk_Ok 258 0 3 _ [.inr (.inr (.inl 1))] (zk_st base (1, [], [])) _
  refine zk_r_dup (zy_dd (by decide +kernel)) (fun _ q => by cases q) ?_
  refine zk_r_invI (idx := 9) (callee := 115) (k := 1) (as := []) (st := [.inr (.inr (.inl 1))]) (zy_dd (by decide +kernel)) (by decide +kernel) (by decide +kernel) (by decide +kernel) (by decide +kernel) (by decide +kernel) (by decide) (by decide +kernel) (by decide +kernel) (by decide +kernel) (by decide +kernel) (show 1 + zk_mc 115 ≤ 0 + zk_mc 258 by decide +kernel) (show zk_SZ 1 + zk_ms 115 ≤ zk_SZ 0 + zk_ms 258 by decide +kernel) c1 ?_
  rintro v S' ⟨rfl, rfl⟩
  show zk_Ok 258 0 7 _ [.inr (.inr (.inl 1))] (zk_st base (59, x2)) _
  refine zk_r_astore_n (j := 1) (zy_dd (by decide +kernel)) rfl (by decide +kernel) (zk_nl_of (by decide +kernel)) ?_
  refine zk_r_new (idx := 10) (ci := 12) (zy_dd (by decide +kernel)) (by decide +kernel) (by decide) (show zk_sh 60 = 12 by decide +kernel) (show 59 < 80 by decide) (zk_low_r (x := (59, x2)) hlow hb) (show 59 + 1 ≤ 0 + zk_mc 258 by decide +kernel) (show zk_SZ 60 ≤ zk_SZ 0 + zk_ms 258 by decide +kernel) ?_
  show zk_Ok 258 0 11 _ [.inr (.inr (.inl 60))] (zk_st base (60, x2)) _
  refine zk_r_dup (zy_dd (by decide +kernel)) (fun _ q => by cases q) ?_
  refine zk_r_invI (idx := 12) (callee := 145) (k := 60) (as := []) (st := [.inr (.inr (.inl 60))]) (zy_dd (by decide +kernel)) (by decide +kernel) (by decide +kernel) (by decide +kernel) (by decide +kernel) (by decide +kernel) (by decide) (by decide +kernel) (by decide +kernel) (by decide +kernel) (by decide +kernel) (show 60 + zk_mc 145 ≤ 0 + zk_mc 258 by decide +kernel) (show zk_SZ 60 + zk_ms 145 ≤ zk_SZ 0 + zk_ms 258 by decide +kernel) (zw_cm hb hy0 hy) ?_
  rintro v S' ⟨rfl, ν, rfl, z, c⟩
  obtain ⟨hi, hs⟩ := zw_zi hb hy z c
  show zk_Ok 258 0 15 _ [.inr (.inr (.inl 60))] (80, zk_rho, ν) _
  refine zk_r_astore_n (j := 2) (zy_dd (by decide +kernel)) rfl (by decide +kernel) (zk_nl_of (by decide +kernel)) ?_
  refine zk_r_iconst (n := 0) (zy_dd (by decide +kernel)) ⟨by decide, by decide⟩ ?_
  refine zk_r_istore_n (j := 3) (zy_dd (by decide +kernel)) (by decide +kernel) (zk_nl_of (by decide +kernel)) ?_
  have k := zl_loop h0 h9 512 0 ν hi hs (by decide) (by decide) (by omega)
  unfold zk_K at k
  refine zk_Ok.imp k ?_
  rintro v S' ⟨μ', rfl, hv⟩
  match v, hv with
  | some (.inl r), hv => exact congrArg (fun q : Int => some (Sum.inl q)) hv
