/-! procession on the class's side *-/
theorem zp_h_r (l : List Nat) (i : Nat) : ∀ k, zp_h l i k ≤ k
  | 0 => Nat.le_refl _
  | k + 1 => by
    rw [zp_h]
    split
    · exact Nat.le_refl _
    · exact Nat.le_trans (zp_h_r l i k) (Nat.le_succ k)
section
variable {μ : zk_M} {BV : zk_M → Prop} {B : Int → zk_M → Prop} {l : List Nat} {n : Nat}
theorem sp_swap {i j : Nat} (hi : i < l.length) (hj : j < l.length) (hl : l.length ≤ 6) (h : zp_rp (μ 54) l) (hB : ∀ μ', zq [54] μ μ' → zp_rp (μ' 54) (zp_sw l i j) → BV μ') : zk_C 31 [.inr (.inr (.inl 52)), .inl (i : Int), .inl (j : Int)] μ (zk_RV BV) :=
  c_Mar_swap ⟨fun q => by omega, fun _ => ⟨fun q => by omega, fun _ => ⟨fun q => by omega, fun _ => ⟨fun q => by omega, fun _ => ⟨by omega, by omega, by omega, by omega, hB _ (((zq.rf _ _).set (by decide) _ _).set (by decide) _ _) (zp_rp_sw h hi hj)⟩⟩⟩⟩⟩
theorem sp_ordAt {k : Nat} (hk : k < l.length) (h6 : l.length ≤ 6) (hr : zp_rp (μ 54) l) (h : B ((l.getD k 0 : Nat) : Int) μ) : zk_C 255 [.inr (.inr (.inl 52)), .inl (k : Int)] μ (zk_RI B) := by
  refine c_Mar_orderAt ⟨fun q => by omega, fun _ => ⟨fun q => by omega, fun _ => ⟨by omega, ?_⟩⟩⟩
  rw [hr k hk]
  exact h
theorem sp_revC : ∀ (f : Nat) (l : List Nat) (lo hi : Nat) (μ : zk_M), l.length ≤ 6 → hi < l.length → hi < lo + 2 * f → zp_rp (μ 54) l → (∀ μ', zq [54] μ μ' → zp_rp (μ' 54) (zp_v f l lo hi) → B 1 μ') → zk_K 30 87 [.inr (.inr (.inl 52)), .inr (.inr (.inr 0)), .inr (.inr (.inr 0)), .inl (lo : Int), .inl (hi : Int)] [] μ (zk_RI B)
  | 0, l, lo, hi, μ, h6, hh, hf, hr, hB => t_Mar_turn_87 ⟨fun _ => hB μ (zq.rf _ _) hr, fun q => absurd (by omega) q⟩
  | f + 1, l, lo, hi, μ, h6, hh, hf, hr, hB => by
    rw [zp_v] at hB
    refine t_Mar_turn_87 ⟨fun q => ?_, fun q => sp_swap (by omega) hh h6 hr (fun μ1 z1 r1 => ⟨by omega, by omega, ?_⟩)⟩
    · rw [if_neg (by omega)] at hB
      exact hB μ (zq.rf _ _) hr
    · rw [if_pos (by omega)] at hB
      have k := sp_revC f (zp_sw l lo hi) (lo + 1) (hi - 1) μ1 (by rw [zp_sw_len]; exact h6) (by rw [zp_sw_len]; omega) (by omega) r1 (fun μ' z r => hB μ' (z1.tr z) r)
      rw [show ((hi - 1 : Nat) : Int) = (hi : Int) + -1 by omega] at k
      exact k
theorem sp_turnC (hn : l.length = n) (h6 : n ≤ 6) (h1 : μ 52 1 = (n : Int)) (hr : zp_rp (μ 54) l) (h0 : zp_n n l = none → B 0 μ) (hB : ∀ l', zp_n n l = some l' → ∀ μ', zq [54] μ μ' → zp_rp (μ' 54) l' → B 1 μ') : zk_C 30 [.inr (.inr (.inl 52))] μ (zk_RI B) := by
  have hi : ∀ i, i + 1 < n → zp_r l (n - 1) = some i → ∀ k, i ≤ k → k < n → zp_h l i k = zp_h l i (n - 1) → zk_K 30 45 [.inr (.inr (.inl 52)), .inl (i : Int), .inl (k : Int), .inr (.inr (.inr 0)), .inr (.inr (.inr 0))] [] μ (zk_RI B) := by
    intro i hi hz
    have fin : ∀ k, k < n → k = zp_h l i (n - 1) → zk_C 31 [.inr (.inr (.inl 52)), .inl (i : Int), .inl (k : Int)] μ (zk_RV fun μ1 => ((-2147483648 : Int) ≤ ((i : Int) + 1) ∧ (((i : Int) + 1) : Int) ≤ 2147483647) ∧ (((-2147483648 : Int) ≤ ((μ1 52 1) - 1) ∧ (((μ1 52 1) - 1) : Int) ≤ 2147483647) ∧ (zk_K 30 87 [.inr (.inr (.inl 52)), .inr (.inr (.inr 0)), .inr (.inr (.inr 0)), .inl ((i : Int) + 1), .inl ((μ1 52 1) - 1)] [] μ1 (zk_RI B)))) := fun k hk e => by
      refine sp_swap (by omega) (by omega) (by omega) hr (fun μ1 z1 r1 => ?_)
      rw [z1 52 (by decide), h1]
      refine ⟨by omega, by omega, ?_⟩
      have kk := sp_revC (B := B) 6 (zp_sw l i k) (i + 1) (n - 1) μ1 (by rw [zp_sw_len]; omega) (by rw [zp_sw_len]; omega) (by omega) r1 (fun μ' z r => hB _ (by unfold zp_n; rw [hz]) μ' (z1.tr z) (by rw [← e]; exact r))
      rw [show ((n - 1 : Nat) : Int) = (n : Int) - 1 by omega] at kk
      exact kk
    intro k
    induction k with
    | zero =>
      intro hik hk e
      exact t_Mar_turn_45 ⟨fun _ => fin 0 hk e, fun q => by omega⟩
    | succ k ih =>
      intro hik hk e
      rw [zp_h] at e
      refine t_Mar_turn_45 ⟨fun q => fin (k + 1) hk ?_, fun q => sp_ordAt (by omega) (by omega) hr (sp_ordAt (by omega) (by omega) hr ?_)⟩
      · have : k + 1 = i := by omega
        rw [← this] at e
        rw [if_pos (Nat.le_refl _)] at e
        rw [← this]
        exact e
      · refine ⟨fun q2 => fin (k + 1) hk ?_, fun q2 => ⟨by omega, ?_⟩⟩
        · rw [if_pos (by omega)] at e
          exact e
        · rw [if_neg (by omega)] at e
          have := ih (by omega) (by omega) e
          rw [show (((k + 1 : Nat) : Int)) + -1 = (k : Int) by omega]
          exact this
  have rs : ∀ j, j + 1 ≤ n → zp_r l j = zp_r l (n - 1) → zk_K 30 7 [.inr (.inr (.inl 52)), .inl ((j : Int) - 1), .inr (.inr (.inr 0)), .inr (.inr (.inr 0)), .inr (.inr (.inr 0))] [] μ (zk_RI B) := by
    intro j
    induction j with
    | zero =>
      intro hj e
      refine t_Mar_turn_7 ⟨fun q => ⟨fun q2 => by omega, fun _ => h0 ?_⟩, fun q => by omega⟩
      unfold zp_n
      rw [← e]
      rfl
    | succ j ih =>
      intro hj e
      rw [zp_r] at e
      rw [show ((j + 1 : Nat) : Int) - 1 = (j : Int) by omega]
      refine t_Mar_turn_7 ⟨fun q => by omega, fun _ => sp_ordAt (by omega) (by omega) hr ⟨by omega, ?_⟩⟩
      rw [show (j : Int) + 1 = ((j + 1 : Nat) : Int) by omega]
      refine sp_ordAt (by omega) (by omega) hr ?_
      rw [h1]
      refine ⟨fun q2 => ⟨fun _ => ⟨by omega, ?_⟩, fun q => by omega⟩, fun q2 => ⟨by omega, ?_⟩⟩
      · rw [if_pos (by omega)] at e
        have := hi j (by omega) e.symm (n - 1) (by omega) (by omega) rfl
        rw [show ((n - 1 : Nat) : Int) = (n : Int) - 1 by omega] at this
        exact this
      · rw [if_neg (by omega)] at e
        exact ih (by omega) e
  refine c_Mar_turn ?_
  rw [h1]
  refine ⟨by omega, ?_⟩
  by_cases q : n = 0
  · subst q
    refine t_Mar_turn_7 ⟨fun q => ⟨fun q2 => absurd q2 (by decide), fun _ => h0 ?_⟩, fun q => absurd (by decide) q⟩
    rfl
  · have := rs (n - 1) (by omega) rfl
    rw [show ((n - 1 : Nat) : Int) - 1 = (n : Int) - 2 by omega] at this
    exact this
theorem sp_veilAt {w : Int → Int} {k : Nat} (hk : k < l.length) (h6 : l.length ≤ 6) (hx : ∀ x ∈ l, x < n) (hn6 : n ≤ 6) (hr : zp_rp (μ 54) l) (hw : ∀ o : Nat, o < n → μ 53 o = w o) (h : B (w (l.getD k 0 : Nat)) μ) : zk_C 29 [.inr (.inr (.inl 52)), .inl (k : Int)] μ (zk_RI B) := by
  have hm : l.getD k 0 < n := hx _ (List.mem_of_getElem? (zg_get hk))
  refine c_Mar_veilAt (sp_ordAt hk h6 hr ?_)
  refine ⟨fun q => by omega, fun _ => ⟨fun q => by omega, fun _ => ⟨by omega, ?_⟩⟩⟩
  rw [hw _ hm]
  exact h
theorem sp_gStep {w : Int → Int} (hl : l.length = n) (hn6 : n ≤ 6) (hx : ∀ x ∈ l, x < n) (h1 : μ 52 1 = (n : Int)) (hr : zp_rp (μ 54) l) (hw : ∀ o : Nat, o < n → μ 53 o = w o) (hw2 : ∀ o : Nat, 0 ≤ w o ∧ w o ≤ 10000) (hy : zp_g w l (n - 1) < μ 52 0 → B (zp_g w l (n - 1)) μ) (hn : ∀ s : Int, ¬ zp_g w l (n - 1) < μ 52 0 → μ 52 0 ≤ s → B s μ) : zk_C 28 [.inr (.inr (.inl 52))] μ (zk_RI B) := by
  have fin : B (zp_g w l (n - 1)) μ := by
    by_cases q : zp_g w l (n - 1) < μ 52 0
    · exact hy q
    · exact hn _ q (by omega)
  have lp : ∀ k, k ≤ n - 1 → zk_K 28 4 [.inr (.inr (.inl 52)), .inl (zp_g w l k), .inl ((k : Int) + 1)] [] μ (zk_RI B) := by
    refine zl_up (t_Mar_greatestStep_4 ⟨fun _ => fin, fun q => absurd (by omega) q⟩) (fun k hk ih => ?_)
    have g1 := zp_g_r (w := w) (l := l) hw2 k
    have w1 := hw2 (l.getD (k + 1) 0)
    have w2 := hw2 (l.getD k 0)
    refine t_Mar_greatestStep_4 ⟨fun q => by omega, fun _ => ⟨fun q => hn _ ?_ q, fun q => ?_⟩⟩
    · have := zp_g_mono (w := w) (l := l) (n := k) (n - 1) (by omega)
      omega
    · rw [show (k : Int) + 1 = ((k + 1 : Nat) : Int) by omega]
      refine sp_veilAt (by omega) (by omega) hx hn6 hr hw ⟨by omega, ?_⟩
      rw [show ((k + 1 : Nat) : Int) - 1 = (k : Int) by omega]
      exact sp_veilAt (by omega) (by omega) hx hn6 hr hw ⟨by omega, by omega, by omega, ih⟩
  exact c_Mar_greatestStep (lp 0 (Nat.zero_le _))
/-- the orders from l on -/
theorem sp_arr {w : Int → Int} (hn6 : n ≤ 6) (hw2 : ∀ o : Nat, 0 ≤ w o ∧ w o ≤ 10000) : ∀ (f : Nat) (l : List Nat) (a : Int) (b : List Nat) (μ : zk_M), f ≤ 720 → zp_e n f l = true → μ 52 1 = (n : Int) → μ 52 0 = a → zp_rp (μ 54) l → (∀ o : Nat, o < n → μ 53 o = w o) → (a = 1000000 ∨ b.length = n ∧ zp_rp (μ 55) b) → (∀ μ', zq [52, 54, 55] μ μ' → μ' 52 1 = (n : Int) → μ' 52 0 = (zp_go w n f l a b).1 → (zp_go w n f l a b).2.length = n → zp_rp (μ' 55) (zp_go w n f l a b).2 → BV μ') → zk_K 26 59 [.inr (.inr (.inl 52)), .inr (.inr (.inr 0)), .inr (.inr (.inr 0)), .inl 1, .inl ((720 : Int) - f), .inr (.inr (.inr 0))] [] μ (zk_RV BV)
  | 0, l, a, b, μ, _, he, _, _, _, _, _, _ => absurd he (by simp [zp_e])
  | f + 1, l, a, b, μ, hf, he, h1, h0, hr, hw, hab, hB => by
    rw [zp_e, Bool.and_eq_true] at he
    obtain ⟨hok, he⟩ := he
    unfold zp_ok at hok
    rw [Bool.and_eq_true] at hok
    have hl : l.length = n := by simpa using hok.1
    have hx : ∀ x ∈ l, x < n := by simpa using hok.2
    have gr := zp_g_r (w := w) (l := l) hw2 (n - 1)
    have cont : ∀ (a' : Int) (b' : List Nat) (μ1 : zk_M), zq [52, 54, 55] μ μ1 → μ1 52 1 = (n : Int) → μ1 52 0 = a' → zp_rp (μ1 54) l → (∀ o : Nat, o < n → μ1 53 o = w o) → (b'.length = n ∧ zp_rp (μ1 55) b') → (zp_n n l = none → zp_go w n (f + 1) l a b = (a', b')) → (∀ l', zp_n n l = some l' → zp_go w n (f + 1) l a b = zp_go w n f l' a' b') → zk_C 30 [.inr (.inr (.inl 52))] μ1 (zk_RI fun r6 μ5 => ((-2147483648 : Int) ≤ (((720 : Int) - (f + 1 : Nat)) + 1) ∧ ((((720 : Int) - (f + 1 : Nat)) + 1) : Int) ≤ 2147483647) ∧ (zk_K 26 59 [.inr (.inr (.inl 52)), .inr (.inr (.inr 0)), .inr (.inr (.inr 0)), .inl r6, .inl (((720 : Int) - (f + 1 : Nat)) + 1), .inr (.inr (.inr 0))] [] μ5 (zk_RV BV))) := by
      intro a' b' μ1 z1 k1 k0 kr kw kb g0 g1
      refine sp_turnC hl hn6 k1 kr (fun hz => ⟨by omega, ?_⟩) (fun l' hz μ2 z2 r2 => ⟨by omega, ?_⟩)
      · have e := g0 hz
        rw [e] at hB
        exact t_Mar_arrange_59 ⟨fun q => hB μ1 z1 k1 k0 kb.1 kb.2, fun _ => ⟨fun _ => hB μ1 z1 k1 k0 kb.1 kb.2, fun q => absurd rfl q⟩⟩
      · have e := g1 l' hz
        rw [e] at hB
        rw [hz] at he
        have k := sp_arr hn6 hw2 f l' a' b' μ2 (by omega) he (by rw [z2 52 (by decide)]; exact k1) (by rw [z2 52 (by decide)]; exact k0) r2 (fun o ho => by rw [z2 53 (by decide)]; exact kw o ho) (Or.inr ⟨kb.1, by rw [z2 55 (by decide)]; exact kb.2⟩) (fun μ' z' q1 q0 q3 q4 => hB μ' (z1.tr ((z2.up (by decide)).tr z')) q1 q0 q3 q4)
        rw [show (720 : Int) - f = ((720 : Int) - (f + 1 : Nat)) + 1 by omega] at k
        exact k
    refine t_Mar_arrange_59 ⟨fun q => by omega, fun _ => ⟨fun q => absurd q (by decide), fun _ => sp_gStep hl hn6 hx h1 hr hw hw2 (fun q => ⟨fun q2 => by omega, fun _ => ?_⟩) (fun s q q2 => ⟨fun _ => ?_, fun q3 => absurd q2 q3⟩)⟩⟩
    · rw [h0] at q
      refine cont (zp_g w l (n - 1)) l _ ?_ ?_ ?_ ?_ ?_ ⟨hl, fun i hi => ?_⟩ (fun hz => ?_) (fun l' hz => ?_)
      · intro c hc
        have c5 : c ≠ 55 := fun e => hc (by simp [e])
        have c2 : c ≠ 52 := fun e => hc (by simp [e])
        funext j
        simp only [zk_cpy, if_neg c5]
        rw [zk_set_o c2]
      · show zk_set μ 52 0 (zp_g w l (n - 1)) 52 1 = _
        rw [zk_set_n (by decide)]
        exact h1
      · show zk_set μ 52 0 (zp_g w l (n - 1)) 52 0 = _
        rw [zk_set_s]
      · intro i hi
        show zk_set μ 52 0 (zp_g w l (n - 1)) 54 i = _
        rw [zk_set_o (by decide)]
        exact hr i hi
      · intro o ho
        show zk_set μ 52 0 (zp_g w l (n - 1)) 53 o = _
        rw [zk_set_o (by decide)]
        exact hw o ho
      · simp only [zk_cpy, if_true]
        rw [if_pos (by omega), zk_set_o (by decide), show (0 : Int) + ((i : Int) - 0) = i by omega]
        exact hr i hi
      · rw [zp_go, hz]
        exact if_pos q
      · rw [zp_go, hz]
        exact if_pos q
    · rw [h0] at q
      have ha : a ≠ 1000000 := by omega
      refine cont a b μ (zq.rf _ _) h1 h0 hr hw (by rcases hab with p | p; exact absurd p ha; exact p) (fun hz => ?_) (fun l' hz => ?_)
      · rw [zp_go, hz]
        exact if_neg q
      · rw [zp_go, hz]
        exact if_neg q
end
