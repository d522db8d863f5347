/-! procession on the reference's side, and tied *-/
section
variable {μ : zk_M} {BV : zk_M → Prop} {B : Int → zk_M → Prop} {l : List Nat} {n : Nat}
theorem sp_exch {i j : Nat} (hi : i < l.length) (hj : j < l.length) (hl : l.length ≤ 6) (h : zp_rp (μ 74) l) (hB : ∀ μ', zq [74] μ μ' → zp_rp (μ' 74) (zp_sw l i j) → BV μ') : zk_C 225 [.inr (.inr (.inl 60)), .inl (i : Int), .inl (j : Int)] μ (zk_RV BV) :=
  c_Mod_exchange ⟨by omega, by omega, by omega, by omega, hB _ (((zq.rf _ _).set (by decide) _ _).set (by decide) _ _) (zp_rp_sw h hi hj)⟩
theorem sp_revM : ∀ (f : Nat) (l : List Nat) (lo hi : Nat) (μ : zk_M), l.length ≤ 6 → hi < l.length → hi < lo + 2 * f → zp_rp (μ 74) l → (∀ μ', zq [74] μ μ' → zp_rp (μ' 74) (zp_v f l lo hi) → B 1 μ') → zk_K 226 85 [.inr (.inr (.inl 60)), .inr (.inr (.inr 0)), .inr (.inr (.inr 0)), .inr (.inr (.inr 0)), .inl (lo : Int), .inl (hi : Int)] [] μ (zk_RI B)
  | 0, l, lo, hi, μ, h6, hh, hf, hr, hB => t_Mod_nextRow_85 ⟨fun _ => hB μ (zq.rf _ _) hr, fun q => absurd (by omega) q⟩
  | f + 1, l, lo, hi, μ, h6, hh, hf, hr, hB => by
    rw [zp_v] at hB
    refine t_Mod_nextRow_85 ⟨fun q => ?_, fun q => sp_exch (by omega) hh h6 hr (fun μ1 z1 r1 => ⟨by omega, by omega, ?_⟩)⟩
    · rw [if_neg (by omega)] at hB
      exact hB μ (zq.rf _ _) hr
    · rw [if_pos (by omega)] at hB
      have k := sp_revM f (zp_sw l lo hi) (lo + 1) (hi - 1) μ1 (by rw [zp_sw_len]; exact h6) (by rw [zp_sw_len]; omega) (by omega) r1 (fun μ' z r => hB μ' (z1.tr z) r)
      rw [show ((hi - 1 : Nat) : Int) = (hi : Int) + -1 by omega] at k
      exact k
theorem sp_turnM (hn : l.length = n) (h6 : n ≤ 6) (h1 : μ 61 0 = (n : Int)) (hr : zp_rp (μ 74) l) (h0 : zp_n n l = none → B 0 μ) (hB : ∀ l', zp_n n l = some l' → ∀ μ', zq [74] μ μ' → zp_rp (μ' 74) l' → B 1 μ') : zk_C 226 [.inr (.inr (.inl 60))] μ (zk_RI B) := by
  have hi : ∀ i, i + 1 < n → zp_r l (n - 1) = some i → ∀ k, i ≤ k → k < n → zp_h l i k = zp_h l i (n - 1) → zk_K 226 48 [.inr (.inr (.inl 60)), .inl (n : Int), .inl (i : Int), .inl (k : Int), .inr (.inr (.inr 0)), .inr (.inr (.inr 0))] [] μ (zk_RI B) := by
    intro i hi hz
    have fin : ∀ k, k < n → k = zp_h l i (n - 1) → zk_C 225 [.inr (.inr (.inl 60)), .inl (i : Int), .inl (k : Int)] μ (zk_RV fun μ1 => ((-2147483648 : Int) ≤ ((i : Int) + 1) ∧ (((i : Int) + 1) : Int) ≤ 2147483647) ∧ (((-2147483648 : Int) ≤ ((n : Int) - 1) ∧ (((n : Int) - 1) : Int) ≤ 2147483647) ∧ (zk_K 226 85 [.inr (.inr (.inl 60)), .inr (.inr (.inr 0)), .inr (.inr (.inr 0)), .inr (.inr (.inr 0)), .inl ((i : Int) + 1), .inl ((n : Int) - 1)] [] μ1 (zk_RI B)))) := fun k hk e => by
      refine sp_exch (by omega) (by omega) (by omega) hr (fun μ1 z1 r1 => ⟨by omega, by omega, ?_⟩)
      have kk := sp_revM (B := B) 6 (zp_sw l i k) (i + 1) (n - 1) μ1 (by rw [zp_sw_len]; omega) (by rw [zp_sw_len]; omega) (by omega) r1 (fun μ' z r => hB _ (by unfold zp_n; rw [hz]) μ' (z1.tr z) (by rw [← e]; exact r))
      rw [show ((n - 1 : Nat) : Int) = (n : Int) - 1 by omega] at kk
      exact kk
    intro k
    induction k with
    | zero =>
      intro hik hk e
      have : i = 0 := by omega
      subst this
      exact t_Mod_nextRow_48 ⟨by omega, by omega, fun _ => fin 0 hk e, fun q => absurd (Int.le_refl _) q⟩
    | succ k ih =>
      intro hik hk e
      rw [zp_h] at e
      refine t_Mod_nextRow_48 ⟨by omega, by omega, ?_⟩
      rw [hr i (by omega), hr (k + 1) (by omega)]
      refine ⟨fun q2 => fin (k + 1) hk ?_, fun q2 => ⟨by omega, ?_⟩⟩
      · rw [if_pos (by omega)] at e
        exact e
      · rw [if_neg (by omega)] at e
        have ne : i ≠ k + 1 := fun p => by
          rw [← p] at q2
          exact q2 (Int.le_refl _)
        have := ih (by omega) (by omega) e
        rw [show (((k + 1 : Nat) : Int)) + -1 = (k : Int) by omega]
        exact this
  have rs : ∀ j, j + 1 ≤ n → zp_r l j = zp_r l (n - 1) → zk_K 226 11 [.inr (.inr (.inl 60)), .inl (n : Int), .inl ((j : Int) - 1), .inr (.inr (.inr 0)), .inr (.inr (.inr 0)), .inr (.inr (.inr 0))] [] μ (zk_RI B) := by
    intro j
    induction j with
    | zero =>
      intro hj e
      refine t_Mod_nextRow_11 ⟨fun q => ⟨fun q2 => by omega, fun _ => h0 ?_⟩, fun q => by omega⟩
      unfold zp_n
      rw [← e]
      rfl
    | succ j ih =>
      intro hj e
      rw [zp_r] at e
      rw [show ((j + 1 : Nat) : Int) - 1 = (j : Int) by omega]
      refine t_Mod_nextRow_11 ⟨fun q => by omega, fun _ => ⟨by omega, by omega, by omega, ?_⟩⟩
      rw [hr j (by omega), show (j : Int) + 1 = ((j + 1 : Nat) : Int) by omega, hr (j + 1) (by omega)]
      refine ⟨fun q2 => ⟨fun _ => ⟨by omega, ?_⟩, fun q => by omega⟩, fun q2 => ⟨by omega, ?_⟩⟩
      · rw [if_pos (by omega)] at e
        have := hi j (by omega) e.symm (n - 1) (by omega) (by omega) rfl
        rw [show ((n - 1 : Nat) : Int) = (n : Int) - 1 by omega] at this
        exact this
      · rw [if_neg (by omega)] at e
        exact ih (by omega) e
  refine c_Mod_nextRow ?_
  rw [h1]
  refine ⟨by omega, ?_⟩
  by_cases q : n = 0
  · subst q
    refine t_Mod_nextRow_11 ⟨fun q => ⟨fun q2 => absurd q2 (by decide), fun _ => h0 ?_⟩, fun q => absurd (by decide) q⟩
    rfl
  · have := rs (n - 1) (by omega) rfl
    rw [show ((n - 1 : Nat) : Int) - 1 = (n : Int) - 2 by omega] at this
    exact this
theorem sp_gap {w : Int → Int} (hl : l.length = n) (hn6 : n ≤ 6) (hx : ∀ x ∈ l, x < n) (h1 : μ 61 0 = (n : Int)) (hr : zp_rp (μ 74) l) (hw : ∀ o : Nat, o < n → μ 69 o = w o) (hw2 : ∀ o : Nat, 0 ≤ w o ∧ w o ≤ 10000) (hB : B (zp_g w l (n - 1)) μ) : zk_C 227 [.inr (.inr (.inl 60))] μ (zk_RI B) := by
  have lp : ∀ k, k ≤ n - 1 → zk_K 227 4 [.inr (.inr (.inl 60)), .inl (zp_g w l k), .inl ((k : Int) + 1), .inr (.inr (.inr 0))] [] μ (zk_RI B) := by
    refine zl_up (t_Mod_greatestGap_4 ⟨fun _ => hB, fun q => absurd (by omega) q⟩) (fun k hk ih => ?_)
    have g1 := zp_g_r (w := w) (l := l) hw2 k
    have w1 := hw2 (l.getD (k + 1) 0)
    have w2 := hw2 (l.getD k 0)
    have m1 : l.getD (k + 1) 0 < n := hx _ (List.mem_of_getElem? (zg_get (by omega)))
    have m2 : l.getD k 0 < n := hx _ (List.mem_of_getElem? (zg_get (by omega)))
    have i0 : zk_K 227 4 [.inr (.inr (.inl 60)), .inl (max (zp_g w l k) (zp_ds w l k)), .inl (((k + 1 : Nat) : Int) + 1), .inr (.inr (.inr 0))] [] μ (zk_RI B) := ih
    refine t_Mod_greatestGap_4 ⟨fun q => by omega, fun _ => ?_⟩
    rw [show (k : Int) + 1 = ((k + 1 : Nat) : Int) by omega, show ((k + 1 : Nat) : Int) - 1 = (k : Int) by omega, hr (k + 1) (by omega), hr k (by omega), hw _ m1, hw _ m2]
    unfold zp_ds at i0
    refine ⟨by omega, by omega, by omega, by omega, by omega, by omega, fun q => ⟨fun q2 => ⟨by omega, ?_⟩, fun q2 => ⟨by omega, ?_⟩⟩, fun q => ⟨by omega, fun q2 => ⟨by omega, ?_⟩, fun q2 => ⟨by omega, ?_⟩⟩⟩
    · rw [if_pos q, Int.max_eq_left q2] at i0
      exact i0
    · rw [if_pos q, Int.max_eq_right (by omega)] at i0
      exact i0
    · rw [if_neg q, Int.max_eq_left q2] at i0
      exact i0
    · rw [if_neg q, Int.max_eq_right (by omega)] at i0
      exact i0
  exact c_Mod_greatestGap (lp 0 (Nat.zero_le _))
theorem sp_best {i v : Int} (hl : l.length = n) (hn6 : n ≤ 6) (hr : zp_rp (μ 74) l) (hB : ∀ μ', zq [75] μ μ' → zp_rp (μ' 75) l → zk_C 226 [.inr (.inr (.inl 60))] μ' (zk_RI fun r9 μ8 => zk_K 228 48 [.inr (.inr (.inl 60)), .inl i, .inl v, .inl r9, .inr (.inr (.inr 0)), .inr (.inr (.inr 0))] [] μ8 (zk_RI B))) : zk_K 228 74 [.inr (.inr (.inl 60)), .inl i, .inl v, .inr (.inr (.inr 0)), .inr (.inr (.inr 0)), .inl 0] [] μ (zk_RI B) := by
  have lp : ∀ j : Nat, j ≤ 6 → (∀ ν, zq [75] μ ν → (∀ k : Nat, k < j → ν 75 k = μ 74 k) → zk_K 228 74 [.inr (.inr (.inl 60)), .inl i, .inl v, .inr (.inr (.inr 0)), .inr (.inr (.inr 0)), .inl (j : Int)] [] ν (zk_RI B)) := by
    refine zl_up (P := fun j => ∀ ν, zq [75] μ ν → (∀ k : Nat, k < j → ν 75 k = μ 74 k) → zk_K 228 74 [.inr (.inr (.inl 60)), .inl i, .inl v, .inr (.inr (.inr 0)), .inr (.inr (.inr 0)), .inl (j : Int)] [] ν (zk_RI B)) (fun ν z g => t_Mod_procession_74 ⟨fun _ => hB ν z (fun k hk => (g k (by omega)).trans (hr k hk)), fun q => absurd (by decide) q⟩) (fun j hj ih ν z g => t_Mod_procession_74 ⟨fun q => by omega, fun _ => ⟨by omega, by omega, by omega, ih _ (z.set (by decide) _ _) (fun k hk => ?_)⟩⟩)
    by_cases q : k = j
    · rw [q, zk_set_s, z 74 (by decide)]
    · rw [zk_set_n (by omega)]
      exact g k (by omega)
  exact lp 0 (by decide) μ (zq.rf _ _) (fun k hk => by omega)
theorem sp_prM {w : Int → Int} {i : Int} (hn6 : n ≤ 6) (hw2 : ∀ o : Nat, 0 ≤ w o ∧ w o ≤ 10000) : ∀ (f : Nat) (l : List Nat) (a x : Int) (b : List Nat) (μ : zk_M), zp_e n f l = true → μ 61 0 = (n : Int) → zp_rp (μ 74) l → (∀ o : Nat, o < n → μ 69 o = w o) → (x = -1 ∧ a = 1000000 ∨ x = a ∧ 0 ≤ a ∧ b.length = n ∧ zp_rp (μ 75) b) → (∀ μ', zq [74, 75] μ μ' → (zp_go w n f l a b).2.length = n → zp_rp (μ' 75) (zp_go w n f l a b).2 → zk_K 228 48 [.inr (.inr (.inl 60)), .inl i, .inl (zp_go w n f l a b).1, .inl 0, .inr (.inr (.inr 0)), .inr (.inr (.inr 0))] [] μ' (zk_RI B)) → zk_K 228 48 [.inr (.inr (.inl 60)), .inl i, .inl x, .inl 1, .inr (.inr (.inr 0)), .inr (.inr (.inr 0))] [] μ (zk_RI B)
  | 0, l, a, x, b, μ, he, _, _, _, _, _ => absurd he (by simp [zp_e])
  | f + 1, l, a, x, b, μ, he, h1, hr, hw, hab, hB => by
    rw [zp_e, Bool.and_eq_true] at he
    obtain ⟨hok, he⟩ := he
    unfold zp_ok at hok
    rw [Bool.and_eq_true] at hok
    have hl : l.length = n := by simpa using hok.1
    have hx : ∀ x ∈ l, x < n := by simpa using hok.2
    have gr := zp_g_r (w := w) (l := l) hw2 (n - 1)
    have cont : ∀ (a' : Int) (b' : List Nat) (μ1 : zk_M), zq [74, 75] μ μ1 → zp_rp (μ1 74) l → 0 ≤ a' → b'.length = n → zp_rp (μ1 75) b' → (zp_n n l = none → zp_go w n (f + 1) l a b = (a', b')) → (∀ l', zp_n n l = some l' → zp_go w n (f + 1) l a b = zp_go w n f l' a' b') → zk_C 226 [.inr (.inr (.inl 60))] μ1 (zk_RI fun r9 μ8 => zk_K 228 48 [.inr (.inr (.inl 60)), .inl i, .inl a', .inl r9, .inr (.inr (.inr 0)), .inr (.inr (.inr 0))] [] μ8 (zk_RI B)) := by
      intro a' b' μ1 z1 kr ka kb kb2 g0 g1
      refine sp_turnM hl hn6 (by rw [z1 61 (by decide)]; exact h1) kr (fun hz => ?_) (fun l' hz μ2 z2 r2 => ?_)
      · have e := g0 hz
        rw [e] at hB
        exact hB μ1 z1 kb kb2
      · have e := g1 l' hz
        rw [e] at hB
        rw [hz] at he
        exact sp_prM hn6 hw2 f l' a' a' b' μ2 he (by rw [z2 61 (by decide), z1 61 (by decide)]; exact h1) r2 (fun o ho => by rw [z2 69 (by decide), z1 69 (by decide)]; exact hw o ho) (Or.inr ⟨rfl, ka, kb, by rw [z2 75 (by decide)]; exact kb2⟩) (fun μ' z' q3 q4 => hB μ' (z1.tr ((z2.up (by decide)).tr z')) q3 q4)
    have less : zp_g w l (n - 1) < a → zk_K 228 74 [.inr (.inr (.inl 60)), .inl i, .inl (zp_g w l (n - 1)), .inr (.inr (.inr 0)), .inr (.inr (.inr 0)), .inl 0] [] μ (zk_RI B) := fun q => sp_best hl hn6 hr (fun μ1 z1 r1 => cont _ l μ1 (z1.up (by decide)) (by rw [z1 74 (by decide)]; exact hr) gr.1 hl r1 (fun hz => by rw [zp_go, hz]; exact if_pos q) (fun l' hz => by rw [zp_go, hz]; exact if_pos q))
    refine t_Mod_procession_48 ⟨fun q => absurd q (by decide), fun _ => sp_gap hl hn6 hx h1 hr hw hw2 ⟨fun q => less (by omega), fun q => ⟨fun q2 => ?_, fun q2 => less (by omega)⟩⟩⟩
    have hab' : x = a ∧ 0 ≤ a ∧ b.length = n ∧ zp_rp (μ 75) b := by
      rcases hab with p | p
      · omega
      · exact p
    obtain ⟨rfl, ka, kb, kb2⟩ := hab'
    exact cont x b μ (zq.rf _ _) hr ka kb kb2 (fun hz => by rw [zp_go, hz]; exact if_neg (by omega)) (fun l' hz => by rw [zp_go, hz]; exact if_neg (by omega))
theorem zp_id (f : Int → Int) (n : Nat) (h : ∀ i : Nat, i < n → f i = (i : Int)) : zp_rp f (List.range n) := fun i hi => by
  rw [List.length_range] at hi
  rw [h i hi, List.getD_eq_getElem?_getD, List.getElem?_range hi]
  rfl
end
theorem zo_procession (i : Int) : zo 135 228 [.inl i] := fun μ hi => by
  obtain ⟨⟨s1, s2, s3⟩, t, ⟨r1, r2, r3⟩, ⟨σ, c1, c2, hk⟩, _⟩ := hi.1
  obtain ⟨Lw, Lg, l1, l2, l3, l4⟩ := zi_laws hi (x := μ 61 4) ⟨r2, r3⟩
  obtain ⟨e, he⟩ := Int.eq_ofNat_of_zero_le s2
  have e6 : e ≤ 6 := by omega
  have hw2 : ∀ o : Nat, 0 ≤ (fun o => zv_veil Lw σ o σ.1.1) (o : Int) ∧ (fun o => zv_veil Lw σ o σ.1.1) (o : Int) ≤ 10000 := fun n => by
    have := zv_veil_r (L := Lw) hk (n : Int) (Nat.le_refl σ.1.1)
    have := hk.1.1
    simp only
    omega
  have no : ¬ (-1 ≤ i ∧ i < e) → (fun r1 μ1 => μ1 0 = μ 0 ∧ zk_C 228 (.inr (.inr (.inl 60)) :: [.inl i]) μ1 (zk_RI fun r2 μ2 => r1 = r2 ∧ zi μ2 ∧ μ2 0 = μ 0)) (-2 : Int) μ := fun q => ⟨rfl, c_Mod_procession ⟨by omega, sp_isIn (fun a b => absurd ⟨a, by omega⟩ q) (fun _ => ⟨fun q => absurd rfl q, fun _ => ⟨rfl, hi, rfl⟩⟩)⟩⟩
  refine c_Vos_procession ⟨fun q => no (by omega), fun q0 => ⟨fun q1 => ?_, fun q => no (by omega)⟩⟩
  refine sp_weighVeils hk s3 c1 (by rw [r1]; exact l1) (fun μ1 z1 g1 => ?_)
  rw [show μ1 2 0 = (e : Int) by rw [z1 2 (by decide), s1]; exact he]
  refine c_Mar_arrange ?_
  rw [show max 0 (min (e : Int) 6) = (e : Int) by omega]
  have lp : ∀ j, j ≤ e → (∀ ν, zq [52, 53, 54] μ1 ν → ν 52 1 = (e : Int) → (∀ k : Nat, k < j → ν 53 k = zv_veil Lw σ k σ.1.1 ∧ ν 54 k = (k : Int)) → zk_K 26 16 [.inr (.inr (.inl 52)), .inr (.inr (.inl 22)), .inr (.inr (.inr 0)), .inl (j : Int), .inr (.inr (.inr 0)), .inr (.inr (.inr 0))] [] ν (zk_RV fun μ2 => (¬ i = (-1) → (zk_C 27 [.inr (.inr (.inl 52)), .inl i] μ2 (zk_RI fun r4 μ3 => μ3 0 = μ 0 ∧ zk_C 228 (.inr (.inr (.inl 60)) :: [.inl i]) μ3 (zk_RI fun r2 μ2 => r4 = r2 ∧ zi μ2 ∧ μ2 0 = μ 0)))) ∧ (i = (-1) → (μ2 0 = μ 0 ∧ zk_C 228 (.inr (.inr (.inl 60)) :: [.inl i]) μ2 (zk_RI fun r2 μ3 => μ2 52 0 = r2 ∧ zi μ3 ∧ μ3 0 = μ 0))))) := by
    refine zl_up (fun ν z h1 g => t_Mar_arrange_16 ⟨fun _ => ?_, fun q => absurd (by rw [h1]; exact Int.le_refl _) q⟩) (fun j hj ih ν z h1 g => t_Mar_arrange_16 ⟨fun q => by omega, fun _ => sp_veilOf (by omega) (by omega) ⟨by omega, by omega, by omega, ih _ ((z.set (by decide) _ _).set (by decide) _ _) ?_ (fun k hk => ?_)⟩⟩)
    · have key := sp_arr (n := e) (w := fun o => zv_veil Lw σ o σ.1.1) (BV := fun μ2 => (¬ i = (-1) → (zk_C 27 [.inr (.inr (.inl 52)), .inl i] μ2 (zk_RI fun r4 μ3 => μ3 0 = μ 0 ∧ zk_C 228 (.inr (.inr (.inl 60)) :: [.inl i]) μ3 (zk_RI fun r2 μ2 => r4 = r2 ∧ zi μ2 ∧ μ2 0 = μ 0)))) ∧ (i = (-1) → (μ2 0 = μ 0 ∧ zk_C 228 (.inr (.inr (.inl 60)) :: [.inl i]) μ2 (zk_RI fun r2 μ3 => μ2 52 0 = r2 ∧ zi μ3 ∧ μ3 0 = μ 0)))) e6 hw2 720 (List.range e) 1000000 [] (zk_set ν 52 0 1000000) (Nat.le_refl _) (zp_all e (by omega)) (by rw [zk_set_n (by decide)]; exact h1) (zk_set_s _ _ _ _) (zp_id _ e (fun k hk => by rw [zk_set_o (by decide)]; exact (g k hk).2)) (fun o ho => by rw [zk_set_o (by decide)]; exact (g o ho).1) (Or.inl rfl) (fun μ2 z2 k1 k0 kl kr => ?_)
      · exact key
      · have zz : zq zi_sc μ μ2 := (z1.up (by decide)).tr ((z.up (by decide)).tr ((((zq.rf _ _).set (by decide) _ _).up (sd := zi_sc) (sc := [52]) (by decide)).tr (z2.up (by decide))))
        have m0 : μ2 0 = μ 0 := zz 0 (by decide)
        have f61 : μ2 61 = μ 61 := zz 61 (by decide)
        have ref : ∀ r : Int, (¬ i = -1 → ∀ k : Nat, i = (k : Int) → k < e → r = (((zp_go (fun o => zv_veil Lw σ o σ.1.1) e 720 (List.range e) 1000000 []).2.getD k 0 : Nat) : Int)) → (i = -1 → r = (zp_go (fun o => zv_veil Lw σ o σ.1.1) e 720 (List.range e) 1000000 []).1) → zk_C 228 (.inr (.inr (.inl 60)) :: [.inl i]) μ2 (zk_RI fun r2 μ3 => r = r2 ∧ zi μ3 ∧ μ3 0 = μ 0) := fun r hr1 hr2 => by
          refine c_Mod_procession ⟨by rw [f61]; omega, sp_isIn (fun _ _ => ⟨fun _ => ?_, fun q => absurd q (by decide)⟩) (fun q => absurd ⟨by omega, by rw [f61]; omega⟩ q)⟩
          refine sp_findWeights (sis := μ 61 0) (L := Lw) hk ⟨s2, s3⟩ (by rw [f61]) (by rw [f61]; exact c2) (by rw [f61]; exact zvM_q (zz 63 (by decide)) l3) (fun ν1 y1 gy => ?_)
          have l2 : ∀ j : Nat, j ≤ 6 → (∀ ξ, zq [74] ν1 ξ → (∀ k : Nat, k < j → ξ 74 k = (k : Int)) → zk_K 228 25 [.inr (.inr (.inl 60)), .inl i, .inl (j : Int), .inr (.inr (.inr 0)), .inr (.inr (.inr 0)), .inr (.inr (.inr 0))] [] ξ (zk_RI fun r2 μ3 => r = r2 ∧ zi μ3 ∧ μ3 0 = μ 0)) := by
            refine zl_up (P := fun j => ∀ ξ, zq [74] ν1 ξ → (∀ k : Nat, k < j → ξ 74 k = (k : Int)) → zk_K 228 25 [.inr (.inr (.inl 60)), .inl i, .inl (j : Int), .inr (.inr (.inr 0)), .inr (.inr (.inr 0)), .inr (.inr (.inr 0))] [] ξ (zk_RI fun r2 μ3 => r = r2 ∧ zi μ3 ∧ μ3 0 = μ 0)) (fun ξ y gk => t_Mod_procession_25 ⟨fun _ => ?_, fun q => absurd (by decide) q⟩) (fun j hj ih ξ y gk => t_Mod_procession_25 ⟨fun q => by omega, fun _ => ⟨by omega, by omega, ih _ (y.set (by decide) _ _) (fun k hk => ?_)⟩⟩)
            · refine sp_prM (n := e) (w := fun o => zv_veil Lw σ o σ.1.1) e6 hw2 720 (List.range e) 1000000 (-1) [] ξ (zp_all e (by omega)) (by rw [y 61 (by decide), y1 61 (by decide), f61]; exact he) (zp_id _ e (fun k hk => gk k (by omega))) (fun o ho => by rw [y 69 (by decide)]; exact (gy o (by omega) (by omega)).1) (Or.inl ⟨rfl, rfl⟩) (fun ξ2 y2 kl2 kr2 => ?_)
              have zf : zq zi_sc μ ξ2 := zz.tr ((y1.up (by decide)).tr ((y.up (by decide)).tr (y2.up (by decide))))
              refine t_Mod_procession_48 ⟨fun _ => ⟨fun q => ⟨by omega, ?_, zi_scq zf hi, zf 0 (by decide)⟩, fun q => ⟨hr2 q, zi_scq zf hi, zf 0 (by decide)⟩⟩, fun q => absurd rfl q⟩
              obtain ⟨k, hk⟩ := Int.eq_ofNat_of_zero_le (show 0 ≤ i by omega)
              rw [hk, kr2 k (by omega)]
              exact hr1 q k hk (by omega)
            · by_cases q : k = j
              · rw [q, zk_set_s]
              · rw [zk_set_n (by omega)]
                exact gk k (by omega)
          exact l2 0 (by decide) ν1 (zq.rf _ _) (fun k hk => by omega)
        refine ⟨fun q => c_Mar_sisterAt ⟨fun q2 => by omega, fun _ => ⟨fun q2 => by omega, fun _ => ⟨fun q2 => by omega, fun _ => ⟨by omega, m0, ref _ (fun _ k hk hke => ?_) (fun q2 => absurd q2 q)⟩⟩⟩⟩, fun q => ⟨m0, ref _ (fun q2 => absurd q q2) (fun _ => k0)⟩⟩
        rw [hk]
        exact kr k (by omega)
    · rw [zk_set_o (by decide), zk_set_o (by decide)]
      exact h1
    · by_cases q : k = j
      · rw [q, zk_set_o (by decide), zk_set_s, zk_set_s, z 25 (by decide)]
        exact ⟨g1 j (by omega) (by omega), rfl⟩
      · rw [zk_set_n (by omega), zk_set_n (by omega), zk_set_n (by omega), zk_set_n (by omega)]
        exact g k (by omega)
  exact lp 0 (Nat.zero_le _) _ ((zq.rf _ _).set (by decide) _ _) (zk_set_s _ _ _ _) (fun k hk => by omega)
