/-! level tied *-/
theorem zs_sum_z {f : Nat → Int} : ∀ n, (∀ i, i < n → f i = 0) → zs_sum f n = 0
  | 0, _ => rfl
  | n + 1, h => by rw [zs_sum, zs_sum_z n (fun i hi => h i (by omega)), h n (by omega)]; rfl
theorem zg_f_0 {b : Int → Int} {x own : Nat → Int} {f : Nat → Bool} {m : Nat} (h : ∀ j, j < m → f j = false) (o : Int) : zg_f b x own f m o = b o := by
  unfold zg_f
  rw [zs_sum_z m (fun i hi => by rw [h i hi]; exact if_neg (fun p => absurd p.1 (by decide)))]
  omega
theorem zg_add {b : Int → Int} {x own : Nat → Int} {f f' : Nat → Bool} {m k : Nat} (hd : ∀ j, j ≠ k → f' j = f j) (hk : k < m) (h1 : f k = false) (h2 : f' k = true) (o : Int) : zg_f b x own f' m o = if own k = o then zg_f b x own f m o + 1 * x k else zg_f b x own f m o := by
  rw [zg_f_upd hd hk o, h1, h2]
  by_cases q : own k = o
  · rw [if_pos q, if_pos ⟨rfl, q⟩, if_neg (fun p => absurd p.1 (by decide))]
    omega
  · rw [if_neg q, if_neg (fun p => q p.2), if_neg (fun p => q p.2)]
    omega
theorem zg_sub {b : Int → Int} {x own : Nat → Int} {f f' : Nat → Bool} {m k : Nat} (hd : ∀ j, j ≠ k → f' j = f j) (hk : k < m) (h1 : f k = true) (h2 : f' k = false) (o : Int) : zg_f b x own f' m o = if own k = o then zg_f b x own f m o + -1 * x k else zg_f b x own f m o := by
  rw [zg_f_upd hd hk o, h1, h2]
  by_cases q : own k = o
  · rw [if_pos q, if_neg (fun p => absurd p.1 (by decide)), if_pos ⟨rfl, q⟩]
    omega
  · rw [if_neg q, if_neg (fun p => q p.2), if_neg (fun p => q p.2)]
    omega
section
variable {μ : zk_M} {BV : zk_M → Prop} {B : Int → zk_M → Prop} {σ : za_S} {sis : Int} {m e : Nat} {x own : Nat → Int} {g : Nat → Nat} {bw bn : Int → Int}
theorem sp_put1 {s : Nat} (hs : s < 2 ^ m) (hm : m ≤ 12) (he : e ≤ 6) (hA : zg_M μ m x own g) (hR : zg_R m x own g e) (hb : zg_B bw bn) (h0 : ∀ o : Int, 0 ≤ o → o < (e : Int) → μ 69 o = bw o ∧ μ 70 o = bn o) (hB : ∀ (c : Int) (μ' : zk_M), (c = 0 ∨ c = 1) → (c = 1 ↔ ∀ o : Nat, o < e → zg_f bn (fun _ => 1) own s.testBit m o ≤ 8) → zq [69, 70] μ μ' → (∀ o : Int, 0 ≤ o → o < (e : Int) → μ' 69 o = zg_f bw x own s.testBit m o ∧ μ' 70 o = zg_f bn (fun _ => 1) own s.testBit m o) → B c μ') : zk_C 223 [.inr (.inr (.inl 60)), .inl (s : Int), .inl 1] μ (zk_RI B) := by
  have d1 : ∀ k j, j ≠ k → (fun j => decide (j < k + 1) && s.testBit j) j = (fun j => decide (j < k) && s.testBit j) j := fun k j hj => by
    by_cases q : j < k
    · simp [q, show j < k + 1 by omega]
    · simp [q, show ¬ j < k + 1 by omega]
  have hF : ∀ k, k < m → s.testBit k = true → ∀ o, zg_f bw x own (fun j => decide (j < k + 1) && s.testBit j) m o = (if own k = o then zg_f bw x own (fun j => decide (j < k) && s.testBit j) m o + 1 * x k else zg_f bw x own (fun j => decide (j < k) && s.testBit j) m o) ∧ zg_f bn (fun _ => 1) own (fun j => decide (j < k + 1) && s.testBit j) m o = (if own k = o then zg_f bn (fun _ => 1) own (fun j => decide (j < k) && s.testBit j) m o + 1 else zg_f bn (fun _ => 1) own (fun j => decide (j < k) && s.testBit j) m o) := fun k hk hb o => ⟨zg_add (d1 k) hk (by simp) (by simp [hb]) o, zg_add (d1 k) hk (by simp) (by simp [hb]) o⟩
  have hF0 : ∀ k, s.testBit k = false → ∀ o, zg_f bw x own (fun j => decide (j < k + 1) && s.testBit j) m o = zg_f bw x own (fun j => decide (j < k) && s.testBit j) m o ∧ zg_f bn (fun _ => 1) own (fun j => decide (j < k + 1) && s.testBit j) m o = zg_f bn (fun _ => 1) own (fun j => decide (j < k) && s.testBit j) m o := fun k hk o => by
    have e : ∀ j, (fun j => decide (j < k + 1) && s.testBit j) j = (fun j => decide (j < k) && s.testBit j) j := fun j => by
      by_cases q : j = k
      · simp only [q, hk, Bool.and_false]
      · exact d1 k j q
    exact ⟨zg_f_cg (fun j _ => e j) o, zg_f_cg (fun j _ => e j) o⟩
  have z0 : ∀ j, j < m → (fun j => decide (j < 0) && s.testBit j) j = false := fun j _ => by simp
  have z12 : ∀ j, j < m → (fun j => decide (j < 12) && s.testBit j) j = s.testBit j := fun j hj => by simp [show j < 12 by omega]
  refine sp_put (F := fun k o => zg_f bw x own (fun j => decide (j < k) && s.testBit j) m o) (C := fun k o => zg_f bn (fun _ => 1) own (fun j => decide (j < k) && s.testBit j) m o) hs hm he (Or.inl rfl) hA hR hF hF0 (fun k o o0 o6 => ?_) (fun o o0 o6 => ?_) (fun c μ' c1 c2 z g1 => hB c μ' c1 ?_ z (fun o o0 o6 => ?_))
  · have b0 := hb o o0 (by omega)
    have r1 := zg_f_r (b := bw) (x := x) (own := own) (f := fun j => decide (j < k) && s.testBit j) (m := m) (K := 99) (by decide) b0.1 (fun k hk => (hR k hk).2.2.2)
    have r2 := zg_f_r (b := bn) (x := fun _ => 1) (own := own) (f := fun j => decide (j < k) && s.testBit j) (m := m) (K := 1) (by decide) b0.2 (fun k hk => by decide)
    omega
  · rw [zg_f_0 z0, zg_f_0 z0]
    exact h0 o o0 o6
  · rw [c2]
    constructor
    · intro p o ho
      have key : ∀ k, k ≤ 12 → zg_f bn (fun _ => 1) own (fun j => decide (j < k) && s.testBit j) m o ≤ 8 := by
        intro k
        induction k with
        | zero => intro _; rw [zg_f_0 z0]; exact (hb o (by omega) (by omega)).2.2
        | succ k ih =>
          intro hk
          have i0 := ih (by omega)
          cases w : s.testBit k
          · rw [(hF0 k w o).2]
            exact i0
          · by_cases q : own k = (o : Int)
            · rw [← q]
              exact p k (by omega) w
            · rw [(hF k (zg_bit hs w) w o).2, if_neg q]
              exact i0
      have := key 12 (by decide)
      rw [zg_f_cg z12] at this
      exact this
    · intro p j hj w
      have hjm := zg_bit hs w
      obtain ⟨o, ho⟩ := Int.eq_ofNat_of_zero_le (hR j hjm).2.1
      have mono : ∀ d k, zg_f bn (fun _ => 1) own (fun i => decide (i < k) && s.testBit i) m (own j) ≤ zg_f bn (fun _ => 1) own (fun i => decide (i < k + d) && s.testBit i) m (own j) := by
        intro d
        induction d with
        | zero => intro k; exact Int.le_refl _
        | succ d ih =>
          intro k
          refine Int.le_trans (ih k) ?_
          rw [← Nat.add_assoc]
          cases w : s.testBit (k + d)
          · rw [(hF0 (k + d) w (own j)).2]
            exact Int.le_refl _
          · rw [(hF (k + d) (zg_bit hs w) w (own j)).2]
            split <;> omega
      have h1 := mono (12 - (j + 1)) (j + 1)
      rw [show j + 1 + (12 - (j + 1)) = 12 by omega, zg_f_cg z12] at h1
      have h2 := p o (by have := (hR j hjm).2.2.1; omega)
      rw [← ho] at h2
      omega
  · have := g1 o o0 o6
    rw [zg_f_cg z12, zg_f_cg z12] at this
    exact this
theorem sp_put2 {s : Nat} (hs : s < 2 ^ m) (hm : m ≤ 12) (he : e ≤ 6) (hA : zg_M μ m x own g) (hR : zg_R m x own g e) (hb : zg_B bw bn) (h0 : ∀ o : Int, 0 ≤ o → o < (e : Int) → μ 69 o = zg_f bw x own s.testBit m o ∧ μ 70 o = zg_f bn (fun _ => 1) own s.testBit m o) (hB : ∀ (c : Int) (μ' : zk_M), zq [69, 70] μ μ' → (∀ o : Int, 0 ≤ o → o < (e : Int) → μ' 69 o = bw o ∧ μ' 70 o = bn o) → B c μ') : zk_C 223 [.inr (.inr (.inl 60)), .inl (s : Int), .inl (-1)] μ (zk_RI B) := by
  have d1 : ∀ k j, j ≠ k → (fun j => !decide (j < k + 1) && s.testBit j) j = (fun j => !decide (j < k) && s.testBit j) j := fun k j hj => by
    by_cases q : j < k
    · simp [q, show j < k + 1 by omega]
    · simp [q, show ¬ j < k + 1 by omega]
  have hF : ∀ k, k < m → s.testBit k = true → ∀ o, zg_f bw x own (fun j => !decide (j < k + 1) && s.testBit j) m o = (if own k = o then zg_f bw x own (fun j => !decide (j < k) && s.testBit j) m o + -1 * x k else zg_f bw x own (fun j => !decide (j < k) && s.testBit j) m o) ∧ zg_f bn (fun _ => 1) own (fun j => !decide (j < k + 1) && s.testBit j) m o = (if own k = o then zg_f bn (fun _ => 1) own (fun j => !decide (j < k) && s.testBit j) m o + -1 else zg_f bn (fun _ => 1) own (fun j => !decide (j < k) && s.testBit j) m o) := fun k hk hb o => ⟨zg_sub (d1 k) hk (by simp [hb]) (by simp) o, zg_sub (d1 k) hk (by simp [hb]) (by simp) o⟩
  have hF0 : ∀ k, s.testBit k = false → ∀ o, zg_f bw x own (fun j => !decide (j < k + 1) && s.testBit j) m o = zg_f bw x own (fun j => !decide (j < k) && s.testBit j) m o ∧ zg_f bn (fun _ => 1) own (fun j => !decide (j < k + 1) && s.testBit j) m o = zg_f bn (fun _ => 1) own (fun j => !decide (j < k) && s.testBit j) m o := fun k hk o => by
    have e : ∀ j, (fun j => !decide (j < k + 1) && s.testBit j) j = (fun j => !decide (j < k) && s.testBit j) j := fun j => by
      by_cases q : j = k
      · simp only [q, hk, Bool.and_false]
      · exact d1 k j q
    exact ⟨zg_f_cg (fun j _ => e j) o, zg_f_cg (fun j _ => e j) o⟩
  have z0 : ∀ j, j < m → (fun j => !decide (j < 0) && s.testBit j) j = s.testBit j := fun j _ => by simp
  have z12 : ∀ j, j < m → (fun j => !decide (j < 12) && s.testBit j) j = false := fun j hj => by simp [show j < 12 by omega]
  refine sp_put (F := fun k o => zg_f bw x own (fun j => !decide (j < k) && s.testBit j) m o) (C := fun k o => zg_f bn (fun _ => 1) own (fun j => !decide (j < k) && s.testBit j) m o) hs hm he (Or.inr rfl) hA hR hF hF0 (fun k o o0 o6 => ?_) (fun o o0 o6 => ?_) (fun c μ' c1 c2 z g1 => hB c μ' z (fun o o0 o6 => ?_))
  · have b0 := hb o o0 (by omega)
    have r1 := zg_f_r (b := bw) (x := x) (own := own) (f := fun j => !decide (j < k) && s.testBit j) (m := m) (K := 99) (by decide) b0.1 (fun k hk => (hR k hk).2.2.2)
    have r2 := zg_f_r (b := bn) (x := fun _ => 1) (own := own) (f := fun j => !decide (j < k) && s.testBit j) (m := m) (K := 1) (by decide) b0.2 (fun k hk => by decide)
    omega
  · rw [zg_f_cg z0, zg_f_cg z0]
    exact h0 o o0 o6
  · have := g1 o o0 o6
    rw [zg_f_0 z12, zg_f_0 z12] at this
    exact this
theorem sp_lvK {bd r : Int} (hm : m ≤ 12) (he : e ≤ 6) (h61 : μ 61 0 = (e : Int)) (hA : zg_M μ m x own g) (hR : zg_R m x own g e) (hb : zg_B bw bn) (hW : ∀ (s : Nat) (o : Nat), 0 ≤ zg_f bw x own s.testBit m o ∧ zg_f bw x own s.testBit m o ≤ 10000) (h0 : ∀ o : Int, 0 ≤ o → o < (e : Int) → μ 69 o = bw o ∧ μ 70 o = bn o) (hr : zg_s (zg_P bw bn x own m e bd) (2 ^ m) 0 (-1) r) (hB : ∀ μ', zq [69, 70] μ μ' → B (if r = -1 then -1 else (zg_mk r.toNat g m : Nat)) μ') : zk_K 224 41 [.inr (.inr (.inl 60)), .inl bd, .inl (m : Int), .inl (-1), .inl 0, .inr (.inr (.inr 0))] [] μ (zk_RI B) := by
  have hp : 2 ^ m ≤ 4096 := Nat.pow_le_pow_right (n := 2) (by decide) hm
  have lp : ∀ n, n ≤ 2 ^ m → (∀ (b : Int) (ν : zk_M), zq [69, 70] μ ν → (∀ o : Int, 0 ≤ o → o < (e : Int) → ν 69 o = bw o ∧ ν 70 o = bn o) → (b = -1 ∨ 0 ≤ b ∧ b < (2 ^ m : Nat)) → zg_s (zg_P bw bn x own m e bd) (2 ^ m - n) n b r → zk_K 224 41 [.inr (.inr (.inl 60)), .inl bd, .inl (m : Int), .inl b, .inl (n : Int), .inr (.inr (.inr 0))] [] ν (zk_RI B)) := by
    refine zl_up (fun b ν z g1 hb1 k => ?_) (fun n hn ih b ν z g1 hb1 k => ?_)
    · rw [Nat.sub_self] at k
      have kb : r = b := k
      subst kb
      have b1 := hB ν z
      refine t_Mod_level_41 ⟨fun _ => ⟨fun q => ?_, fun q => ?_⟩, fun q => absurd (by rw [zb_one (by omega)]; exact Int.le_refl _) q⟩
      · rw [if_neg (by omega)] at b1
        obtain ⟨s, rfl⟩ := Int.eq_ofNat_of_zero_le q
        rw [Int.toNat_natCast] at b1
        have l2 : ∀ j, j ≤ m → zk_K 224 120 [.inr (.inr (.inl 60)), .inr (.inr (.inr 0)), .inl (m : Int), .inl (s : Int), .inl (zg_mk s g j : Nat), .inl (j : Int)] [] ν (zk_RI B) := by
          refine zl_up (t_Mod_level_120 ⟨fun _ => b1, fun q => absurd (Int.le_refl _) q⟩) (fun j hj ih2 => t_Mod_level_120 ⟨fun q => by omega, fun _ => sp_mhas (by omega) (by omega) ?_⟩)
          have hl := zg_mk_lt (s := s) (g := g) j (fun i hi => (hR i (by omega)).1)
          have hg := (hR j hj).1
          have hp2 : 2 ^ g j < 2 ^ 30 := Nat.pow_lt_pow_right (by omega) hg
          rw [z 73 (by decide), (hA j hj).1]
          rw [zg_mk] at ih2
          cases hbt : s.testBit j
          · rw [hbt] at ih2
            refine ⟨fun _ => ⟨by omega, ?_⟩, fun q => absurd rfl q⟩
            rw [zb_or0 (by omega)]
            exact ih2
          · rw [hbt] at ih2
            refine ⟨fun q => absurd q (by decide), fun _ => ⟨by omega, by omega, ?_⟩⟩
            rw [zb_one (by omega), zb_or (by omega) (by omega)]
            exact ih2
        exact l2 0 (Nat.zero_le _)
      · rw [if_pos (by omega)] at b1
        exact b1
    · have k68 : (b = -1 ∨ zb_c n.testBit 30 < zb_c b.toNat.testBit 30) → zk_K 224 68 [.inr (.inr (.inl 60)), .inl bd, .inl (m : Int), .inl b, .inl (n : Int), .inr (.inr (.inr 0))] [] ν (zk_RI B) := fun hc => by
        have hA' : ∀ {ξ : zk_M}, zq [69, 70] ν ξ → zg_M ξ m x own g := fun y i hi => by
          rw [y 73 (by decide), y 72 (by decide), y 71 (by decide), z 73 (by decide), z 72 (by decide), z 71 (by decide)]
          exact hA i hi
        refine t_Mod_level_68 (sp_put1 hn hm he (hA' (zq.rf _ _)) hR hb g1 (fun c ξ c1 c2 y gy => ⟨fun q => ?_, fun q => ?_⟩))
        · refine sp_put2 hn hm he (hA' y) hR hb gy (fun c' ξ2 y2 gy2 => ⟨by omega, ih b ξ2 (z.tr (y.tr y2)) gy2 hb1 (zg_s_n k hn (fun p => ?_))⟩)
          have := c2.mpr p.2.1
          omega
        · refine sp_spreadNow (f := fun k : Nat => zg_f bw x own n.testBit m k) he (hW n) (by rw [y 61 (by decide), z 61 (by decide)]; exact h61) (fun k hk => (gy k (by omega) (by omega)).1) ⟨fun q2 => ?_, fun q2 => ?_⟩
          · refine sp_put2 hn hm he (hA' y) hR hb gy (fun c' ξ2 y2 gy2 => ⟨by omega, ih b ξ2 (z.tr (y.tr y2)) gy2 hb1 (zg_s_n k hn (fun p => ?_))⟩)
            have := p.2.2
            omega
          · exact sp_put2 hn hm he (hA' y) hR hb gy (fun c' ξ2 y2 gy2 => ⟨by omega, ih n ξ2 (z.tr (y.tr y2)) gy2 (Or.inr ⟨by omega, by omega⟩) (zg_s_y k hn ⟨hc, c2.mp (by omega), by omega⟩)⟩)
      refine t_Mod_level_41 ⟨fun q => by rw [zb_one (by omega)] at q; omega, fun _ => ⟨fun q => k68 (Or.inl (by omega)), fun q => sp_bits (by omega) ?_⟩⟩
      obtain ⟨s, rfl⟩ := Int.eq_ofNat_of_zero_le (show 0 ≤ b by omega)
      rw [Int.toNat_natCast] at k68
      refine sp_bits (by omega) ⟨fun q2 => k68 (Or.inr (by omega)), fun q2 => ⟨by omega, ih _ ν z g1 hb1 (zg_s_n k hn (fun p => ?_))⟩⟩
      have := p.1
      rw [Int.toNat_natCast] at this
      omega
  exact lp 0 (Nat.zero_le _) (-1) μ (zq.rf _ _) h0 (Or.inl rfl) hr
end
theorem zo_level (bd : Int) : zo 134 224 [.inl bd] := fun μ hi => by
  obtain ⟨⟨s1, s2, s3⟩, t, ⟨r1, r2, r3⟩, ⟨σ, c1, c2, hk⟩, _⟩ := hi.1
  obtain ⟨Lw, Lg, l1, l2, l3, l4⟩ := zi_laws hi (x := μ 61 4) ⟨r2, r3⟩
  obtain ⟨e, he⟩ := Int.eq_ofNat_of_zero_le s2
  have no : ¬ (0 ≤ bd ∧ bd ≤ 999) → (fun r1 μ1 => μ1 0 = μ 0 ∧ zk_C 224 (.inr (.inr (.inl 60)) :: [.inl bd]) μ1 (zk_RI fun r2 μ2 => r1 = r2 ∧ zi μ2 ∧ μ2 0 = μ 0)) (-1 : Int) μ := fun q => ⟨rfl, c_Mod_level (sp_isIn (fun a b => absurd ⟨a, b⟩ q) (fun _ => ⟨fun _ => ⟨rfl, hi, rfl⟩, fun q => absurd rfl q⟩))⟩
  refine c_Vos_level ⟨fun q => no (by omega), fun q0 => ⟨fun q1 => ?_, fun q => no (by omega)⟩⟩
  have e6 : e ≤ 6 := by omega
  have c30 := hk.1.1
  have em : ∀ (ν : zk_M), ν 61 = μ 61 → zb_c (fun n => ν 61 (48 + 4 * n) == 6) σ.1.1 = za_n σ 6 := fun ν h => by rw [h]; exact za_M_n c2 6
  refine sp_look (L := Lw) hk s3 c1 (by rw [r1]; exact l1) (fun h12 μ1 z1 hA hV => ⟨fun q => absurd q (by decide), fun _ => ?_⟩) (fun h12 μ1 z1 => ⟨fun _ => ⟨z1 0 (by decide), ?_⟩, fun q => absurd rfl q⟩)
  · have e61 : μ1 61 = μ 61 := z1 61 (by decide)
    have c2' : za_M (μ1 61) σ := by rw [e61]; exact c2
    have hR : zg_R (za_n σ 6) (fun i => zv_w Lw σ (zg_g σ i)) (fun i => (σ.1.2.2 (zg_g σ i)).2.2.2) (zg_g σ) e := fun i hi => by
      have hg := zg_g_lt (σ := σ) hi
      have hw := (hk.1.2.2.1 _ hg).2.2.2.2.2
      have hv := zv_w_r (L := Lw) hk hg
      exact ⟨by omega, hw.1, by simp only; omega, hv.1, hv.2⟩
    have hb : zg_B (fun o => zv_veil Lw σ o σ.1.1) (fun o => ((za_n σ o : Nat) : Int)) := fun o o0 o6 => by
      have hv := zv_veil_r (L := Lw) hk o (Nat.le_refl σ.1.1)
      have h8 : za_n σ o ≤ 8 := hk.1.2.2.2 o (by omega)
      simp only
      omega
    have hW : ∀ (s : Nat) (o : Nat), 0 ≤ zg_f (fun o => zv_veil Lw σ o σ.1.1) (fun i => zv_w Lw σ (zg_g σ i)) (fun i => (σ.1.2.2 (zg_g σ i)).2.2.2) s.testBit (za_n σ 6) o ∧ zg_f (fun o => zv_veil Lw σ o σ.1.1) (fun i => zv_w Lw σ (zg_g σ i)) (fun i => (σ.1.2.2 (zg_g σ i)).2.2.2) s.testBit (za_n σ 6) o ≤ 10000 := fun s o => by
      have hv := zv_veil_r (L := Lw) hk o (Nat.le_refl σ.1.1)
      have := zg_f_r (b := fun o => zv_veil Lw σ o σ.1.1) (x := fun i => zv_w Lw σ (zg_g σ i)) (own := fun i => (σ.1.2.2 (zg_g σ i)).2.2.2) (f := s.testBit) (m := za_n σ 6) (K := 99) (M := 2970) (o := (o : Int)) (by decide) ⟨hv.1, by omega⟩ (fun k hk => (hR k hk).2.2.2)
      omega
    obtain ⟨r, hr⟩ := zg_s_ex (P := zg_P (fun o => zv_veil Lw σ o σ.1.1) (fun o => ((za_n σ o : Nat) : Int)) (fun i => zv_w Lw σ (zg_g σ i)) (fun i => (σ.1.2.2 (zg_g σ i)).2.2.2) (za_n σ 6) e bd) (2 ^ za_n σ 6) 0 (-1)
    have ref : ∀ ν, zq zi_ll μ ν → zk_C 224 (.inr (.inr (.inl 60)) :: [.inl bd]) ν (zk_RI fun r2 μ2 => (if r = -1 then -1 else ((zg_mk r.toNat (zg_g σ) (za_n σ 6) : Nat) : Int)) = r2 ∧ zi μ2 ∧ μ2 0 = μ 0) := fun ν z => by
      have f61 : ν 61 = μ 61 := z 61 (by decide)
      have d2 : za_M (ν 61) σ := by rw [f61]; exact c2
      refine c_Mod_level (sp_isIn (fun _ _ => ⟨fun q => absurd q (by decide), fun _ => sp_stonesOf d2.1 c30 (sp_mbits c30 ?_)⟩) (fun q => absurd ⟨by omega, by omega⟩ q))
      rw [em ν f61]
      refine ⟨fun _ => sp_findGravel (L := Lw) hk s3 d2 (by rw [f61]; exact zvM_q (z 63 (by decide)) l3) h12 (fun ν1 y1 gM => ?_), fun q => by omega⟩
      have g61 : ν1 61 = μ 61 := (y1 61 (by decide)).trans f61
      refine sp_findWeights (sis := μ 61 0) (L := Lw) hk ⟨s2, s3⟩ (by rw [g61]) (by rw [g61]; exact c2) (by rw [g61]; exact zvM_q ((y1 63 (by decide)).trans (z 63 (by decide))) l3) (fun ν2 y2 g2 => sp_lvK (e := e) h12 e6 (by rw [y2 61 (by decide), g61]; exact he) (fun i hi => by rw [y2 73 (by decide), y2 72 (by decide), y2 71 (by decide)]; exact gM i hi) hR hb hW (fun o o0 o6 => g2 o o0 (by omega)) hr (fun ν3 y3 => ⟨rfl, zi_scq ((z.up (by decide)).tr ((y1.up (by decide)).tr ((y2.up (by decide)).tr (y3.up (by decide))))) hi, ?_⟩))
      rw [y3 0 (by decide), y2 0 (by decide), y1 0 (by decide), z 0 (by decide)]
    rw [show μ1 2 0 = (e : Int) by rw [z1 2 (by decide), s1]; exact he]
    refine sp_search (e := e) e6 (by omega) hA hR hb hW (fun o o0 o6 => ?_) hr (fun μ2 z2 hf hr1 => ?_)
    · rw [zg_f_0 (fun j _ => Nat.zero_testBit j), zg_f_0 (fun j _ => Nat.zero_testBit j)]
      exact hV o o0 o6
    · have rf := ref μ2 (z1.tr (z2.up (by decide)))
      have m0 : μ2 0 = μ 0 := by rw [z2 0 (by decide), z1 0 (by decide)]
      by_cases w : r = -1
      · rw [if_pos w] at rf ⊢
        exact ⟨fun _ => ⟨m0, rf⟩, fun q => absurd rfl q⟩
      · rw [if_neg w] at rf ⊢
        rw [hf w]
        exact ⟨fun q => absurd q (by decide), fun _ => ⟨m0, rf⟩⟩
  · have f61 : μ1 61 = μ 61 := z1 61 (by decide)
    have d2 : za_M (μ1 61) σ := by rw [f61]; exact c2
    refine c_Mod_level (sp_isIn (fun _ _ => ⟨fun q => absurd q (by decide), fun _ => sp_stonesOf d2.1 c30 (sp_mbits c30 ?_)⟩) (fun q => absurd ⟨by omega, by omega⟩ q))
    rw [em μ1 f61]
    exact ⟨fun q => by omega, fun _ => ⟨rfl, zi_scq (z1.up (by decide)) hi, z1 0 (by decide)⟩⟩
