/-! by, hush, tell, end, about *-/
theorem za_M_cg {g g' : Int → Int} {σ : za_S} (h : za_M g σ) (e : ∀ i : Int, i = 1 ∨ i = 2 ∨ i = 5 ∨ 46 ≤ i → g' i = g i) : za_M g' σ := by
  obtain ⟨g1, g2, g3, g4, g5⟩ := h
  refine ⟨by rw [e 1 (by omega)]; exact g1, by rw [e 2 (by omega)]; exact g2, fun n hn => ?_, by rw [e 5 (by omega)]; exact g4, fun j r hj => ?_⟩
  · rw [e _ (by omega), e (47 + 4 * n) (by omega), e (48 + 4 * n) (by omega), e (49 + 4 * n) (by omega)]
    exact g3 n hn
  · obtain ⟨k1, k2, k3⟩ := g5 j r hj
    refine ⟨by rw [e _ (by omega)]; exact k1, by rw [e _ (by omega)]; exact k2, fun n hn => ?_⟩
    rw [e _ (by omega), e (47 + 4 * n) (by omega), e (168 + 62 * j + 2 * n) (by omega), e (169 + 62 * j + 2 * n) (by omega)]
    exact k3 n hn
theorem zi_td_g {μ μ' : zk_M} {s a : Nat} (h0 : μ' s 3 = μ s 3) (h1 : μ' (s + 1) = μ (s + 1)) (h2 : μ' (s + 2) = μ (s + 2)) (h3 : μ' (s + 3) = μ (s + 3)) (e : ∀ i : Int, i = 6 ∨ (10 ≤ i ∧ i < 46) → μ' a i = μ a i) (h : zi_td μ s a) : zi_td μ' s a := by
  unfold zi_td at *
  rw [h0, h1, h2, h3, e 6 (by omega)]
  refine ⟨h.1, h.2.1, h.2.2.1, fun i hi => ?_⟩
  have := h.2.2.1
  rw [e (10 + 3 * i) (by omega), e (11 + 3 * i) (by omega), e (12 + 3 * i) (by omega)]
  exact h.2.2.2 i hi
theorem zi_by {μ : zk_M} {x : Int} (hi : zi μ) (hx : -1 ≤ x ∧ x < μ 61 3) : zi (zk_set (zk_set μ 2 2 x) 61 4 x) ∧ zk_set (zk_set μ 2 2 x) 61 4 x 0 = μ 0 := by
  obtain ⟨s, t, r, ⟨σ, c1, c2, hk⟩, td⟩ := hi.1
  have z : zq [2, 61] μ (zk_set (zk_set μ 2 2 x) 61 4 x) := ((zq.rf _ _).set (by decide) _ _).set (by decide) _ _
  have e2 : ∀ i : Int, i ≠ 2 → zk_set (zk_set μ 2 2 x) 61 4 x 2 i = μ 2 i := fun i hi => by rw [zk_set_o (by decide), zk_set_n hi]
  have e61 : ∀ i : Int, i ≠ 4 → zk_set (zk_set μ 2 2 x) 61 4 x 61 i = μ 61 i := fun i hi => by rw [zk_set_n hi, zk_set_o (by decide)]
  have f61 : zk_set (zk_set μ 2 2 x) 61 4 x 61 4 = x := zk_set_s _ _ _ _
  have f2 : zk_set (zk_set μ 2 2 x) 61 4 x 2 2 = x := by rw [zk_set_o (by decide), zk_set_s]
  generalize zk_set (zk_set μ 2 2 x) 61 4 x = ν at *
  refine ⟨zi_now hi (z.up (by decide)) ⟨by rw [e2 0 (by decide), e61 0 (by decide)]; exact s, by rw [e2 1 (by decide), e61 3 (by decide)]; exact t, by rw [f2, f61, e61 3 (by decide)]; exact ⟨rfl, hx⟩, ⟨σ, za_C_cg (z _ (by decide)) (z _ (by decide)) (z _ (by decide)) c1, za_M_cg c2 (fun i hi => e61 i (by omega)), by rw [e61 0 (by decide)]; exact hk⟩, zi_td_g (by rw [z _ (by decide)]) (z _ (by decide)) (z _ (by decide)) (z _ (by decide)) (fun i hi => e61 i (by omega)) td⟩ (e61 3 (by decide)), z 0 (by decide)⟩
theorem zo_by (x : Int) : zo 121 193 [.inl x] := fun μ hi => by
  obtain ⟨_, ⟨t1, t2, t3⟩, _⟩ := hi.1
  have yes : -1 ≤ x ∧ x < μ 61 3 → (fun r1 μ1 => μ1 0 = μ 0 ∧ zk_C 193 (.inr (.inr (.inl 60)) :: [.inl x]) μ1 (zk_RI fun r2 μ2 => r1 = r2 ∧ zi μ2 ∧ μ2 0 = μ 0)) (1 : Int) (zk_set μ 2 2 x) := fun hx => by
    refine ⟨zk_set_o (by decide), c_Mod_by ?_⟩
    rw [zk_set_o (k := 2) (c := 61) (by decide)]
    exact ⟨by omega, sp_isIn (fun _ _ => ⟨fun _ => ⟨rfl, zi_by hi hx⟩, fun q => absurd q (by decide)⟩) (fun q => absurd ⟨hx.1, by omega⟩ q)⟩
  have no : ¬ (-1 ≤ x ∧ x < μ 61 3) → (fun r1 μ1 => μ1 0 = μ 0 ∧ zk_C 193 (.inr (.inr (.inl 60)) :: [.inl x]) μ1 (zk_RI fun r2 μ2 => r1 = r2 ∧ zi μ2 ∧ μ2 0 = μ 0)) (0 : Int) μ := fun hx => ⟨rfl, c_Mod_by ⟨by omega, sp_isIn (fun a b => absurd ⟨a, by omega⟩ hx) (fun _ => ⟨fun q => absurd rfl q, fun _ => ⟨rfl, hi, rfl⟩⟩)⟩⟩
  exact c_Vos_by ⟨fun q => yes (by omega), fun q => sp_hasText (fun a b => ⟨fun _ => yes (by omega), fun q => absurd q (by decide)⟩) (fun p => ⟨fun q => absurd rfl q, fun _ => no (by omega)⟩)⟩
theorem zi_tdx {μ ν : zk_M} (hi : zi μ) (z : zq [7, 8, 9, 10, 61] μ ν) (e61 : ∀ i : Int, i ≠ 6 → (i < 10 ∨ 46 ≤ i) → ν 61 i = μ 61 i) (td : zi_td ν 7 61) : zi ν ∧ ν 0 = μ 0 := by
  obtain ⟨s, t, r, ⟨σ, c1, c2, hk⟩, _⟩ := hi.1
  exact ⟨zi_now hi (z.up (by decide)) ⟨by rw [z 2 (by decide), e61 0 (by decide) (by decide)]; exact s, by rw [z 2 (by decide), e61 3 (by decide) (by decide)]; exact t, by rw [z 2 (by decide), e61 3 (by decide) (by decide), e61 4 (by decide) (by decide)]; exact r, ⟨σ, za_C_cg (z _ (by decide)) (z _ (by decide)) (z _ (by decide)) c1, za_M_cg c2 (fun i hi => e61 i (by omega) (by omega)), by rw [e61 0 (by decide) (by decide)]; exact hk⟩, td⟩ (e61 3 (by decide) (by decide)), z 0 (by decide)⟩
theorem zo_hush : zo 139 234 [] := fun μ hi => by
  have td : zi_td μ 7 61 := hi.1.2.2.2.2
  refine c_Vos_hush ⟨zk_set_o (by decide), c_Mod_hush ⟨?_, zi_tdx hi (((zq.rf _ _).set (by decide) _ _).set (by decide) _ _) (fun i i1 i2 => ?_) ?_⟩⟩
  · rw [zk_set_o (by decide)]
    exact td.1
  · rw [zk_set_n i1, zk_set_o (by decide)]
  · refine ⟨?_, ?_, ?_, fun i h => ?_⟩
    · rw [zk_set_o (by decide), zk_set_s, zk_set_s]
    · rw [zk_set_s]
      decide
    · rw [zk_set_s]
      decide
    · rw [zk_set_s] at h
      omega
theorem zo_tell (x y w : Int) : zo 138 233 [.inl x, .inl y, .inl w] := fun μ hi => by
  obtain ⟨⟨s1, s2, s3⟩, _⟩ := hi.1
  have td : zi_td μ 7 61 := hi.1.2.2.2.2
  have t1 := td.1
  have t2 := td.2.1
  have t3 := td.2.2.1
  have no : ¬ ((0 ≤ x ∧ x < μ 61 0) ∧ (0 ≤ y ∧ y < μ 61 0) ∧ x ≠ y ∧ (-1 ≤ w ∧ w ≤ 1) ∧ μ 61 6 < 12) → (fun r1 μ1 => μ1 0 = μ 0 ∧ zk_C 233 (.inr (.inr (.inl 60)) :: [.inl x, .inl y, .inl w]) μ1 (zk_RI fun r2 μ2 => r1 = r2 ∧ zi μ2 ∧ μ2 0 = μ 0)) (-1 : Int) μ := fun hx => by
    have fin : (fun r2 μ2 => (-1 : Int) = r2 ∧ zi μ2 ∧ μ2 0 = μ 0) (-1 : Int) μ := ⟨rfl, hi, rfl⟩
    exact ⟨rfl, c_Mod_tell (sp_isSister ⟨s2, s3⟩ (fun a1 a2 => ⟨fun q => absurd q (by decide), fun _ => sp_isSister ⟨s2, s3⟩ (fun b1 b2 => ⟨fun q => absurd q (by decide), fun _ => ⟨fun _ => fin, fun q => sp_isIn (fun d1 d2 => ⟨fun q => absurd q (by decide), fun _ => ⟨fun e => absurd ⟨⟨a1, a2⟩, ⟨b1, b2⟩, q, ⟨d1, d2⟩, by omega⟩ hx, fun _ => fin⟩⟩) (fun _ => ⟨fun _ => fin, fun q => absurd rfl q⟩)⟩⟩) (fun _ => ⟨fun _ => fin, fun q => absurd rfl q⟩)⟩) (fun _ => ⟨fun _ => fin, fun q => absurd rfl q⟩))⟩
  refine c_Vos_tell (sp_hasSister (fun a1 a2 => ⟨fun q => absurd q (by decide), fun _ => sp_hasSister (fun b1 b2 => ⟨fun q => absurd q (by decide), fun _ => ⟨fun q => no (fun p => p.2.2.1 q), fun q3 => ⟨fun q => no (by omega), fun q4 => ⟨fun q5 => c_Sca_add ⟨fun q => by omega, fun _ => ⟨fun q6 => ⟨by omega, by omega, by omega, by omega, fun q => absurd q (by decide), fun _ => ?_⟩, fun q => ⟨fun _ => no (by omega), fun q => absurd rfl q⟩⟩⟩, fun q => no (by omega)⟩⟩⟩⟩) (fun q => ⟨fun _ => no (by omega), fun q => absurd rfl q⟩)⟩) (fun q => ⟨fun _ => no (by omega), fun q => absurd rfl q⟩))
  rw [t1]
  have z1 : zq [7, 8, 9, 10] μ (zk_set (zk_set (zk_set (zk_set μ 8 (μ 61 6) x) 9 (μ 61 6) y) 10 (μ 61 6) w) 7 3 (μ 61 6 + 1)) := ((((zq.rf _ _).set (by decide) _ _).set (by decide) _ _).set (by decide) _ _).set (by decide) _ _
  have k7 : zk_set (zk_set (zk_set (zk_set μ 8 (μ 61 6) x) 9 (μ 61 6) y) 10 (μ 61 6) w) 7 3 (μ 61 6 + 1) 7 3 = μ 61 6 + 1 := zk_set_s _ _ _ _
  have k8 : zk_set (zk_set (zk_set (zk_set μ 8 (μ 61 6) x) 9 (μ 61 6) y) 10 (μ 61 6) w) 7 3 (μ 61 6 + 1) 8 = zk_set μ 8 (μ 61 6) x 8 := by rw [zk_set_o (by decide), zk_set_o (by decide), zk_set_o (by decide)]
  have k9 : zk_set (zk_set (zk_set (zk_set μ 8 (μ 61 6) x) 9 (μ 61 6) y) 10 (μ 61 6) w) 7 3 (μ 61 6 + 1) 9 = zk_set μ 9 (μ 61 6) y 9 := by rw [zk_set_o (by decide), zk_set_o (by decide)]; funext i; unfold zk_set; simp
  have k10 : zk_set (zk_set (zk_set (zk_set μ 8 (μ 61 6) x) 9 (μ 61 6) y) 10 (μ 61 6) w) 7 3 (μ 61 6 + 1) 10 = zk_set μ 10 (μ 61 6) w 10 := by rw [zk_set_o (by decide)]; funext i; unfold zk_set; simp
  generalize zk_set (zk_set (zk_set (zk_set μ 8 (μ 61 6) x) 9 (μ 61 6) y) 10 (μ 61 6) w) 7 3 (μ 61 6 + 1) = ν at *
  have e61 : ν 61 = μ 61 := z1 61 (by decide)
  refine ⟨z1 0 (by decide), c_Mod_tell (sp_isSister (by rw [e61]; omega) (fun a1 a2 => ⟨fun q => absurd q (by decide), fun _ => sp_isSister (by rw [e61]; omega) (fun b1 b2 => ⟨fun q => absurd q (by decide), fun _ => ⟨fun q => absurd q q3, fun q => sp_isIn (fun d1 d2 => ⟨fun q => absurd q (by decide), fun _ => ⟨fun e => ?_, fun e => ?_⟩⟩) (fun q => absurd ⟨by omega, q5⟩ q)⟩⟩) (fun q => absurd ⟨b1, by rw [e61]; omega⟩ q)⟩) (fun q => absurd ⟨a1, by rw [e61]; omega⟩ q))⟩
  · rw [e61]
    have g6 : ∀ (i : Int), i < 10 → zk_set (zk_set (zk_set ν 61 (10 + 3 * μ 61 6) x) 61 (10 + 3 * μ 61 6 + 1) y) 61 (10 + 3 * μ 61 6 + 2) w 61 i = μ 61 i := fun i hi => by rw [zk_set_n (by omega), zk_set_n (by omega), zk_set_n (by omega), e61]
    rw [g6 6 (by decide)]
    refine ⟨by omega, by omega, by omega, by omega, by omega, by omega, by omega, by omega, k7, zi_tdx hi ((((z1.up (by decide)).set (by decide) _ _).set (by decide) _ _ |>.set (by decide) _ _).set (by decide) _ _) (fun i i1 i2 => ?_) ⟨?_, ?_, ?_, fun i hi => ?_⟩⟩
    · rw [zk_set_n i1, zk_set_n (by omega), zk_set_n (by omega), zk_set_n (by omega), e61]
    · rw [zk_set_s, zk_set_o (by decide), zk_set_o (by decide), zk_set_o (by decide), zk_set_o (by decide), k7]
    · rw [zk_set_s]
      omega
    · rw [zk_set_s]
      omega
    · rw [zk_set_s] at hi
      rw [zk_set_o (by decide), zk_set_o (by decide), zk_set_o (by decide), zk_set_o (by decide), zk_set_o (c := 7 + 2) (by decide), zk_set_o (c := 7 + 2) (by decide), zk_set_o (c := 7 + 2) (by decide), zk_set_o (c := 7 + 2) (by decide), zk_set_o (c := 7 + 3) (by decide), zk_set_o (c := 7 + 3) (by decide), zk_set_o (c := 7 + 3) (by decide), zk_set_o (c := 7 + 3) (by decide), k8, k9, k10]
      rw [zk_set_n (j := 10 + 3 * (i : Int)) (by omega), zk_set_n (j := 11 + 3 * (i : Int)) (by omega), zk_set_n (j := 12 + 3 * (i : Int)) (by omega)]
      by_cases q : (i : Int) = μ 61 6
      · rw [q]
        have v0 : zk_set (zk_set (zk_set ν 61 (10 + 3 * μ 61 6) x) 61 (10 + 3 * μ 61 6 + 1) y) 61 (10 + 3 * μ 61 6 + 2) w 61 (10 + 3 * μ 61 6) = x := by rw [zk_set_n (by omega), zk_set_n (by omega), zk_set_s]
        have v1 : zk_set (zk_set (zk_set ν 61 (10 + 3 * μ 61 6) x) 61 (10 + 3 * μ 61 6 + 1) y) 61 (10 + 3 * μ 61 6 + 2) w 61 (11 + 3 * μ 61 6) = y := by rw [zk_set_n (by omega), zk_set_e (by omega)]
        have v2 : zk_set (zk_set (zk_set ν 61 (10 + 3 * μ 61 6) x) 61 (10 + 3 * μ 61 6 + 1) y) 61 (10 + 3 * μ 61 6 + 2) w 61 (12 + 3 * μ 61 6) = w := by rw [zk_set_e (by omega)]
        rw [v0, v1, v2, zk_set_s, zk_set_s, zk_set_s]
        refine ⟨rfl, rfl, rfl, by omega, by omega, by omega, by omega, by omega, by omega⟩
      · have := td.2.2.2 i (by omega)
        rw [zk_set_n q, zk_set_n q, zk_set_n q, zk_set_n (j := 10 + 3 * (i : Int)) (by omega), zk_set_n (j := 10 + 3 * (i : Int)) (by omega), zk_set_n (j := 10 + 3 * (i : Int)) (by omega), zk_set_n (j := 11 + 3 * (i : Int)) (by omega), zk_set_n (j := 11 + 3 * (i : Int)) (by omega), zk_set_n (j := 11 + 3 * (i : Int)) (by omega), zk_set_n (j := 12 + 3 * (i : Int)) (by omega), zk_set_n (j := 12 + 3 * (i : Int)) (by omega), zk_set_n (j := 12 + 3 * (i : Int)) (by omega), e61]
        exact this
  · rw [e61] at e
    omega
theorem zo_end (x : Int) : zo 118 160 [.inl x] := fun μ hi => by
  obtain ⟨a1, a2, a3, a4⟩ := hi.2.2.2.1
  refine c_Vos_end ⟨fun q => ⟨rfl, c_Mod_end (sp_isIn (fun a b => by omega) (fun _ => ⟨fun q => absurd rfl q, fun _ => ⟨rfl, hi, rfl⟩⟩))⟩, fun q => ⟨fun p => ⟨zk_set_o (by decide), c_Mod_end (sp_isIn (fun a b => ⟨fun _ => ⟨rfl, ?_, ?_⟩, fun q => absurd q (by decide)⟩) (fun e => absurd ⟨by omega, ?_⟩ e))⟩, fun p => ⟨rfl, c_Mod_end (sp_isIn (fun a b => by omega) (fun _ => ⟨fun q => absurd rfl q, fun _ => ⟨rfl, hi, rfl⟩⟩))⟩⟩⟩
  · have z : zq [42, 60] μ (zk_set (zk_set μ 42 1 x) 60 4 x) := ((zq.rf _ _).set (by decide) _ _).set (by decide) _ _
    obtain ⟨h1, h2, h4, h5, h6, h7⟩ := hi
    rw [zk_set_o (by decide)] at b
    refine ⟨zi_cv_cg (fun c hc => z c (by simp; omega)) h1, zi_cv_cg (fun c hc => z c (by simp; omega)) h2, by rw [z 61 (by decide), z 62 (by decide)]; exact h4, ⟨?_, ?_, ?_, fun i i1 i2 => ?_⟩, ?_, fun t ht => ?_⟩
    · rw [zk_set_s, zk_set_o (by decide), zk_set_s]
    · rw [zk_set_s]
      exact a
    · rw [zk_set_s]
      omega
    · rw [zk_set_s] at i2
      rw [z 43 (by decide), z 64 (by decide)]
      exact a4 i i1 (by omega)
    · have e5 : zk_set (zk_set μ 42 1 x) 60 4 x 60 5 = μ 60 5 := by rw [zk_set_n (by decide), zk_set_o (by decide)]
      have e6 : zk_set (zk_set μ 42 1 x) 60 4 x 60 6 = μ 60 6 := by rw [zk_set_n (by decide), zk_set_o (by decide)]
      rw [z 44 (by decide), e5, e6]
      exact h6
    · rw [z 61 (by decide)] at ht
      have := h1.2.1.2.2
      exact zx_txt_cg (z 63 (by decide)) (z _ (by simp; omega)) (z _ (by simp; omega)) (z _ (by simp; omega)) (h7 t ht)
  · rw [zk_set_o (by decide), zk_set_o (by decide)]
  · rw [zk_set_o (by decide)]
    omega
theorem zo_about (x : Int) : zo 144 242 [.inl x] := zo_same fun μ hi => by
  obtain ⟨⟨s1, s2, s3⟩, ⟨t1, _⟩, ⟨r1, _⟩, ⟨σ, c1, c2, hk⟩, td⟩ := hi.1
  have tp := hi.2.2.2.1.1
  have e5 : μ 5 2 = μ 61 5 := by
    obtain ⟨_, o, _, _, h3, _⟩ := c1
    rw [c2.2.2.2.1]
    exact h3
  by_cases q0 : x = 0
  · exact ⟨μ 61 0, fun B hB => c_Vos_about ⟨fun _ => by rw [s1]; exact hB, fun q => absurd q0 q⟩, fun B hB => c_Mod_about ⟨fun _ => hB, fun q => absurd q0 q⟩⟩
  by_cases q1 : x = 1
  · exact ⟨μ 61 1, fun B hB => c_Vos_about ⟨fun q => absurd q q0, fun _ => ⟨fun _ => c_Sto_count (by rw [za_C_c c1, ← c2.1]; exact hB), fun q => absurd q1 q⟩⟩, fun B hB => c_Mod_about ⟨fun q => absurd q q0, fun _ => ⟨fun _ => hB, fun q => absurd q1 q⟩⟩⟩
  by_cases q2 : x = 2
  · refine ⟨(za_n σ 6 : Nat), fun B hB => c_Vos_about ⟨fun q => absurd q q0, fun _ => ⟨fun q => absurd q q1, fun _ => ⟨fun _ => sp_inside (za_C_c c1) hk.1.1 (sp_cbits hk.1.1 (by rw [za_C_n c1]; exact hB)), fun q => absurd q2 q⟩⟩⟩, fun B hB => c_Mod_about ⟨fun q => absurd q q0, fun _ => ⟨fun q => absurd q q1, fun _ => ⟨fun _ => sp_stonesOf c2.1 hk.1.1 (sp_mbits hk.1.1 (by rw [za_M_n c2]; exact hB)), fun q => absurd q2 q⟩⟩⟩⟩
  by_cases q3 : x = 3
  · refine ⟨μ 61 2, fun B hB => c_Vos_about ⟨fun q => absurd q q0, fun _ => ⟨fun q => absurd q q1, fun _ => ⟨fun q => absurd q q2, fun _ => ⟨fun _ => c_Sto_day (by rw [za_C_d c1, ← c2.2.1]; exact hB), fun q => absurd q3 q⟩⟩⟩⟩, fun B hB => c_Mod_about ⟨fun q => absurd q q0, fun _ => ⟨fun q => absurd q q1, fun _ => ⟨fun q => absurd q q2, fun _ => ⟨fun _ => hB, fun q => absurd q3 q⟩⟩⟩⟩⟩
  by_cases q4 : x = 4
  · refine ⟨μ 61 3, fun B hB => c_Vos_about ⟨fun q => absurd q q0, fun _ => ⟨fun q => absurd q q1, fun _ => ⟨fun q => absurd q q2, fun _ => ⟨fun q => absurd q q3, fun _ => ⟨fun _ => by rw [t1]; exact hB, fun q => absurd q4 q⟩⟩⟩⟩⟩, fun B hB => c_Mod_about ⟨fun q => absurd q q0, fun _ => ⟨fun q => absurd q q1, fun _ => ⟨fun q => absurd q q2, fun _ => ⟨fun q => absurd q q3, fun _ => ⟨fun _ => hB, fun q => absurd q4 q⟩⟩⟩⟩⟩⟩
  by_cases q5 : x = 5
  · refine ⟨μ 61 4, fun B hB => c_Vos_about ⟨fun q => absurd q q0, fun _ => ⟨fun q => absurd q q1, fun _ => ⟨fun q => absurd q q2, fun _ => ⟨fun q => absurd q q3, fun _ => ⟨fun q => absurd q q4, fun _ => ⟨fun _ => by rw [r1]; exact hB, fun q => absurd q5 q⟩⟩⟩⟩⟩⟩, fun B hB => c_Mod_about ⟨fun q => absurd q q0, fun _ => ⟨fun q => absurd q q1, fun _ => ⟨fun q => absurd q q2, fun _ => ⟨fun q => absurd q q3, fun _ => ⟨fun q => absurd q q4, fun _ => ⟨fun _ => hB, fun q => absurd q5 q⟩⟩⟩⟩⟩⟩⟩
  by_cases q6 : x = 6
  · refine ⟨μ 61 5, fun B hB => c_Vos_about ⟨fun q => absurd q q0, fun _ => ⟨fun q => absurd q q1, fun _ => ⟨fun q => absurd q q2, fun _ => ⟨fun q => absurd q q3, fun _ => ⟨fun q => absurd q q4, fun _ => ⟨fun q => absurd q q5, fun _ => ⟨fun _ => by rw [e5]; exact hB, fun q => absurd q6 q⟩⟩⟩⟩⟩⟩⟩, fun B hB => c_Mod_about ⟨fun q => absurd q q0, fun _ => ⟨fun q => absurd q q1, fun _ => ⟨fun q => absurd q q2, fun _ => ⟨fun q => absurd q q3, fun _ => ⟨fun q => absurd q q4, fun _ => ⟨fun q => absurd q q5, fun _ => ⟨fun _ => hB, fun q => absurd q6 q⟩⟩⟩⟩⟩⟩⟩⟩
  by_cases q7 : x = 7
  · refine ⟨μ 61 6, fun B hB => c_Vos_about ⟨fun q => absurd q q0, fun _ => ⟨fun q => absurd q q1, fun _ => ⟨fun q => absurd q q2, fun _ => ⟨fun q => absurd q q3, fun _ => ⟨fun q => absurd q q4, fun _ => ⟨fun q => absurd q q5, fun _ => ⟨fun q => absurd q q6, fun _ => ⟨fun _ => by rw [show μ 7 3 = μ 61 6 from td.1]; exact hB, fun q => absurd q7 q⟩⟩⟩⟩⟩⟩⟩⟩, fun B hB => c_Mod_about ⟨fun q => absurd q q0, fun _ => ⟨fun q => absurd q q1, fun _ => ⟨fun q => absurd q q2, fun _ => ⟨fun q => absurd q q3, fun _ => ⟨fun q => absurd q q4, fun _ => ⟨fun q => absurd q q5, fun _ => ⟨fun q => absurd q q6, fun _ => ⟨fun _ => hB, fun q => absurd q7 q⟩⟩⟩⟩⟩⟩⟩⟩⟩
  by_cases q8 : x = 8
  · refine ⟨μ 60 4, fun B hB => c_Vos_about ⟨fun q => absurd q q0, fun _ => ⟨fun q => absurd q q1, fun _ => ⟨fun q => absurd q q2, fun _ => ⟨fun q => absurd q q3, fun _ => ⟨fun q => absurd q q4, fun _ => ⟨fun q => absurd q q5, fun _ => ⟨fun q => absurd q q6, fun _ => ⟨fun q => absurd q q7, fun _ => ⟨fun _ => by rw [tp]; exact hB, fun q => absurd q8 q⟩⟩⟩⟩⟩⟩⟩⟩⟩, fun B hB => c_Mod_about ⟨fun q => absurd q q0, fun _ => ⟨fun q => absurd q q1, fun _ => ⟨fun q => absurd q q2, fun _ => ⟨fun q => absurd q q3, fun _ => ⟨fun q => absurd q q4, fun _ => ⟨fun q => absurd q q5, fun _ => ⟨fun q => absurd q q6, fun _ => ⟨fun q => absurd q q7, fun _ => ⟨fun q => absurd q8 q, fun _ => hB⟩⟩⟩⟩⟩⟩⟩⟩⟩⟩
  · refine ⟨-2, fun B hB => c_Vos_about ⟨fun q => absurd q q0, fun _ => ⟨fun q => absurd q q1, fun _ => ⟨fun q => absurd q q2, fun _ => ⟨fun q => absurd q q3, fun _ => ⟨fun q => absurd q q4, fun _ => ⟨fun q => absurd q q5, fun _ => ⟨fun q => absurd q q6, fun _ => ⟨fun q => absurd q q7, fun _ => ⟨fun q => absurd q q8, fun _ => hB⟩⟩⟩⟩⟩⟩⟩⟩⟩, fun B hB => c_Mod_about ⟨fun q => absurd q q0, fun _ => ⟨fun q => absurd q q1, fun _ => ⟨fun q => absurd q q2, fun _ => ⟨fun q => absurd q q3, fun _ => ⟨fun q => absurd q q4, fun _ => ⟨fun q => absurd q q5, fun _ => ⟨fun q => absurd q q6, fun _ => ⟨fun q => absurd q q7, fun _ => ⟨fun _ => hB, fun q => absurd q q8⟩⟩⟩⟩⟩⟩⟩⟩⟩⟩
