/-! call by call: the class and the reference answer alike, and the tie holds behind it *-/
def zo (cm rm : Nat) (as : List zk_V) : Prop := ∀ μ, zi μ → zk_C cm (.inr (.inr (.inl 1)) :: as) μ (zk_RI fun r1 μ1 => μ1 0 = μ 0 ∧ zk_C rm (.inr (.inr (.inl 60)) :: as) μ1 (zk_RI fun r2 μ2 => r1 = r2 ∧ zi μ2 ∧ μ2 0 = μ 0))
theorem zi_now {μ μ2 : zk_M} (hi : zi μ) (hq : zq [2, 4, 5, 6, 7, 8, 9, 10, 61] μ μ2) (hc : zi_cv μ2 2 61) (h3 : μ2 61 3 = μ 61 3) : zi μ2 := by
  obtain ⟨h1, h2, h4, h5, h6, h7⟩ := hi
  refine ⟨hc, zi_cv_cg (fun c hc => hq c (fun q => ?_)) h2, by rw [h3, hq 62 (by decide)]; exact h4, ?_, by rw [hq 44 (by decide), hq 60 (by decide)]; exact h6, fun t ht => ?_⟩
  · simp at q
    omega
  · unfold zi_tp at *
    rw [hq 42 (by decide), hq 60 (by decide), hq 43 (by decide), hq 64 (by decide)]
    exact h5
  · rw [h3] at ht
    have := h1.2.1.2.2
    exact zx_txt_cg (hq 63 (by decide)) (hq _ (by simp; omega)) (hq _ (by simp; omega)) (hq _ (by simp; omega)) (h7 t ht)
theorem zi_deed {μ μ1 μ2 : zk_M} {σ : za_S} (hi : zi μ) (q1 : zq [4, 5, 6] μ μ1) (c1 : za_C μ1 4 σ) (q2 : zq [61] μ1 μ2) (g : ∀ i : Int, i < 46 → i ≠ 1 → i ≠ 2 → i ≠ 5 → μ2 61 i = μ1 61 i) (c2 : za_M (μ2 61) σ) (hk : za_ok σ (μ 61 0)) : zi μ2 ∧ μ2 0 = μ 0 := by
  have e61 : μ1 61 = μ 61 := q1 61 (by decide)
  rw [e61] at g
  have q3 : zq [4, 5, 6, 61] μ μ2 := (q1.up (by decide)).tr (q2.up (by decide))
  obtain ⟨a1, a2, a3, _, a5⟩ := hi.1
  refine ⟨zi_now hi (q3.up (by decide)) ⟨?_, ?_, ?_, ⟨σ, za_C_cg (q2 _ (by decide)) (q2 _ (by decide)) (q2 _ (by decide)) c1, c2, ?_⟩, ?_⟩ (g 3 (by decide) (by decide) (by decide) (by decide)), q3 0 (by decide)⟩
  · rw [q3 2 (by decide), g 0 (by decide) (by decide) (by decide) (by decide)]
    exact a1
  · rw [q3 2 (by decide), g 3 (by decide) (by decide) (by decide) (by decide)]
    exact a2
  · rw [q3 2 (by decide), g 4 (by decide) (by decide) (by decide) (by decide), g 3 (by decide) (by decide) (by decide) (by decide)]
    exact a3
  · rw [g 0 (by decide) (by decide) (by decide) (by decide)]
    exact hk
  · unfold zi_td at *
    rw [q3 (2 + 5) (by decide), q3 (2 + 5 + 1) (by decide), q3 (2 + 5 + 2) (by decide), q3 (2 + 5 + 3) (by decide), g 6 (by decide) (by decide) (by decide) (by decide)]
    refine ⟨a5.1, a5.2.1, a5.2.2.1, fun i hi => ?_⟩
    have := a5.2.2.1
    rw [g (10 + 3 * i) (by omega) (by omega) (by omega) (by omega), g (11 + 3 * i) (by omega) (by omega) (by omega) (by omega), g (12 + 3 * i) (by omega) (by omega) (by omega) (by omega)]
    exact a5.2.2.2 i hi
theorem zo_vow (k s : Int) : zo 122 207 [.inl k, .inl s] := fun μ hi => by
  obtain ⟨⟨s1, s2, s3⟩, _, _, ⟨σ, c1, c2, hk⟩, _⟩ := hi.1
  exact c_Vos_vow (za_vowC hk s3 s1 c1 fun μ1 z1 d1 => ⟨z1 0 (by decide), za_vowM (sis := μ 61 0) hk ⟨s2, s3⟩ (by rw [z1 61 (by decide)]) (by rw [z1 61 (by decide)]; exact c2) fun μ2 z2 g2 d2 => ⟨rfl, zi_deed hi z1 d1 z2 g2 d2 (za_vow_ok hk)⟩⟩)
theorem zo_pass (k s t : Int) : zo 124 210 [.inl k, .inl s, .inl t] := fun μ hi => by
  obtain ⟨⟨s1, s2, s3⟩, _, _, ⟨σ, c1, c2, hk⟩, _⟩ := hi.1
  exact c_Vos_pass (za_passC hk s3 s1 c1 fun μ1 z1 d1 => ⟨z1 0 (by decide), za_passM (sis := μ 61 0) hk ⟨s2, s3⟩ (by rw [z1 61 (by decide)]) (by rw [z1 61 (by decide)]; exact c2) fun μ2 z2 g2 d2 => ⟨rfl, zi_deed hi z1 d1 z2 g2 d2 (za_pass_ok hk)⟩⟩)
theorem zo_forgive (n : Int) : zo 125 211 [.inl n] := fun μ hi => by
  obtain ⟨⟨s1, s2, s3⟩, _, _, ⟨σ, c1, c2, hk⟩, _⟩ := hi.1
  exact c_Vos_forgive (za_forgC hk s3 c1 fun μ1 z1 d1 => ⟨z1 0 (by decide), za_forgM hk (by rw [z1 61 (by decide)]; exact c2) fun μ2 z2 g2 d2 => ⟨rfl, zi_deed hi z1 d1 z2 g2 d2 (za_forg_ok hk)⟩⟩)
theorem zo_later (n : Int) : zo 126 212 [.inl n] := fun μ hi => by
  obtain ⟨⟨s1, s2, s3⟩, _, _, ⟨σ, c1, c2, hk⟩, _⟩ := hi.1
  exact c_Vos_later (za_laterC hk c1 fun μ1 z1 d1 => ⟨z1 0 (by decide), za_laterM hk (by rw [z1 61 (by decide)]; exact c2) fun μ2 z2 g2 d2 => ⟨rfl, zi_deed hi z1 d1 z2 g2 d2 (za_later_ok hk)⟩⟩)
theorem zo_undo : zo 130 206 [] := fun μ hi => by
  obtain ⟨⟨s1, s2, s3⟩, _, _, ⟨σ, c1, c2, hk⟩, _⟩ := hi.1
  exact za_undoC hk c1 fun μ1 z1 d1 => ⟨z1 0 (by decide), za_undoM hk (by rw [z1 61 (by decide)]; exact c2) fun μ2 z2 g2 d2 => ⟨rfl, zi_deed hi (z1.up (by decide)) d1 z2 g2 d2 (za_undo_ok hk)⟩⟩
/-- nothing of what the tie looks at has changed -/
theorem zo_same {cm rm : Nat} {as : List zk_V} (h : ∀ μ, zi μ → ∃ a : Int, (∀ B : Int → zk_M → Prop, B a μ → zk_C cm (.inr (.inr (.inl 1)) :: as) μ (zk_RI B)) ∧ (∀ B : Int → zk_M → Prop, B a μ → zk_C rm (.inr (.inr (.inl 60)) :: as) μ (zk_RI B))) : zo cm rm as := fun μ hi => by
  obtain ⟨a, h1, h2⟩ := h μ hi
  exact h1 _ ⟨rfl, h2 _ ⟨rfl, hi, rfl⟩⟩
theorem zo_fault (n : Int) : zo 120 192 [.inl n] := fun μ hi => by
  have h5 := hi.2.2.2.2.1
  refine c_Vos_fault ⟨fun q => ⟨fun p => ⟨rfl, c_Mod_fault ⟨fun _ => ⟨fun _ => ⟨rfl, hi, rfl⟩, fun e => absurd e p⟩, fun e => absurd e q⟩⟩, fun p => ⟨rfl, c_Mod_fault ⟨fun _ => ⟨fun e => absurd p e, fun _ => ⟨h5.2, hi, rfl⟩⟩, fun e => absurd e q⟩⟩⟩, fun q => ⟨rfl, c_Mod_fault ⟨fun e => absurd q e, fun _ => ⟨h5.1, hi, rfl⟩⟩⟩⟩
theorem zo_sister : zo 116 157 [] := fun μ hi => by
  obtain ⟨⟨s1, s2, s3⟩, t, r, ⟨σ, c1, c2, hk⟩, td⟩ := hi.1
  refine c_Vos_sister ⟨fun q => ⟨by omega, by omega, zk_set_o (by decide), c_Mod_sister ?_⟩, fun q => ⟨rfl, c_Mod_sister ⟨fun p => by omega, fun _ => ⟨rfl, hi, rfl⟩⟩⟩⟩
  rw [zk_set_o (k := 2) (c := 61) (by decide)]
  refine ⟨fun p => ⟨by omega, by omega, by omega, ?_, ?_⟩, fun p => by omega⟩
  · have z : zq [2, 61] μ (zk_set (zk_set μ 2 0 (μ 2 0 + 1)) 61 0 (μ 61 0 + 1)) := ((zq.rf _ _).set (by decide) _ _).set (by decide) _ _
    have e2 : ∀ i : Int, i ≠ 0 → zk_set (zk_set μ 2 0 (μ 2 0 + 1)) 61 0 (μ 61 0 + 1) 2 i = μ 2 i := fun i hi => by rw [zk_set_o (by decide), zk_set_n hi]
    have e61 : ∀ i : Int, i ≠ 0 → zk_set (zk_set μ 2 0 (μ 2 0 + 1)) 61 0 (μ 61 0 + 1) 61 i = μ 61 i := fun i hi => by rw [zk_set_n hi, zk_set_o (by decide)]
    have f61 : zk_set (zk_set μ 2 0 (μ 2 0 + 1)) 61 0 (μ 61 0 + 1) 61 0 = μ 61 0 + 1 := zk_set_s _ _ _ _
    have f2 : zk_set (zk_set μ 2 0 (μ 2 0 + 1)) 61 0 (μ 61 0 + 1) 2 0 = μ 2 0 + 1 := by rw [zk_set_o (by decide), zk_set_s]
    generalize zk_set (zk_set μ 2 0 (μ 2 0 + 1)) 61 0 (μ 61 0 + 1) = ν at *
    refine zi_now hi (z.up (by decide)) ⟨by rw [f61, f2]; omega, by rw [e2 1 (by decide), e61 3 (by decide)]; exact t, by rw [e2 2 (by decide), e61 3 (by decide), e61 4 (by decide)]; exact r, ⟨σ, za_C_cg (z _ (by decide)) (z _ (by decide)) (z _ (by decide)) c1, ?_, ?_⟩, ?_⟩ (e61 3 (by decide))
    · obtain ⟨g1, g2, g3, g4, g5⟩ := c2
      refine ⟨by rw [e61 1 (by decide)]; exact g1, by rw [e61 2 (by decide)]; exact g2, fun n hn => ?_, by rw [e61 5 (by decide)]; exact g4, fun j r hj => ?_⟩
      · rw [e61 _ (by omega), e61 (47 + 4 * n) (by omega), e61 (48 + 4 * n) (by omega), e61 (49 + 4 * n) (by omega)]
        exact g3 n hn
      · obtain ⟨k1, k2, k3⟩ := g5 j r hj
        refine ⟨by rw [e61 _ (by omega)]; exact k1, by rw [e61 _ (by omega)]; exact k2, fun n hn => ?_⟩
        rw [e61 _ (by omega), e61 (47 + 4 * n) (by omega), e61 (168 + 62 * j + 2 * n) (by omega), e61 (169 + 62 * j + 2 * n) (by omega)]
        exact k3 n hn
    · rw [f61]
      exact za_ok_sis hk (by omega)
    · unfold zi_td at *
      rw [z (2 + 5) (by decide), z (2 + 5 + 1) (by decide), z (2 + 5 + 2) (by decide), z (2 + 5 + 3) (by decide), e61 6 (by decide)]
      refine ⟨td.1, td.2.1, td.2.2.1, fun i hi => ?_⟩
      rw [e61 (10 + 3 * i) (by omega), e61 (11 + 3 * i) (by omega), e61 (12 + 3 * i) (by omega)]
      exact td.2.2.2 i hi
  · rw [zk_set_o (by decide), zk_set_o (by decide)]
