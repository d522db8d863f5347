/-! done tied *-/
theorem zo_done (s w n x4 : Int) : zo 137 232 [.inl s, .inl w, .inl n, .inl x4] := fun μ hi => by
  obtain ⟨⟨s1, s2, s3⟩, t, ⟨r1, r2, r3⟩, ⟨σ, c1, c2, hk⟩, _⟩ := hi.1
  obtain ⟨Lw, Lg, l1, l2, l3, l4⟩ := zi_laws hi (x := μ 61 4) ⟨r2, r3⟩
  have c30 := hk.1.1
  have no : ¬ ((0 ≤ s ∧ s < μ 61 0) ∧ (0 ≤ w ∧ w ≤ 999) ∧ 0 ≤ n ∧ n ≤ 4) → (fun r1 μ1 => μ1 0 = μ 0 ∧ zk_C 232 (.inr (.inr (.inl 60)) :: [.inl s, .inl w, .inl n, .inl x4]) μ1 (zk_RI fun r2 μ2 => r1 = r2 ∧ zi μ2 ∧ μ2 0 = μ 0)) (-1 : Int) μ := fun q => by
    have fin : (fun r2 μ2 => (-1 : Int) = r2 ∧ zi μ2 ∧ μ2 0 = μ 0) (-1 : Int) μ := ⟨rfl, hi, rfl⟩
    exact ⟨rfl, c_Mod_done (sp_isSister ⟨s2, s3⟩ (fun a1 a2 => ⟨fun q => absurd q (by decide), fun _ => sp_isIn (fun b1 b2 => ⟨fun q => absurd q (by decide), fun _ => sp_isIn (fun d1 d2 => absurd ⟨⟨a1, a2⟩, ⟨b1, b2⟩, d1, d2⟩ q) (fun _ => ⟨fun q => absurd rfl q, fun _ => fin⟩)⟩) (fun _ => ⟨fun _ => fin, fun q => absurd rfl q⟩)⟩) (fun _ => ⟨fun _ => fin, fun q => absurd rfl q⟩))⟩
  refine c_Vos_done (sp_hasSister (fun a1 a2 => ⟨fun q => absurd q (by decide), fun _ => ⟨fun q => no (by omega), fun q1 => ⟨fun q => no (by omega), fun q2 => ⟨fun q => no (by omega), fun q3 => ⟨fun q4 => ?_, fun q => no (by omega)⟩⟩⟩⟩⟩) (fun q => ⟨fun _ => no (by omega), fun q => absurd rfl q⟩))
  obtain ⟨k, rfl⟩ := Int.eq_ofNat_of_zero_le (show 0 ≤ n by omega)
  refine sp_pLook (s := s) hk s3 (by omega) c1 (by rw [r1]; exact l1) (by rw [r1]; exact l2) (fun μ1 z1 hA => ?_)
  have h8 := hA.1
  have hp0 : 0 < 2 ^ za_n σ s := Nat.two_pow_pos _
  have h6n : 6 ^ k ≤ 1296 := Nat.pow_le_pow_right (n := 6) (j := 4) (by decide) (by omega)
  have hcnt : zn_c (fun d S => zn_nx (zn_gs Lg σ s d) (za_n σ s) S) (fun S => zn_S (zn_w Lw σ s) (za_n σ s) S == w) 6 k (2 ^ za_n σ s - 1) ≤ 1296 := by
    rw [← zn_cnt]
    exact Nat.le_trans (zb_c_le _ _) h6n
  have ref : ∀ (ν : zk_M) (v : Int), zq zi_sc μ ν → v = (if x4 = 0 then ((zn_c (fun d S => zn_nx (zn_gs Lg σ s d) (za_n σ s) S) (fun S => zn_S (zn_w Lw σ s) (za_n σ s) S == w) 6 k (2 ^ za_n σ s - 1) : Nat) : Int) else ((if zn_c (fun d S => zn_nx (zn_gs Lg σ s d) (za_n σ s) S) (fun S => zn_S (zn_w Lw σ s) (za_n σ s) S == w) 6 k (2 ^ za_n σ s - 1) = 0 then 0 else zn_all (fun b => zn_c (fun d S => zn_nx (zn_gs Lg σ s d) (za_n σ s) S) (fun S => zn_S (zn_w Lw σ s) (za_n σ s) S == w) b k (2 ^ za_n σ s - 1)) : Nat) : Int)) → ν 0 = μ 0 ∧ zk_C 232 (.inr (.inr (.inl 60)) :: [.inl s, .inl w, .inl (k : Int), .inl x4]) ν (zk_RI fun r2 μ2 => v = r2 ∧ zi μ2 ∧ μ2 0 = μ 0) := fun ν v z hv => by
    have e61 : ν 61 = μ 61 := z 61 (by decide)
    have e63 : ν 63 = μ 63 := z 63 (by decide)
    have c2' : za_M (ν 61) σ := by rw [e61]; exact c2
    refine ⟨z 0 (by decide), c_Mod_done (sp_isSister (by rw [e61]; exact ⟨s2, s3⟩) (fun _ _ => ⟨fun q => absurd q (by decide), fun _ => sp_isIn (fun _ _ => ⟨fun q => absurd q (by decide), fun _ => sp_isIn (fun _ _ => ⟨fun _ => sp_stonesOf c2'.1 c30 ?_, fun q => absurd q (by decide)⟩) (fun q => by omega)⟩) (fun q => by omega)⟩) (fun q => by rw [e61] at q; omega))⟩
    rw [za_insM c2', ← zn_ph_all]
    refine ⟨fun q => ?_, fun q => ⟨fun q5 => ⟨?_, zi_scq (z.set (by decide) _ _) hi, by rw [zk_set_o (by decide)]; exact z 0 (by decide)⟩, fun q5 => ?_⟩⟩
    · obtain ⟨r, rfl⟩ : ∃ r, k = r + 1 := ⟨k - 1, by omega⟩
      have y : zq zi_sc μ (zk_set (zk_set ν 80 0 ((zn_ph σ s (2 ^ za_n σ s - 1) : Nat) : Int)) 79 0 (-1)) := (z.set (by decide) _ _).set (by decide) _ _
      have y61 : zk_set (zk_set ν 80 0 ((zn_ph σ s (2 ^ za_n σ s - 1) : Nat) : Int)) 79 0 (-1) 61 = μ 61 := y 61 (by decide)
      have y63 : zk_set (zk_set ν 80 0 ((zn_ph σ s (2 ^ za_n σ s - 1) : Nat) : Int)) 79 0 (-1) 63 = μ 63 := y 63 (by decide)
      have y80 : zk_set (zk_set ν 80 0 ((zn_ph σ s (2 ^ za_n σ s - 1) : Nat) : Int)) 79 0 (-1) 80 ((0 : Nat) : Int) = ((zn_ph σ s (2 ^ za_n σ s - 1) : Nat) : Int) := by rw [zk_set_o (by decide)]; exact zk_set_s _ _ _ _
      have y79 : zk_set (zk_set ν 80 0 ((zn_ph σ s (2 ^ za_n σ s - 1) : Nat) : Int)) 79 0 (-1) 79 ((0 : Nat) : Int) = ((0 : Nat) : Int) - 1 := zk_set_s _ _ _ _
      generalize zk_set (zk_set ν 80 0 ((zn_ph σ s (2 ^ za_n σ s - 1) : Nat) : Int)) 79 0 (-1) = ν1 at *
      have key := sp_dfs (B := fun r2 μ2 => v = r2 ∧ zi μ2 ∧ μ2 0 = μ 0) (μ := ν1) (s := s) (Lw := Lw) (Lg := Lg) (wt := w) (x4 := x4) (n := r + 1) hk s3 (by rw [y61]; exact c2) (by rw [y61]; exact zvM_q y63 l3) (by rw [y61]; exact zvM_q y63 l4) (by omega) r 0 (by omega) (2 ^ za_n σ s - 1) (fun _ => 0) (by omega) 0 (by decide) (fun _ => 0) ν1 (zq.rf _ _) y80 y79 (fun i hi => by omega) ?_ (fun N' ν' z' _ hN' => ?_)
      · exact key
      · rw [zn_c] at hcnt
        rw [show 6 - 0 = 6 from rfl, zn_sf_6]
        omega
      · have hq : ∀ q, q ≤ 6 → N' q = zn_c (fun d S => zn_nx (zn_gs Lg σ s d) (za_n σ s) S) (fun S => zn_S (zn_w Lw σ s) (za_n σ s) S == w) q (r + 1) (2 ^ za_n σ s - 1) := fun q hq => by
          rw [hN' q hq, zn_np, show 6 - 0 = 6 from rfl, zn_sf_6, zn_c, Nat.zero_add]
          rfl
        have hall : zn_all N' = zn_all (fun b => zn_c (fun d S => zn_nx (zn_gs Lg σ s d) (za_n σ s) S) (fun S => zn_S (zn_w Lw σ s) (za_n σ s) S == w) b (r + 1) (2 ^ za_n σ s - 1)) := zn_all_cg (fun b hb => hq b (by omega))
        rw [← hq 6 (by decide), ← hall] at hv
        have zf : zq zi_sc μ ν' := y.tr (z'.up (by decide))
        refine t_Mod_done_93 ⟨fun _ => ⟨fun q5 => ⟨?_, zi_scq zf hi, zf 0 (by decide)⟩, fun q5 => ⟨fun q6 => ⟨?_, zi_scq zf hi, zf 0 (by decide)⟩, fun q6 => ⟨?_, zi_scq zf hi, zf 0 (by decide)⟩⟩⟩, fun q => absurd (by decide) q⟩
        · rw [if_pos q5] at hv
          exact hv
        · rw [if_neg q5, if_neg (by omega)] at hv
          exact hv
        · rw [if_neg q5, if_pos (by omega)] at hv
          exact hv
    · have k0 : k = 0 := by omega
      subst k0
      rw [if_neg q5] at hv
      rw [hv, zn_c]
      cases hV : (zn_S (zn_w Lw σ s) (za_n σ s) (2 ^ za_n σ s - 1) == w)
      · rfl
      · simp only [zn_c, hV]
        rfl
    · have k0 : k = 0 := by omega
      subst k0
      rw [if_pos q5, zn_c] at hv
      rw [e61]
      refine sp_wM (Lw := Lw) (s := s) hk s3 (by rw [zk_set_o (by decide)]; exact c2') (zvM_q (by rw [zk_set_o (by decide)]; exact e63) l3) (fun ν2 z2 => ?_)
      have zf : zq zi_sc μ ν2 := (z.set (by decide) _ _).tr (z2.up (by decide))
      refine ⟨fun q6 => ⟨?_, zi_scq zf hi, zf 0 (by decide)⟩, fun q6 => ⟨?_, zi_scq zf hi, zf 0 (by decide)⟩⟩
      · rw [hv, q6]
        simp
      · rw [hv]
        simp [q6]
  refine sp_guess hA (by omega) (fun μ2 z2 g0 g1 => ?_)
  have zz : zq zi_sc μ μ2 := (z1.up (by decide)).tr (z2.up (by decide))
  exact ⟨fun q => ref μ2 _ zz (by rw [if_pos q]; exact g0), fun q => ref μ2 _ zz (by rw [if_neg q]; exact g1)⟩
