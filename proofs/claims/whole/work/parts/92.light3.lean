/-! light tied *-/
section
variable {μ : zk_M} {BV : zk_M → Prop} {B : Int → zk_M → Prop} {σ : za_S} {sis s : Int} {Lw Lg : Option (List (Int × Int))} {bd : Int}
theorem sp_findLight (hk : za_ok σ sis) (hs : sis ≤ 6) (h : za_M (μ 61) σ) (hs6 : s ≠ 6) (hL : zvM μ (μ 61 4) 0 (0, 1) Lw) (hG : zvM μ (μ 61 4) 1 (1, 0) Lg) (hy : ∀ (μ' : zk_M) (row : Nat) (P : Nat → List Nat) (R : Nat), zq zi_lb μ μ' → row < 256 → zr_tr μ' P (row + 1) → zr_dg (P row) → zr_run (fun d S => zn_nx (zn_gs Lg σ s d) (za_n σ s) S) (2 ^ za_n σ s - 1) (P row) = (R : Int) → zn_S (zn_w Lw σ s) (za_n σ s) R ≤ bd → (∀ (l' : List Nat) (R' : Nat), zr_dg l' → zr_run (fun d S => zn_nx (zn_gs Lg σ s d) (za_n σ s) S) (2 ^ za_n σ s - 1) l' = (R' : Int) → zn_S (zn_w Lw σ s) (za_n σ s) R' ≤ bd → zr_ext 1 (P row) ≤ zr_ext 1 l') → B (row : Int) μ') (hno : ∀ μ', zq zi_lb μ μ' → (∀ (l' : List Nat) (R' : Nat), zr_dg l' → zr_run (fun d S => zn_nx (zn_gs Lg σ s d) (za_n σ s) S) (2 ^ za_n σ s - 1) l' = (R' : Int) → ¬ zn_S (zn_w Lw σ s) (za_n σ s) R' ≤ bd) → B (-1) μ') : zk_C 230 [.inr (.inr (.inl 60)), .inl s, .inl bd] μ (zk_RI B) := by
  have c30 := hk.1.1
  have h8 : za_n σ s ≤ 8 := hk.1.2.2.2 s hs6
  have hp : 2 ^ za_n σ s ≤ 256 := Nat.pow_le_pow_right (n := 2) (j := 8) (by decide) h8
  have hp0 : 0 < 2 ^ za_n σ s := Nat.two_pow_pos _
  have hN := zr_N_gs (zn_gs Lg σ s) (za_n σ s)
  have lp : ∀ k : Nat, k ≤ 256 → (∀ (n : Nat) (P : Nat → List Nat) (G : Nat → Nat) (fr : Nat) (ν : zk_M), zq zi_lb μ ν → zr_I ν (zn_ph σ s) (fun d S => zn_nx (zn_gs Lg σ s d) (za_n σ s) S) (za_n σ s) (fun S => zn_S (zn_w Lw σ s) (za_n σ s) S ≤ bd) P G n fr → k ≤ n → n ≤ 256 → (k = 0 ∧ fr = 6 ∨ k ≠ 0 ∧ fr = 6 * zr_ext 1 (P (k - 1)) + 6) → zk_K 230 38 [.inr (.inr (.inl 60)), .inr (.inr (.inr 0)), .inl bd, .inl (n : Int), .inl (k : Int), .inr (.inr (.inr 0)), .inr (.inr (.inr 0))] [] ν (zk_RI B)) := by
    have fin : ∀ (n : Nat) (P : Nat → List Nat) (G : Nat → Nat) (fr : Nat) (ν : zk_M), zq zi_lb μ ν → zr_I ν (zn_ph σ s) (fun d S => zn_nx (zn_gs Lg σ s d) (za_n σ s) S) (za_n σ s) (fun S => zn_S (zn_w Lw σ s) (za_n σ s) S ≤ bd) P G n fr → (n = 0 ∧ fr = 6 ∨ n ≠ 0 ∧ fr = 6 * zr_ext 1 (P (n - 1)) + 6) → B (-1) ν := fun n P G fr ν z hI hf => by
      have h1 := hI.1
      have hf : fr = 6 * zr_ext 1 (P (n - 1)) + 6 := by omega
      rw [hf] at hI
      refine hno ν z (fun l' R' hd hr hT => ?_)
      obtain ⟨j, j1, j2⟩ := zr_I_end hN hI _ l' R' rfl hd hr
      have := (hI.2.2.1 j j1).2.2.2.2.1
      rw [j2] at this
      exact this hT
    refine zl_up (P := fun k => ∀ (n : Nat) (P : Nat → List Nat) (G : Nat → Nat) (fr : Nat) (ν : zk_M), zq zi_lb μ ν → zr_I ν (zn_ph σ s) (fun d S => zn_nx (zn_gs Lg σ s d) (za_n σ s) S) (za_n σ s) (fun S => zn_S (zn_w Lw σ s) (za_n σ s) S ≤ bd) P G n fr → k ≤ n → n ≤ 256 → (k = 0 ∧ fr = 6 ∨ k ≠ 0 ∧ fr = 6 * zr_ext 1 (P (k - 1)) + 6) → zk_K 230 38 [.inr (.inr (.inl 60)), .inr (.inr (.inr 0)), .inl bd, .inl (n : Int), .inl (k : Int), .inr (.inr (.inr 0)), .inr (.inr (.inr 0))] [] ν (zk_RI B)) (fun n P G fr ν z hI hkn hn hf => t_Mod_findLight_38 ⟨fun _ => fin n P G fr ν z hI (by rw [show n = 256 by omega]; exact hf), fun q => absurd (by omega) q⟩) (fun k hk256 ih n P G fr ν z hI hkn hn hf => t_Mod_findLight_38 ⟨fun q => fin n P G fr ν z hI (by rw [show n = k by omega]; exact hf), fun q => ?_⟩)
    have hkn' : k < n := by omega
    have hI0 : zr_I ν (zn_ph σ s) (fun d S => zn_nx (zn_gs Lg σ s d) (za_n σ s) S) (za_n σ s) (fun S => zn_S (zn_w Lw σ s) (za_n σ s) S ≤ bd) P G n (6 * zr_ext 1 (P k) + 0) := by
      rcases hf with ⟨f1, f2⟩ | ⟨f1, f2⟩
      · rw [f1, hI.2.1.1]
        rw [f2] at hI
        exact hI
      · obtain ⟨k', rfl⟩ : ∃ k', k = k' + 1 := ⟨k - 1, by omega⟩
        rw [f2, Nat.add_sub_cancel] at hI
        exact zr_I_up hN hkn' hI
    have l2 : ∀ d : Nat, d ≤ 6 → (∀ (n : Nat) (P : Nat → List Nat) (G : Nat → Nat) (ν : zk_M), zq zi_lb μ ν → zr_I ν (zn_ph σ s) (fun d S => zn_nx (zn_gs Lg σ s d) (za_n σ s) S) (za_n σ s) (fun S => zn_S (zn_w Lw σ s) (za_n σ s) S ≤ bd) P G n (6 * zr_ext 1 (P k) + d) → k < n → n ≤ 256 → zk_K 230 47 [.inr (.inr (.inl 60)), .inr (.inr (.inr 0)), .inl bd, .inl (n : Int), .inl (k : Int), .inl (d : Int), .inr (.inr (.inr 0))] [] ν (zk_RI B)) := by
      refine zl_up (P := fun d => ∀ (n : Nat) (P : Nat → List Nat) (G : Nat → Nat) (ν : zk_M), zq zi_lb μ ν → zr_I ν (zn_ph σ s) (fun d S => zn_nx (zn_gs Lg σ s d) (za_n σ s) S) (za_n σ s) (fun S => zn_S (zn_w Lw σ s) (za_n σ s) S ≤ bd) P G n (6 * zr_ext 1 (P k) + d) → k < n → n ≤ 256 → zk_K 230 47 [.inr (.inr (.inl 60)), .inr (.inr (.inr 0)), .inl bd, .inl (n : Int), .inl (k : Int), .inl (d : Int), .inr (.inr (.inr 0))] [] ν (zk_RI B)) (fun n P G ν z hI hkn hn => t_Mod_findLight_47 ⟨fun _ => ⟨by omega, ih n P G _ ν z hI (by omega) hn (Or.inr ⟨by omega, by rw [Nat.add_sub_cancel]⟩)⟩, fun q => absurd (by decide) q⟩) (fun d hd ih2 n P G ν z hI hkn hn => ?_)
      have hg := hI.2.2.1 k hkn
      have e61 : ν 61 = μ 61 := z 61 (by decide)
      have e63 : ν 63 = μ 63 := z 63 (by decide)
      refine t_Mod_findLight_47 ⟨fun q => by omega, fun _ => ⟨by omega, ?_⟩⟩
      rw [hg.1]
      refine sp_take (Lg := Lg) (s := s) hk hs (by rw [e61]; exact h) (by rw [e61]; exact zvM_q e63 hG) hd (fun q ν2 z2 => ⟨fun _ => ⟨by omega, ?_⟩, fun q2 => absurd (by decide) q2⟩) (fun S' hS' rr hrr ν2 z2 => ⟨fun q2 => by omega, fun _ => ⟨by omega, ?_⟩⟩)
      · have hI2 := zr_I_skip hN hkn hd hI (Or.inl q)
        refine ih2 n P G ν2 (z.tr (z2.up (by decide))) ?_ hkn hn
        unfold zr_I zr_tr at hI2 ⊢
        rw [z2 76 (by decide), z2 77 (by decide), z2 78 (by decide)]
        exact hI2
      · have hS2 : S' < 2 ^ za_n σ s := by
          rcases zn_nx_r (gs := zn_gs Lg σ s d) hg.2.1 with q | ⟨q1, q2, _⟩
          · omega
          · rw [hS', Int.toNat_natCast] at q2
            exact q2
        have y76 : ν2 76 = ν 76 := z2 76 (by decide)
        rw [y76, hg.1, hrr]
        refine sp_isFound hn (fun j hj e => ⟨fun q => absurd q (by decide), fun _ => ⟨by omega, ?_⟩⟩) (fun hnew => ⟨fun _ => ⟨by omega, ?_⟩, fun q => absurd rfl q⟩)
        · rw [y76, (hI.2.2.1 j hj).1] at e
          have ej : G j = S' := zn_ph_inj (hI.2.2.1 j hj).2.1 hS2 (by omega)
          have hI2 := zr_I_skip hN hkn hd hI (Or.inr ⟨j, hj, by rw [ej]; exact hS'⟩)
          refine ih2 n P G ν2 (z.tr (z2.up (by decide))) ?_ hkn hn
          unfold zr_I zr_tr at hI2 ⊢
          rw [z2 76 (by decide), z2 77 (by decide), z2 78 (by decide)]
          exact hI2
        · have hne : ∀ j, j < n → G j ≠ S' := fun j hj e => by
            have := hnew j hj
            rw [y76, (hI.2.2.1 j hj).1, e] at this
            exact this rfl
          have hpig := zr_pig (2 ^ za_n σ s) (n + 1) (fun j => if j = n then S' else G j) (fun j hj => by
            by_cases e : j = n
            · simp only [if_pos e]
              exact hS2
            · simp only [if_neg e]
              exact (hI.2.2.1 j (by omega)).2.1) (fun i j hij hj => by
            by_cases e : j = n
            · simp only [if_pos e, if_neg (show ¬ i = n by omega)]
              exact hne i (by omega)
            · simp only [if_neg e, if_neg (show ¬ i = n by omega)]
              exact (hI.2.2.2.1 i j hij (by omega)).2)
          rw [y76, hg.1, hrr, show (n : Int) + 1 - 1 = (n : Int) by omega, zk_set_s, z2 61 (by decide), e61]
          refine ⟨by omega, by omega, by omega, by omega, by omega, by omega, ?_⟩
          have x61 : ∀ c, c ≠ 76 → c ≠ 77 → c ≠ 78 → zk_set (zk_set (zk_set ν2 76 (n : Int) ((zn_ph σ s S' : Nat) : Int)) 77 (n : Int) (k : Int)) 78 (n : Int) (d : Int) c = ν2 c := fun c c1 c2 c3 => by rw [zk_set_o c3, zk_set_o c2, zk_set_o c1]
          have a76 : ∀ j : Int, j ≠ n → zk_set (zk_set (zk_set ν2 76 (n : Int) ((zn_ph σ s S' : Nat) : Int)) 77 (n : Int) (k : Int)) 78 (n : Int) (d : Int) 76 j = ν 76 j := fun j hj => by rw [zk_set_o (by decide), zk_set_o (by decide), zk_set_n hj, y76]
          have a77 : ∀ j : Int, j ≠ n → zk_set (zk_set (zk_set ν2 76 (n : Int) ((zn_ph σ s S' : Nat) : Int)) 77 (n : Int) (k : Int)) 78 (n : Int) (d : Int) 77 j = ν 77 j := fun j hj => by rw [zk_set_o (by decide), zk_set_n hj, zk_set_o (by decide), z2 77 (by decide)]
          have a78 : ∀ j : Int, j ≠ n → zk_set (zk_set (zk_set ν2 76 (n : Int) ((zn_ph σ s S' : Nat) : Int)) 77 (n : Int) (k : Int)) 78 (n : Int) (d : Int) 78 j = ν 78 j := fun j hj => by rw [zk_set_n hj, zk_set_o (by decide), zk_set_o (by decide), z2 78 (by decide)]
          have b76 : zk_set (zk_set (zk_set ν2 76 (n : Int) ((zn_ph σ s S' : Nat) : Int)) 77 (n : Int) (k : Int)) 78 (n : Int) (d : Int) 76 n = ((zn_ph σ s S' : Nat) : Int) := by rw [zk_set_o (by decide), zk_set_o (by decide), zk_set_s]
          have b77 : zk_set (zk_set (zk_set ν2 76 (n : Int) ((zn_ph σ s S' : Nat) : Int)) 77 (n : Int) (k : Int)) 78 (n : Int) (d : Int) 77 n = (k : Int) := by rw [zk_set_o (by decide), zk_set_s]
          have b78 : zk_set (zk_set (zk_set ν2 76 (n : Int) ((zn_ph σ s S' : Nat) : Int)) 77 (n : Int) (k : Int)) 78 (n : Int) (d : Int) 78 n = (d : Int) := zk_set_s _ _ _ _
          have zz : zq zi_lb μ (zk_set (zk_set (zk_set ν2 76 (n : Int) ((zn_ph σ s S' : Nat) : Int)) 77 (n : Int) (k : Int)) 78 (n : Int) (d : Int)) := (((z.tr (z2.up (by decide))).set (by decide) _ _).set (by decide) _ _).set (by decide) _ _
          generalize zk_set (zk_set (zk_set ν2 76 (n : Int) ((zn_ph σ s S' : Nat) : Int)) 77 (n : Int) (k : Int)) 78 (n : Int) (d : Int) = ν3 at *
          refine sp_wM (Lw := Lw) (s := s) hk hs (by rw [zz 61 (by decide)]; exact h) (zvM_q (zz 63 (by decide)) hL) (fun ν4 z4 => ⟨fun q2 => ⟨by omega, ?_⟩, fun q2 => ⟨by omega, ?_⟩⟩)
          · have hI2 := zr_I_new (ν' := ν4) hN hkn hd hI hS' hS2 hne (show ¬ zn_S (zn_w Lw σ s) (za_n σ s) S' ≤ bd by omega) (fun j hj => by rw [z4 76 (by decide)]; exact a76 j (by omega)) (fun j hj => by rw [z4 77 (by decide)]; exact a77 j (by omega)) (fun j hj => by rw [z4 78 (by decide)]; exact a78 j (by omega)) (by rw [z4 76 (by decide)]; exact b76) (by rw [z4 77 (by decide)]; exact b77) (by rw [z4 78 (by decide)]; exact b78)
            have key := ih2 (n + 1) (fun j => if j = n then P k ++ [d] else P j) (fun j => if j = n then S' else G j) ν4 (zz.tr (z4.up (by decide))) (by rw [if_neg (by omega)]; exact hI2) (by omega) (by omega)
            exact key
          · refine hy ν4 n (fun j => if j = n then P k ++ [d] else P j) S' (zz.tr (z4.up (by decide))) (by omega) ⟨by have := hI.1; dsimp only; rw [if_neg (by omega)]; exact hI.2.1.1, fun j hj j0 => ?_⟩ ?_ ?_ (by omega) (fun l' R' hd' hr' hT' => ?_)
            · by_cases e : j = n
              · subst e
                exact ⟨k, d, hkn, hd, by rw [z4 77 (by decide)]; exact b77, by rw [z4 78 (by decide)]; exact b78, by dsimp only; rw [if_pos rfl, if_neg (by omega)]⟩
              · obtain ⟨c, d', c1, c2, c3, c4, c5⟩ := hI.2.1.2 j (by omega) j0
                exact ⟨c, d', c1, c2, by rw [z4 77 (by decide), a77 j (by omega)]; exact c3, by rw [z4 78 (by decide), a78 j (by omega)]; exact c4, by dsimp only; rw [if_neg e, if_neg (by omega)]; exact c5⟩
            · rw [if_pos rfl]
              exact zr_dg_app hg.2.2.1 hd
            · rw [if_pos rfl]
              exact zr_snoc hN hg.2.2.2.1 hS'
            · rw [if_pos rfl, zr_ext_app]
              by_cases e : zr_ext 1 l' < 6 * zr_ext 1 (P k) + d
              · obtain ⟨j, j1, j2, _⟩ := hI.2.2.2.2 l' R' hd' hr' e
                have := (hI.2.2.1 j j1).2.2.2.2.1
                rw [j2] at this
                exact absurd hT' this
              · omega
    exact l2 0 (by decide) n P G ν z hI0 hkn' hn
  refine c_Mod_findLight (sp_stonesOf h.1 c30 ?_)
  rw [za_insM h, ← zn_ph_all]
  have z0 : zq zi_lb μ (zk_set μ 76 0 ((zn_ph σ s (2 ^ za_n σ s - 1) : Nat) : Int)) := (zq.rf _ _).set (by decide) _ _
  refine sp_wM (Lw := Lw) (s := s) hk hs (by rw [z0 61 (by decide)]; exact h) (zvM_q (z0 63 (by decide)) hL) (fun ν z => ⟨fun q => ?_, fun q => ?_⟩)
  · refine lp 0 (by decide) 1 (fun _ => []) (fun _ => 2 ^ za_n σ s - 1) 6 ν (z0.tr (z.up (by decide))) ⟨Nat.le_refl _, ⟨rfl, fun j hj j0 => by omega⟩, fun j hj => ?_, fun i j hij hj => by omega, fun l S hd hr he => ?_⟩ (by decide) (by decide) (Or.inl ⟨rfl, rfl⟩)
    · rw [show j = 0 by omega, z 76 (by decide)]
      exact ⟨zk_set_s _ _ _ _, (show 2 ^ za_n σ s - 1 < 2 ^ za_n σ s by omega), fun x hx => absurd hx (by simp), rfl, (show ¬ zn_S (zn_w Lw σ s) (za_n σ s) (2 ^ za_n σ s - 1) ≤ bd by omega), by decide⟩
    · have e : l = [] := by
        rcases List.eq_nil_or_concat l with e | ⟨l0, d, e⟩
        · exact e
        · rw [List.concat_eq_append] at e
          rw [e, zr_ext_app] at he
          rw [e] at hd
          have := (zr_ext_r l0 1 (zr_dg_un hd).1).1
          have := Nat.pow_pos (n := l0.length) (show 0 < 6 by decide)
          omega
      rw [e] at hr ⊢
      have h1 : ((2 ^ za_n σ s - 1 : Nat) : Int) = (S : Int) := hr
      exact ⟨0, by decide, (show 2 ^ za_n σ s - 1 = S by omega), Nat.le_refl _⟩
  · refine hy ν 0 (fun _ => []) (2 ^ za_n σ s - 1) (z0.tr (z.up (by decide))) (by decide) ⟨rfl, fun j hj j0 => by omega⟩ (fun x hx => absurd hx (by simp)) rfl (by omega) (fun l' R' hd' hr' hT' => ?_)
    have := (zr_ext_r l' 1 hd').1
    have := Nat.pow_pos (n := l'.length) (show 0 < 6 by decide)
    show 1 ≤ _
    omega
/-- up the tree: the i-th sin -/
theorem sp_up {P : Nat → List Nat} {row i : Nat} (ht : zr_tr μ P (row + 1)) (hrow : row < 256) (l : List Nat) (hB : B ((l.getD i 0 : Nat) : Int) μ) (hi : i < l.length) : ∀ (e j : Nat), i ≤ e → j ≤ row → P j = l.take (e + 1) → e < l.length → e ≤ 2000 → zk_K 231 94 [.inr (.inr (.inl 60)), .inr (.inr (.inr 0)), .inr (.inr (.inr 0)), .inl (i : Int), .inr (.inr (.inr 0)), .inr (.inr (.inr 0)), .inl (j : Int), .inl (e : Int)] [] μ (zk_RI B) := by
  intro e
  induction e with
  | zero =>
    intro j hie hj hP he _
    have j0 : j ≠ 0 := fun q => by
      rw [q, ht.1] at hP
      have := congrArg List.length hP
      rw [List.length_take, List.length_nil] at this
      omega
    obtain ⟨c, d, c1, c2, c3, c4, c5⟩ := ht.2 j (by omega) j0
    have hd : l.getD 0 0 = d := by
      rw [c5] at hP
      have e1 : (l.take (0 + 1))[0]? = l[0]? := List.getElem?_take_of_lt (by omega)
      have e2 : (P c ++ [d]).length = 1 := by rw [hP, List.length_take]; omega
      rw [List.length_append, List.length_singleton] at e2
      have e3 : P c = [] := List.length_eq_zero_iff.mp (by omega)
      rw [← hP, e3] at e1
      rw [List.getD_eq_getElem?_getD, ← e1]
      rfl
    have i0 : i = 0 := by omega
    have b := hB
    rw [i0, hd] at b
    refine t_Mod_light_94 ⟨fun _ => ⟨by omega, by rw [c4]; exact b⟩, fun q => absurd (by omega) q⟩
  | succ e ih =>
    intro j hie hj hP he he2
    have j0 : j ≠ 0 := fun q => by
      rw [q, ht.1] at hP
      have := congrArg List.length hP
      rw [List.length_take, List.length_nil] at this
      omega
    obtain ⟨c, d, c1, c2, c3, c4, c5⟩ := ht.2 j (by omega) j0
    rw [c5] at hP
    have hlen := congrArg List.length hP
    rw [List.length_append, List.length_singleton, List.length_take, Nat.min_eq_left (by omega)] at hlen
    have hd : l.getD (e + 1) 0 = d := by
      have e1 : (l.take (e + 1 + 1))[e + 1]? = l[e + 1]? := List.getElem?_take_of_lt (by omega)
      rw [← hP, List.getElem?_append_right (by omega), show e + 1 - (P c).length = 0 by omega] at e1
      rw [List.getD_eq_getElem?_getD, ← e1]
      rfl
    have hc : P c = l.take (e + 1) := by
      have e1 := congrArg (List.take (e + 1)) hP
      rw [List.take_left' (by omega), List.take_take, Nat.min_eq_left (by omega)] at e1
      exact e1
    refine t_Mod_light_94 ⟨fun q => ⟨by omega, ?_⟩, fun q => ⟨by omega, by omega, ?_⟩⟩
    · have b := hB
      rw [show i = e + 1 by omega, hd] at b
      rw [c4]
      exact b
    · rw [c3, show ((e + 1 : Nat) : Int) + -1 = (e : Int) by omega]
      exact ih c (by omega) (by omega) hc (by omega) (by omega)
/-- how long the way is -/
theorem sp_cnt {P : Nat → List Nat} {row : Nat} {i : Int} (ht : zr_tr μ P (row + 1)) (hrow : row < 256) (hlen : (P row).length ≤ 1000) (hB : zk_K 231 48 [.inr (.inr (.inl 60)), .inr (.inr (.inr 0)), .inr (.inr (.inr 0)), .inl i, .inl (row : Int), .inl ((P row).length : Int), .inl 0, .inr (.inr (.inr 0))] [] μ (zk_RI B)) : ∀ (b j : Nat), j < b → j ≤ row → ∀ c : Nat, c + (P j).length = (P row).length → zk_K 231 48 [.inr (.inr (.inl 60)), .inr (.inr (.inr 0)), .inr (.inr (.inr 0)), .inl i, .inl (row : Int), .inl (c : Int), .inl (j : Int), .inr (.inr (.inr 0))] [] μ (zk_RI B) := by
  intro b
  induction b with
  | zero => intro j hj; omega
  | succ b ih =>
    intro j hj hjr c hc
    by_cases q : j = 0
    · subst q
      rw [ht.1] at hc
      have : c = (P row).length := by simpa using hc
      rw [this]
      exact hB
    · obtain ⟨a, d, c1, c2, c3, c4, c5⟩ := ht.2 j (by omega) q
      rw [c5, List.length_append, List.length_singleton] at hc
      refine t_Mod_light_48 ⟨fun q => by omega, fun _ => ⟨by omega, by omega, ?_⟩⟩
      rw [c3]
      exact ih a (by omega) (by omega) (c + 1) (by omega)
end
theorem zo_light (s bd i : Int) : zo 136 231 [.inl s, .inl bd, .inl i] := fun μ hi => by
  obtain ⟨⟨s1, s2, s3⟩, t, ⟨r1, r2, r3⟩, ⟨σ, c1, c2, hk⟩, _⟩ := hi.1
  obtain ⟨Lw, Lg, l1, l2, l3, l4⟩ := zi_laws hi (x := μ 61 4) ⟨r2, r3⟩
  have c30 := hk.1.1
  have no : ¬ ((0 ≤ s ∧ s < μ 61 0) ∧ (0 ≤ bd ∧ bd ≤ 999) ∧ -1 ≤ i) → (fun r1 μ1 => μ1 0 = μ 0 ∧ zk_C 231 (.inr (.inr (.inl 60)) :: [.inl s, .inl bd, .inl i]) μ1 (zk_RI fun r2 μ2 => r1 = r2 ∧ zi μ2 ∧ μ2 0 = μ 0)) (-1 : Int) μ := fun q => by
    have fin : (fun r2 μ2 => (-1 : Int) = r2 ∧ zi μ2 ∧ μ2 0 = μ 0) (-1 : Int) μ := ⟨rfl, hi, rfl⟩
    exact ⟨rfl, c_Mod_light (sp_isSister ⟨s2, s3⟩ (fun a1 a2 => ⟨fun q => absurd q (by decide), fun _ => sp_isIn (fun b1 b2 => ⟨fun q => absurd q (by decide), fun _ => ⟨fun d1 => absurd ⟨⟨a1, a2⟩, ⟨b1, b2⟩, d1⟩ q, fun _ => fin⟩⟩) (fun _ => ⟨fun _ => fin, fun q => absurd rfl q⟩)⟩) (fun _ => ⟨fun _ => fin, fun q => absurd rfl q⟩))⟩
  refine c_Vos_light (sp_hasSister (fun a1 a2 => ⟨fun q => absurd q (by decide), fun _ => ⟨fun q => no (by omega), fun q1 => ⟨fun q => no (by omega), fun q2 => ⟨fun q3 => ?_, fun q => no (by omega)⟩⟩⟩⟩) (fun q => ⟨fun _ => no (by omega), fun q => absurd rfl q⟩))
  refine sp_pLook (s := s) hk s3 (by omega) c1 (by rw [r1]; exact l1) (by rw [r1]; exact l2) (fun μ1 z1 hA => ?_)
  have h8 := hA.1
  have hp : 2 ^ za_n σ s ≤ 256 := Nat.pow_le_pow_right (n := 2) (j := 8) (by decide) h8
  have hp0 : 0 < 2 ^ za_n σ s := Nat.two_pow_pos _
  have hN := zr_N_gs (zn_gs Lg σ s) (za_n σ s)
  refine sp_lighten (bd := bd) hA (fun μ2 z2 hF => ?_)
  have hA2 : zn_A μ2 (za_n σ s) (zn_w Lw σ s) (zn_gs Lg σ s) := zn_A_q hA (by rw [z2 56 (by decide)]) (z2 57 (by decide)) (z2 58 (by decide))
  have zz : zq zi_sc μ μ2 := (z1.up (by decide)).tr (z2.up (by decide))
  have e61 : μ2 61 = μ 61 := zz 61 (by decide)
  have e63 : μ2 63 = μ 63 := zz 63 (by decide)
  have m0 : μ2 0 = μ 0 := zz 0 (by decide)
  have fr := zr_F1_r (hF (2 ^ za_n σ s - 1) (by omega))
  have ref : ∀ v : Int, (∀ f : Nat, μ2 59 ((2 ^ za_n σ s - 1 : Nat) : Int) = (f : Int) → f ≤ 8 → v = (if i = -1 then (f : Int) else if i < f then (((zr_gr (fun d S => zn_nx (zn_gs Lg σ s d) (za_n σ s) S) (fun S => μ2 59 S) f (2 ^ za_n σ s - 1)).getD i.toNat 0 : Nat) : Int) else -1)) → (¬ μ2 59 ((2 ^ za_n σ s - 1 : Nat) : Int) < 99 → v = -1) → μ2 0 = μ 0 ∧ zk_C 231 (.inr (.inr (.inl 60)) :: [.inl s, .inl bd, .inl i]) μ2 (zk_RI fun r2 μ3 => v = r2 ∧ zi μ3 ∧ μ3 0 = μ 0) := fun v hv1 hv2 => by
    refine ⟨m0, c_Mod_light (sp_isSister (by rw [e61]; exact ⟨s2, s3⟩) (fun _ _ => ⟨fun q => absurd q (by decide), fun _ => sp_isIn (fun _ _ => ⟨fun q => absurd q (by decide), fun _ => ⟨fun _ => sp_findLight (Lw := Lw) (Lg := Lg) hk s3 (by rw [e61]; exact c2) (by omega) (by rw [e61]; exact zvM_q e63 l3) (by rw [e61]; exact zvM_q e63 l4) (fun μ3 row P R z3 hrow htr hdg hrun hT hleast => ⟨fun _ => ?_, fun q => absurd (by omega) q⟩) (fun μ3 z3 hnone => ⟨fun q => absurd q (by decide), fun _ => ⟨?_, zi_scq (zz.tr (z3.up (by decide))) hi, (zz.tr (z3.up (by decide))) 0 (by decide)⟩⟩), fun q => by omega⟩⟩) (fun q => by omega)⟩) (fun q => by rw [e61] at q; omega))⟩
    · obtain ⟨f, f1, f2, f3⟩ := zr_same (T := fun S => zn_S (zn_w Lw σ s) (za_n σ s) S ≤ bd) hN hF h8 (by omega) hdg hrun hT hleast
      have hv := hv1 f f1 f2
      rw [← f3] at hv
      have hl : (P row).length = f := by rw [f3, zr_gr_len]
      have zf : zq zi_sc μ μ3 := zz.tr (z3.up (by decide))
      have fin : zi μ3 ∧ μ3 0 = μ 0 := ⟨zi_scq zf hi, zf 0 (by decide)⟩
      refine sp_cnt htr hrow (by omega) ?_ (row + 1) row (by omega) (Nat.le_refl _) 0 (by omega)
      refine t_Mod_light_48 ⟨fun _ => ⟨fun q4 => ⟨fun q5 => ⟨by omega, ?_⟩, fun q5 => ⟨?_, fin⟩⟩, fun q4 => ⟨?_, fin⟩⟩, fun q => absurd (by decide) q⟩
      · rw [if_neg q4, if_pos (by omega)] at hv
        obtain ⟨k, rfl⟩ := Int.eq_ofNat_of_zero_le (show 0 ≤ i by omega)
        rw [Int.toNat_natCast] at hv
        have key := sp_up (B := fun r2 μ3 => (((P row).getD k 0 : Nat) : Int) = r2 ∧ zi μ3 ∧ μ3 0 = μ 0) (i := k) htr hrow (P row) ⟨rfl, fin⟩ (by omega) ((P row).length - 1) row (by omega) (Nat.le_refl _) (by rw [show (P row).length - 1 + 1 = (P row).length by omega, List.take_length]) (by omega) (by omega)
        rw [show (((P row).length - 1 : Nat) : Int) = ((P row).length : Int) - 1 by omega, ← hv] at key
        exact key
      · rw [if_neg q4, if_neg (by omega)] at hv
        exact hv
      · rw [if_pos q4] at hv
        rw [hl]
        exact hv
    · by_cases q : μ2 59 ((2 ^ za_n σ s - 1 : Nat) : Int) < 99
      · obtain ⟨f, f1⟩ := Int.eq_ofNat_of_zero_le fr.1
        obtain ⟨g1, R', g2, g3⟩ := zr_gr_p (T := fun S => zn_S (zn_w Lw σ s) (za_n σ s) S ≤ bd) hN hF f (2 ^ za_n σ s - 1) (by omega) f1 (by omega)
        exact absurd g3 (hnone _ R' g1 g2)
      · exact hv2 q
  by_cases q : μ2 59 ((2 ^ za_n σ s - 1 : Nat) : Int) < 99
  · rw [if_pos q]
    obtain ⟨f, f1⟩ := Int.eq_ofNat_of_zero_le fr.1
    have f1 : μ2 59 ((2 ^ za_n σ s - 1 : Nat) : Int) = (f : Int) := f1
    obtain ⟨g1, R', g2, g3⟩ := zr_gr_p (T := fun S => zn_S (zn_w Lw σ s) (za_n σ s) S ≤ bd) hN hF f (2 ^ za_n σ s - 1) (by omega) f1 (by omega)
    have f8 : f ≤ 8 := by
      rcases zr_run_r hN (zr_gr (fun d S => zn_nx (zn_gs Lg σ s d) (za_n σ s) S) (fun S => μ2 59 S) f (2 ^ za_n σ s - 1)) (2 ^ za_n σ s - 1) (by omega) with k | ⟨_, _, k3⟩
      · rw [g2] at k
        omega
      · rw [zr_gr_len] at k3
        have := zb_c_le (2 ^ za_n σ s - 1).testBit (za_n σ s)
        omega
    rw [f1]
    refine ⟨fun q4 => ⟨fun q5 => ref _ (fun f' e1 e2 => ?_) (fun q6 => absurd q q6), fun q5 => ?_⟩, fun q4 => ref _ (fun f' e1 e2 => ?_) (fun q6 => absurd q q6)⟩
    · rw [if_neg q4, if_neg (by omega)]
    · obtain ⟨k, rfl⟩ := Int.eq_ofNat_of_zero_le (show 0 ≤ i by omega)
      refine sp_sinAt (bd := bd) (f := f) hA2 hF f1 f8 (by omega) (ref _ (fun f' e1 e2 => ?_) (fun q6 => absurd q q6))
      have : f' = f := by omega
      subst this
      rw [if_neg q4, if_pos (by omega), Int.toNat_natCast]
    · rw [if_pos q4]
      omega
  · rw [if_neg q]
    have bad : ∀ f' : Nat, μ2 59 ((2 ^ za_n σ s - 1 : Nat) : Int) = (f' : Int) → f' ≤ 8 → False := fun f' e1 e2 => by omega
    exact ⟨fun q4 => ⟨fun _ => ref _ (fun f' e1 e2 => (bad f' e1 e2).elim) (fun _ => rfl), fun q5 => absurd q3 q5⟩, fun q4 => ref _ (fun f' e1 e2 => (bad f' e1 e2).elim) (fun _ => rfl)⟩
