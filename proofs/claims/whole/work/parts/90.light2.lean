/-! light on the class's side *-/
section
variable {μ : zk_M} {BV : zk_M → Prop} {B : Int → zk_M → Prop} {m : Nat} {w : Nat → Int} {gs : Nat → Nat → Bool} {bd : Int}
theorem zr_N_gs (gs : Nat → Nat → Bool) (m : Nat) : zr_N (fun d S => zn_nx (gs d) m S) m := fun _ _ hS => zn_nx_r hS
theorem sp_few {S : Nat} (hS : S < 256) (h : B (μ 59 S) μ) : zk_C 36 [.inr (.inr (.inl 56)), .inl (S : Int)] μ (zk_RI B) :=
  c_Pen_fewestFrom ⟨fun q => by omega, fun _ => ⟨fun q => by omega, fun _ => ⟨by omega, h⟩⟩⟩
theorem sp_few1 (h : B 99 μ) : zk_C 36 [.inr (.inr (.inl 56)), .inl (-1)] μ (zk_RI B) :=
  c_Pen_fewestFrom ⟨fun _ => h, fun q => absurd (by decide) q⟩
/-- what stands behind a sin -/
def zr_fb (F : Nat → Int) (x : Int) : Int := if x = -1 then 99 else F x.toNat
theorem sp_fewB {S d : Nat} (hA : zn_A μ m w gs) (hS : S < 2 ^ m) (hd : d < 6) (h : B (zr_fb (fun S => μ 59 S) (zn_nx (gs d) m S)) μ) : zk_C 35 [.inr (.inr (.inl 56)), .inl (S : Int), .inl (d : Int)] μ (zk_RI fun r12 μ11 => zk_C 36 [.inr (.inr (.inl 56)), .inl r12] μ11 (zk_RI B)) := by
  have hp : 2 ^ m ≤ 256 := Nat.pow_le_pow_right (n := 2) (j := 8) (by decide) hA.1
  refine sp_behind hA hS hd ?_
  unfold zr_fb at h
  rcases zn_nx_r (gs := gs d) hS with e | ⟨e1, e2, _⟩
  · rw [e] at h ⊢
    exact sp_few1 h
  · rw [if_neg (by omega)] at h
    obtain ⟨x, hx⟩ := Int.eq_ofNat_of_zero_le e1
    rw [hx, Int.toNat_natCast] at h e2
    rw [hx]
    exact sp_few (by omega) h
theorem sp_lighten (hA : zn_A μ m w gs) (hB : ∀ μ', zq [59] μ μ' → (∀ S, S < 2 ^ m → zr_F1 (fun d S => zn_nx (gs d) m S) (fun S => zn_S w m S ≤ bd) (fun S => μ' 59 S) S) → B (if μ' 59 ((2 ^ m - 1 : Nat) : Int) < 99 then μ' 59 ((2 ^ m - 1 : Nat) : Int) else -1) μ') : zk_C 37 [.inr (.inr (.inl 56)), .inl bd] μ (zk_RI B) := by
  have h8 := hA.1
  have hp : 2 ^ m ≤ 256 := Nat.pow_le_pow_right (n := 2) (j := 8) (by decide) h8
  have hp0 : 0 < 2 ^ m := Nat.two_pow_pos m
  have hN := zr_N_gs gs m
  have lp : ∀ n, n ≤ 2 ^ m → (∀ ν, zq [59] μ ν → (∀ S, S < n → zr_F1 (fun d S => zn_nx (gs d) m S) (fun S => zn_S w m S ≤ bd) (fun S => ν 59 S) S) → zk_K 37 11 [.inr (.inr (.inl 56)), .inl bd, .inl (((2 ^ m : Nat) : Int) - 1), .inl (n : Int), .inr (.inr (.inr 0))] [] ν (zk_RI B)) := by
    refine zl_up (fun ν z g => t_Pen_lighten_11 ⟨fun _ => ?_, fun q => absurd (by omega) q⟩) (fun n hn ih ν z g => ?_)
    · have b := hB ν z g
      rw [show ((2 ^ m : Nat) : Int) - 1 = ((2 ^ m - 1 : Nat) : Int) by omega]
      refine sp_few (by omega) ⟨fun q => sp_few (by omega) ?_, fun q => ?_⟩
      · rw [if_pos q] at b
        exact b
      · rw [if_neg q] at b
        exact b
    · have hq : ∀ (ξ : zk_M), zq [59] μ ξ → zn_A ξ m w gs := fun ξ y => zn_A_q hA (by rw [y 56 (by decide)]) (y 57 (by decide)) (y 58 (by decide))
      have gcg : ∀ (ξ : zk_M), (∀ S : Nat, S < n → ξ 59 S = ν 59 S) → ∀ S, S < n → zr_F1 (fun d S => zn_nx (gs d) m S) (fun S => zn_S w m S ≤ bd) (fun S => ξ 59 S) S := fun ξ e S hS => zr_F1_cg hN (by omega) (fun R hR => e R (by omega)) (g S hS)
      refine t_Pen_lighten_11 ⟨fun q => by omega, fun _ => ⟨fun q => by omega, fun _ => ⟨by omega, sp_pW (hq _ (z.set (by decide) _ _)) (by omega) ⟨fun q => ?_, fun q => ⟨by omega, ?_⟩⟩⟩⟩⟩
      · have hT : ¬ zn_S w m n ≤ bd := by omega
        have l2 : ∀ j : Nat, j ≤ 6 → (∀ ξ, zq [59] μ ξ → (∀ S : Nat, S < n → ξ 59 S = ν 59 S) → (1 ≤ ξ 59 n ∧ ξ 59 n ≤ 99 ∧ (∀ d, d < j → zn_nx (gs d) m n ≠ -1 → ξ 59 n ≤ ξ 59 ((zn_nx (gs d) m n).toNat : Nat) + 1) ∧ (ξ 59 n < 99 → ∃ d, d < j ∧ zn_nx (gs d) m n ≠ -1 ∧ ξ 59 n = ξ 59 ((zn_nx (gs d) m n).toNat : Nat) + 1)) → zk_K 37 52 [.inr (.inr (.inl 56)), .inl bd, .inl (((2 ^ m : Nat) : Int) - 1), .inl (n : Int), .inl (j : Int)] [] ξ (zk_RI B)) := by
          refine zl_up (P := fun j => ∀ ξ, zq [59] μ ξ → (∀ S : Nat, S < n → ξ 59 S = ν 59 S) → (1 ≤ ξ 59 n ∧ ξ 59 n ≤ 99 ∧ (∀ d, d < j → zn_nx (gs d) m n ≠ -1 → ξ 59 n ≤ ξ 59 ((zn_nx (gs d) m n).toNat : Nat) + 1) ∧ (ξ 59 n < 99 → ∃ d, d < j ∧ zn_nx (gs d) m n ≠ -1 ∧ ξ 59 n = ξ 59 ((zn_nx (gs d) m n).toNat : Nat) + 1)) → zk_K 37 52 [.inr (.inr (.inl 56)), .inl bd, .inl (((2 ^ m : Nat) : Int) - 1), .inl (n : Int), .inl (j : Int)] [] ξ (zk_RI B)) (fun ξ y ye hv => t_Pen_lighten_52 ⟨fun _ => ⟨by omega, ih ξ y (fun S hS => ?_)⟩, fun q => absurd (by decide) q⟩) (fun j hj ih2 ξ y ye hv => ?_)
          · by_cases e : S = n
            · rw [e]
              exact ⟨fun p => absurd p hT, fun _ => hv⟩
            · exact gcg ξ ye S (by omega)
          · obtain ⟨v1, v2, v3, v4⟩ := hv
            refine t_Pen_lighten_52 ⟨fun q => by omega, fun _ => ⟨by omega, fun q => by omega, fun _ => ⟨by omega, sp_fewB (hq ξ y) hn hj ?_⟩⟩⟩
            have nxr := zn_nx_r (gs := gs j) hn
            have fb : (zn_nx (gs j) m n = -1 ∧ zr_fb (fun S => ξ 59 S) (zn_nx (gs j) m n) = 99) ∨ (zn_nx (gs j) m n ≠ -1 ∧ (zn_nx (gs j) m n).toNat < n ∧ zr_fb (fun S => ξ 59 S) (zn_nx (gs j) m n) = ξ 59 ((zn_nx (gs j) m n).toNat : Nat) ∧ 0 ≤ ξ 59 ((zn_nx (gs j) m n).toNat : Nat) ∧ ξ 59 ((zn_nx (gs j) m n).toNat : Nat) ≤ 99) := by
              unfold zr_fb
              rcases nxr with e | ⟨e1, e2, e3, e4⟩
              · exact Or.inl ⟨e, if_pos e⟩
              · have r := zr_F1_r (gcg ξ ye _ e4)
                exact Or.inr ⟨by omega, e4, if_neg (by omega), r.1, r.2⟩
            have hz : ∀ x : Int, zk_set ξ 59 (n : Int) x 59 n = x := fun x => zk_set_s _ _ _ _
            have hz2 : ∀ (x : Int) (S : Nat), S < n → zk_set ξ 59 (n : Int) x 59 S = ξ 59 S := fun x S hS => zk_set_n (by omega)
            have lt : ∀ d, zn_nx (gs d) m n ≠ -1 → (zn_nx (gs d) m n).toNat < n := fun d hd => by
              rcases zn_nx_r (gs := gs d) hn with e | ⟨_, _, _, e4⟩
              · exact absurd e hd
              · exact e4
            refine ⟨by omega, by omega, by omega, ih2 _ (y.set (by decide) _ _) (fun S hS => (hz2 _ S hS).trans (ye S hS)) ?_⟩
            rw [hz]
            refine ⟨by omega, by omega, fun d hd hne => ?_, fun hlt => ?_⟩
            · rw [hz2 _ _ (lt d hne)]
              by_cases e : d = j
              · subst e
                rcases fb with ⟨f1, _⟩ | ⟨_, _, f3, _⟩
                · exact absurd f1 hne
                · omega
              · have := v3 d (by omega) hne
                omega
            · by_cases e : ξ 59 n ≤ zr_fb (fun S => ξ 59 S) (zn_nx (gs j) m n) + 1
              · rw [Int.min_eq_left e] at hlt ⊢
                obtain ⟨d, d1, d2, d3⟩ := v4 hlt
                exact ⟨d, by omega, d2, by rw [hz2 _ _ (lt d d2)]; exact d3⟩
              · rw [Int.min_eq_right (by omega)] at hlt ⊢
                rcases fb with ⟨f1, f2⟩ | ⟨f1, f2, f3, _⟩
                · omega
                · exact ⟨j, by omega, f1, by rw [hz2 _ _ f2, f3]⟩
        refine l2 0 (by decide) _ (z.set (by decide) _ _) (fun S hS => zk_set_n (by omega)) ?_
        rw [zk_set_s]
        exact ⟨by decide, by decide, fun d hd => by omega, fun p => absurd p (by decide)⟩
      · refine t_Pen_lighten_52 ⟨fun q => absurd q (by decide), fun _ => ⟨by omega, fun _ => ⟨by omega, ih _ ((z.set (by decide) _ _).set (by decide) _ _) (fun S hS => ?_)⟩, fun q2 => absurd (by rw [zk_set_s]; decide) q2⟩⟩
        by_cases e : S = n
        · rw [e]
          exact ⟨fun _ => zk_set_s _ _ _ _, fun p => absurd (by omega) p⟩
        · exact gcg _ (fun R hR => by rw [zk_set_n (by omega), zk_set_n (by omega)]) S (by omega)
  refine c_Pen_lighten ?_
  rw [hA.2.1, zb_one (by omega)]
  exact ⟨by omega, lp 0 (Nat.zero_le _) μ (zq.rf _ _) (fun S hS => by omega)⟩
theorem sp_lowest {S : Nat} (hA : zn_A μ m w gs) (hS : S < 2 ^ m) (hF : ∀ R, R < 2 ^ m → 0 ≤ μ 59 (R : Nat) ∧ μ 59 (R : Nat) ≤ 99) (h : B (zr_lo (fun d S => zn_nx (gs d) m S) (fun S => μ 59 S) S) μ) : zk_C 39 [.inr (.inr (.inl 56)), .inl (S : Int)] μ (zk_RI B) := by
  have hp : 2 ^ m ≤ 256 := Nat.pow_le_pow_right (n := 2) (j := 8) (by decide) hA.1
  have lp : ∀ j : Nat, j ≤ 6 → (zb_s (fun d => decide (zn_nx (gs d) m S ≠ -1 ∧ μ 59 ((zn_nx (gs d) m S).toNat : Nat) + 1 = μ 59 (S : Nat))) (6 - j) j = zr_lo (fun d S => zn_nx (gs d) m S) (fun S => μ 59 S) S → zk_K 39 2 [.inr (.inr (.inl 56)), .inl (S : Int), .inl (j : Int)] [] μ (zk_RI B)) := by
    refine zl_up (P := fun j => zb_s (fun d => decide (zn_nx (gs d) m S ≠ -1 ∧ μ 59 ((zn_nx (gs d) m S).toNat : Nat) + 1 = μ 59 (S : Nat))) (6 - j) j = zr_lo (fun d S => zn_nx (gs d) m S) (fun S => μ 59 S) S → zk_K 39 2 [.inr (.inr (.inl 56)), .inl (S : Int), .inl (j : Int)] [] μ (zk_RI B)) (fun e => t_Pen_lowestSin_2 ⟨fun _ => ?_, fun q => absurd (by decide) q⟩) (fun j hj ih e => t_Pen_lowestSin_2 ⟨fun q => by omega, fun _ => sp_fewB hA hS hj ?_⟩)
    · rw [← e] at h
      exact h
    · rw [zb_s_st hj] at e
      have hs := hF S hS
      have fb : (zn_nx (gs j) m S = -1 ∧ zr_fb (fun S => μ 59 S) (zn_nx (gs j) m S) = 99) ∨ (zn_nx (gs j) m S ≠ -1 ∧ zr_fb (fun S => μ 59 S) (zn_nx (gs j) m S) = μ 59 ((zn_nx (gs j) m S).toNat : Nat) ∧ 0 ≤ μ 59 ((zn_nx (gs j) m S).toNat : Nat) ∧ μ 59 ((zn_nx (gs j) m S).toNat : Nat) ≤ 99) := by
        unfold zr_fb
        rcases zn_nx_r (gs := gs j) hS with k | ⟨k1, k2, k3, k4⟩
        · exact Or.inl ⟨k, if_pos k⟩
        · exact Or.inr ⟨by omega, if_neg (by omega), hF _ k2⟩
      refine ⟨by omega, sp_few (by omega) ⟨fun q => ⟨by omega, ih ?_⟩, fun q => ?_⟩⟩
      · rw [← e, if_neg]
        simp only [decide_eq_true_eq]
        intro p
        rcases fb with f | f
        · exact p.1 f.1
        · omega
      · have c : zn_nx (gs j) m S ≠ -1 ∧ μ 59 ((zn_nx (gs j) m S).toNat : Nat) + 1 = μ 59 (S : Nat) := by
          rcases fb with f | f
          · omega
          · exact ⟨f.1, by omega⟩
        rw [← e, if_pos (by simp only [decide_eq_true_eq]; exact c)] at h
        exact h
  exact c_Pen_lowestSin (lp 0 (by decide) rfl)
theorem sp_sinAt {i f : Nat} (hA : zn_A μ m w gs) (hF : ∀ S, S < 2 ^ m → zr_F1 (fun d S => zn_nx (gs d) m S) (fun S => zn_S w m S ≤ bd) (fun S => μ 59 S) S) (hf : μ 59 ((2 ^ m - 1 : Nat) : Int) = (f : Int)) (hf8 : f ≤ 8) (hi : i < f) (h : B ((zr_gr (fun d S => zn_nx (gs d) m S) (fun S => μ 59 S) f (2 ^ m - 1)).getD i 0 : Nat) μ) : zk_C 38 [.inr (.inr (.inl 56)), .inl (i : Int)] μ (zk_RI B) := by
  have hp : 2 ^ m ≤ 256 := Nat.pow_le_pow_right (n := 2) (j := 8) (by decide) hA.1
  have hp0 : 0 < 2 ^ m := Nat.two_pow_pos m
  have hN := zr_N_gs gs m
  have lp : ∀ j : Nat, j ≤ i + 1 → (∀ (S : Nat) (x3 : Int), (j = i + 1 → x3 = (((zr_gr (fun d S => zn_nx (gs d) m S) (fun S => μ 59 S) f (2 ^ m - 1)).getD i 0 : Nat) : Int)) → (j ≤ i → S < 2 ^ m ∧ μ 59 (S : Nat) = ((f - j : Nat) : Int) ∧ zr_gr (fun d S => zn_nx (gs d) m S) (fun S => μ 59 S) (f - j) S = (zr_gr (fun d S => zn_nx (gs d) m S) (fun S => μ 59 S) f (2 ^ m - 1)).drop j) → zk_K 38 14 [.inr (.inr (.inl 56)), .inl (i : Int), .inl (S : Int), .inl x3, .inl (j : Int)] [] μ (zk_RI B)) := by
    refine zl_up (fun S x3 hx _ => t_Pen_sinAt_14 ⟨fun _ => ?_, fun q => absurd (by omega) q⟩) (fun j hj ih S x3 _ hc => ?_)
    · rw [hx rfl]
      exact h
    · obtain ⟨hS, hF1, hg⟩ := hc (by omega)
      obtain ⟨d, e1, e2, e3, e4, e5, _⟩ := zr_lo_p (T := fun S => zn_S w m S ≤ bd) hN hF hS (f := f - (j + 1)) (by omega) (by omega)
      rw [show f - j = (f - (j + 1)) + 1 by omega, zr_gr, e1, Int.toNat_natCast] at hg
      have hx := List.getElem?_drop (xs := zr_gr (fun d S => zn_nx (gs d) m S) (fun S => μ 59 S) f (2 ^ m - 1)) (i := j) (j := 0)
      rw [← hg] at hx
      have hx2 : (zr_gr (fun d S => zn_nx (gs d) m S) (fun S => μ 59 S) f (2 ^ m - 1)).getD j 0 = d := by
        rw [List.getD_eq_getElem?_getD, show j = j + 0 from rfl, ← hx]
        rfl
      have hdr : (zr_gr (fun d S => zn_nx (gs d) m S) (fun S => μ 59 S) f (2 ^ m - 1)).drop (j + 1) = zr_gr (fun d S => zn_nx (gs d) m S) (fun S => μ 59 S) (f - (j + 1)) (zn_nx (gs d) m S).toNat := by
        rw [← List.drop_drop, ← hg]
        rfl
      refine t_Pen_sinAt_14 ⟨fun q => by omega, fun _ => ⟨fun q => by omega, fun _ => sp_lowest hA hS (fun R hR => zr_F1_r (hF R hR)) ?_⟩⟩
      rw [e1]
      refine sp_behind hA hS e2 ⟨by omega, ?_⟩
      have k := ih (zn_nx (gs d) m S).toNat (d : Int) (fun q => by rw [← hx2, show j = i by omega]) (fun q => ⟨e4, e5, hdr.symm⟩)
      have nn : 0 ≤ zn_nx (gs d) m S := by
        rcases zn_nx_r (gs := gs d) hS with q | q
        · exact absurd q e3
        · exact q.1
      rw [Int.toNat_of_nonneg nn] at k
      exact k
  have h8 := hA.1
  have k := lp 0 (Nat.zero_le _) (2 ^ m - 1) (-1) (fun q => by omega) (fun _ => ⟨by omega, by rw [hf, Nat.sub_zero], rfl⟩)
  refine c_Pen_sinAt ?_
  rw [hA.2.1, zb_one (by omega), show ((2 ^ m : Nat) : Int) - 1 = ((2 ^ m - 1 : Nat) : Int) by omega]
  exact ⟨by omega, k⟩
end
