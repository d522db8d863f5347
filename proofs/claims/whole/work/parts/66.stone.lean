/-! stone, veil *-/
def za_st (L : Option (List (Int × Int))) (σ : za_S) (x y : Int) : Int := if (0 ≤ x ∧ x < σ.1.1) ∧ 0 ≤ y ∧ y ≤ 4 then (if y = 4 then zv_wt L (σ.1.2.2 x.toNat) σ.1.2.1 x else za_k (σ.1.2.2 x.toNat) y) else -1
section
variable {μ : zk_M} {BV : zk_M → Prop} {B : Int → zk_M → Prop} {σ : za_S} {sis : Int}
theorem sp_stoneC {x y : Int} {L : Option (List (Int × Int))} (hk : za_ok σ sis) (hs : sis ≤ 6) (h : za_C μ 4 σ) (hL : zvC μ (μ 2 2) L) (hB : ∀ μ', zq zi_lc μ μ' → B (za_st L σ x y) μ') : zk_C 131 [.inr (.inr (.inl 1)), .inl x, .inl y] μ (zk_RI B) := by
  have hc := za_C_c h
  have hc30 := hk.1.1
  have b0 := hB μ (zq.rf _ _)
  refine c_Vos_stone (sp_has (by omega) (fun a1 a2 => ⟨fun _ => ⟨fun q => za_kdC hk h a1 (by omega) ?_, fun q0 => ⟨fun q => za_swC hk h a1 (by omega) ?_, fun q1 => ⟨fun q => za_plC hk h a1 (by omega) ?_, fun q2 => ⟨fun q => za_ownC hk h a1 (by omega) ?_, fun q3 => ⟨fun q => sp_weightC hk hs h a1 (by omega) hL (fun ν z => ?_), fun q => ?_⟩⟩⟩⟩⟩, fun q => absurd q (by decide)⟩) (fun q => ⟨fun q => absurd rfl q, fun _ => ?_⟩))
  · rw [za_st, if_pos ⟨⟨a1, by omega⟩, by omega, by omega⟩, if_neg (by omega), q] at b0
    exact b0
  · rw [za_st, if_pos ⟨⟨a1, by omega⟩, by omega, by omega⟩, if_neg (by omega), q] at b0
    exact b0
  · rw [za_st, if_pos ⟨⟨a1, by omega⟩, by omega, by omega⟩, if_neg (by omega), q] at b0
    exact b0
  · rw [za_st, if_pos ⟨⟨a1, by omega⟩, by omega, by omega⟩, if_neg (by omega), q] at b0
    exact b0
  · have b := hB ν z
    rw [za_st, if_pos ⟨⟨a1, by omega⟩, by omega, by omega⟩, if_pos q] at b
    exact b
  · rw [za_st, if_neg (by omega)] at b0
    exact b0
  · rw [za_st, if_neg (by omega)] at b0
    exact b0
theorem sp_stoneM {x y : Int} {L : Option (List (Int × Int))} (hk : za_ok σ sis) (hs : sis ≤ 6) (h : za_M (μ 61) σ) (hL : zvM μ (μ 61 4) 0 (0, 1) L) (hB : ∀ μ', zq zi_lm μ μ' → B (za_st L σ x y) μ') : zk_C 217 [.inr (.inr (.inl 60)), .inl x, .inl y] μ (zk_RI B) := by
  have b0 := hB μ (zq.rf _ _)
  refine c_Mod_stone (za_stoM hk h (fun a1 a2 => ⟨fun q => absurd q (by decide), fun _ => sp_isIn (fun y1 y2 => ⟨fun _ => ⟨fun q => sp_weightM hk hs h a1 a2 hL (fun ν z => ?_), fun q => za_getM hk h a1 a2 y1 (by omega) ?_⟩, fun q => absurd q (by decide)⟩) (fun q => ⟨fun q => absurd rfl q, fun _ => ?_⟩)⟩) (fun q => ⟨fun _ => ?_, fun q => absurd rfl q⟩))
  · have b := hB ν z
    rw [za_st, if_pos ⟨⟨a1, a2⟩, y1, y2⟩, if_pos (by omega)] at b
    exact b
  · rw [za_st, if_pos ⟨⟨a1, a2⟩, y1, y2⟩, if_neg (by omega)] at b0
    exact b0
  · rw [za_st, if_neg (by omega)] at b0
    exact b0
  · rw [za_st, if_neg (by omega)] at b0
    exact b0
end
theorem zo_stone (x y : Int) : zo 131 217 [.inl x, .inl y] := fun μ hi => by
  obtain ⟨⟨s1, s2, s3⟩, t, ⟨r1, r2, r3⟩, ⟨σ, c1, c2, hk⟩, _⟩ := hi.1
  obtain ⟨Lw, Lg, l1, l2, l3, l4⟩ := zi_laws hi (x := μ 61 4) ⟨r2, r3⟩
  refine sp_stoneC hk s3 c1 (by rw [r1]; exact l1) fun μ1 z1 => ⟨z1 0 (by decide), ?_⟩
  have e61 : μ1 61 = μ 61 := z1 61 (by decide)
  refine sp_stoneM hk s3 (by rw [e61]; exact c2) (by rw [e61]; exact zvM_q (z1 63 (by decide)) l3) fun μ2 z2 => ⟨rfl, zi_scq ((z1.up (by decide)).tr (z2.up (by decide))) hi, ?_⟩
  rw [z2 0 (by decide), z1 0 (by decide)]
