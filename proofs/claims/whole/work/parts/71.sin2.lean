/-! sin tied *-/
def za_sn (L : Option (List (Int × Int))) (sin s sis : Int) (σ : za_S) : Int := if (0 ≤ sin ∧ sin ≤ 5) ∧ 0 ≤ s ∧ s < sis then za_ftg L σ s sin else -1
def za_sin (L : Option (List (Int × Int))) (sin s sis : Int) (σ : za_S) : Int × za_S := za_strip (za_sn L sin s sis σ) σ
theorem za_ftg_r {L : Option (List (Int × Int))} {σ : za_S} {s sin : Int} : za_ftg L σ s sin = -1 ∨ 0 ≤ za_ftg L σ s sin ∧ za_ftg L σ s sin < σ.1.1 := by
  unfold za_ftg
  rcases zb_s_spec (fun n => (σ.1.2.2 n).2.2.1 == s && zv_g L σ sin n) σ.1.1 0 with h | ⟨j, h1, h2, h3, h4⟩
  · exact Or.inl h.1
  · rw [h3]
    right
    omega
theorem za_sn_r {L : Option (List (Int × Int))} {σ : za_S} {s sin sis : Int} : za_sn L sin s sis σ = -1 ∨ 0 ≤ za_sn L sin s sis σ ∧ za_sn L sin s sis σ < σ.1.1 := by
  unfold za_sn
  split
  · exact za_ftg_r
  · exact Or.inl rfl
theorem za_sin_ok {L : Option (List (Int × Int))} {σ : za_S} {s sin sis : Int} (h : za_ok σ sis) : za_ok (za_sin L sin s sis σ).2 sis := za_strip_ok h za_sn_r
theorem za_sin_1 {L : Option (List (Int × Int))} {σ : za_S} {s sin sis : Int} : (za_sin L sin s sis σ).1 = za_sn L sin s sis σ := by
  unfold za_sin za_strip
  split
  · rename_i h
    rw [h]
  · rfl
section
variable {μ : zk_M} {BV : zk_M → Prop} {B : Int → zk_M → Prop} {σ : za_S} {sis : Int}
theorem za_sinC {s sin : Int} {L : Option (List (Int × Int))} (hk : za_ok σ sis) (hs : sis ≤ 6) (h : za_C μ 4 σ) (h20 : μ 2 0 = sis) (hL : zgC μ (μ 2 2) L) (hB : ∀ μ', zq (4 :: 5 :: 6 :: zi_lc) μ μ' → za_C μ' 4 (za_sin L sin s sis σ).2 → B (za_sin L sin s sis σ).1 μ') : zk_C 6 [.inr (.inr (.inl 2)), .inl sin, .inl s, .inr (.inr (.inl 22))] μ (zk_RI fun r μ1 => zk_C 7 [.inr (.inr (.inl 2)), .inl r] μ1 (zk_RI B)) :=
  sp_ftg hk hs h h20 hL (fun μ1 z1 => za_stripC hk hs (za_C_cg (z1 _ (by decide)) (z1 _ (by decide)) (z1 _ (by decide)) h) (za_sn_r (L := L) (s := s) (sin := sin) (sis := sis)) (fun μ2 z2 c2 => hB μ2 ((z1.up (by decide)).tr (z2.up (by decide))) c2))
theorem za_sinM {s sin : Int} {L : Option (List (Int × Int))} (hk : za_ok σ sis) (hs : 0 ≤ sis ∧ sis ≤ 6) (h0 : μ 61 0 = sis) (h : za_M (μ 61) σ) (hL : zvM μ (μ 61 4) 1 (1, 0) L) (hB : ∀ μ', zq (61 :: zi_lm) μ μ' → (∀ i : Int, i < 46 → i ≠ 1 → i ≠ 2 → i ≠ 5 → μ' 61 i = μ 61 i) → za_M (μ' 61) (za_sin L sin s sis σ).2 → B (za_sin L sin s sis σ).1 μ') : zk_C 208 [.inr (.inr (.inl 60)), .inl sin, .inl s] μ (zk_RI B) := by
  have no : za_sn L sin s sis σ = -1 → ∀ ν, zq zi_lm μ ν → B (-1) ν := fun q ν z => by
    have e : za_sin L sin s sis σ = (-1, σ) := by
      unfold za_sin za_strip
      rw [if_pos q]
    rw [e] at hB
    refine hB ν (z.up (by decide)) (fun i _ _ _ _ => by rw [z 61 (by decide)]) ?_
    rw [z 61 (by decide)]
    exact h
  have no2 : ¬ ((0 ≤ sin ∧ sin ≤ 5) ∧ 0 ≤ s ∧ s < sis) → B (-1) μ := fun q => no (if_neg q) μ (zq.rf _ _)
  have et : za_tk L σ (zs_mof μ s σ.1.1) sin = za_ftg L σ s sin := by rw [za_insM h, za_tk_in]
  refine c_Mod_sin (sp_isKind (fun a1 a2 => ⟨fun q => absurd q (by decide), fun _ => sp_isSister (by omega) (fun b1 b2 => ⟨fun _ => sp_stonesOf h.1 hk.1.1 (sp_taken hk hs.2 h (Nat.lt_trans (zb_t_le30 hk.1.1) (by decide)) ⟨a1, a2⟩ hL (fun μ1 z1 => ?_)), fun q => absurd q (by decide)⟩) (fun q => ⟨fun q => absurd rfl q, fun _ => no2 (by omega)⟩)⟩) (fun q => ⟨fun _ => no2 (by omega), fun q => absurd rfl q⟩))
  rw [et]
  have es : za_sn L sin s sis σ = za_ftg L σ s sin := if_pos ⟨⟨a1, a2⟩, b1, by omega⟩
  have hr := za_ftg_r (L := L) (σ := σ) (s := s) (sin := sin)
  refine ⟨fun q => ?_, fun q => no (by omega) μ1 z1⟩
  have e : za_sin L sin s sis σ = (za_ftg L σ s sin, za_mv (za_ftg L σ s sin).toNat 6 (σ.1.2.2 (za_ftg L σ s sin).toNat).2.2.2 (za_keep σ)) := by
    unfold za_sin za_strip
    rw [es, if_neg (by omega)]
  rw [e] at hB
  exact za_keepM hk (by rw [z1 61 (by decide)]; exact h) fun μ2 z2 g2 c2 => za_dropM (za_keep_ok hk) c2 q (by show za_ftg L σ s sin < (σ.1.1 : Int); omega) fun μ3 z3 g3 c3 => hB μ3 ((z1.up (by decide)).tr ((z2.up (by decide)).tr (z3.up (by decide)))) (fun i i1 i2 i3 i5 => by rw [g3 i i1, g2 i (by omega) i5, z1 61 (by decide)]) c3
end
theorem zi_deed2 {μ μ1 μ2 : zk_M} {σ : za_S} (hi : zi μ) (q1 : zq (4 :: 5 :: 6 :: zi_sc) μ μ1) (c1 : za_C μ1 4 σ) (q2 : zq (61 :: zi_sc) μ1 μ2) (g : ∀ i : Int, i < 46 → i ≠ 1 → i ≠ 2 → i ≠ 5 → μ2 61 i = μ1 61 i) (c2 : za_M (μ2 61) σ) (hk : za_ok σ (μ 61 0)) : zi μ2 ∧ μ2 0 = μ 0 := by
  have e1 : ∀ c, c ∉ zi_sc → (fun c => if c ∈ zi_sc then μ c else μ1 c : zk_M) c = μ1 c := fun c hc => if_neg hc
  have e2 : ∀ c, c ∉ zi_sc → (fun c => if c ∈ zi_sc then μ c else μ2 c : zk_M) c = μ2 c := fun c hc => if_neg hc
  have f1 : ∀ c, c ∈ zi_sc → (fun c => if c ∈ zi_sc then μ c else μ1 c : zk_M) c = μ c := fun c hc => if_pos hc
  have f2 : ∀ c, c ∈ zi_sc → (fun c => if c ∈ zi_sc then μ c else μ2 c : zk_M) c = μ c := fun c hc => if_pos hc
  generalize (fun c => if c ∈ zi_sc then μ c else μ1 c : zk_M) = ν1 at e1 f1
  generalize (fun c => if c ∈ zi_sc then μ c else μ2 c : zk_M) = ν2 at e2 f2
  have k := zi_deed (μ1 := ν1) (μ2 := ν2) (σ := σ) hi (fun c hc => ?_) (za_C_cg (e1 _ (by decide)) (e1 _ (by decide)) (e1 _ (by decide)) c1) (fun c hc => ?_) (fun i i1 i2 i3 i5 => by rw [e1 61 (by decide), e2 61 (by decide)]; exact g i i1 i2 i3 i5) (by rw [e2 61 (by decide)]; exact c2) hk
  · refine ⟨zi_scq (fun c hc => (e2 c hc).symm) k.1, ?_⟩
    rw [← e2 0 (by decide)]
    exact k.2
  · by_cases q : c ∈ zi_sc
    · exact f1 c q
    · rw [e1 c q]
      refine q1 c (fun h => ?_)
      simp only [List.mem_cons] at h hc
      rcases h with h | h | h | h
      · exact hc (Or.inl h)
      · exact hc (Or.inr (Or.inl h))
      · exact hc (Or.inr (Or.inr (Or.inl h)))
      · exact q h
  · by_cases q : c ∈ zi_sc
    · rw [f1 c q, f2 c q]
    · rw [e1 c q, e2 c q]
      refine q2 c (fun h => ?_)
      simp only [List.mem_cons] at h hc
      rcases h with h | h
      · exact hc (Or.inl h)
      · exact q h
theorem zo_sin (x y : Int) : zo 123 208 [.inl x, .inl y] := fun μ hi => by
  obtain ⟨⟨s1, s2, s3⟩, t, ⟨r1, r2, r3⟩, ⟨σ, c1, c2, hk⟩, _⟩ := hi.1
  obtain ⟨Lw, Lg, l1, l2, l3, l4⟩ := zi_laws hi (x := μ 61 4) ⟨r2, r3⟩
  refine c_Vos_sin (za_sinC (L := Lg) hk s3 c1 s1 (by rw [r1]; exact l2) fun μ1 z1 d1 => ⟨z1 0 (by decide), ?_⟩)
  have e61 : μ1 61 = μ 61 := z1 61 (by decide)
  exact za_sinM (sis := μ 61 0) (L := Lg) hk ⟨s2, s3⟩ (by rw [e61]) (by rw [e61]; exact c2) (by rw [e61]; exact zvM_q (z1 63 (by decide)) l4) fun μ2 z2 g2 d2 => ⟨rfl, zi_deed2 hi (z1.up (by decide)) d1 (z2.up (by decide)) g2 d2 (za_sin_ok hk)⟩
