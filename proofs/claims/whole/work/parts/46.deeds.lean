/-! deeds: both sides follow one plain function on the stones *-/
def za_keep (σ : za_S) : za_S := (σ.1, σ.2.drop (zd_d σ.2.length) ++ [σ.1])
theorem za_kl {σ : za_S} (h : σ.2.length ≤ 30) : (za_keep σ).2.length = zd_m σ.2.length + 1 := by
  simp [za_keep, zd_d, zd_m]
  split <;> omega
theorem za_kg {σ : za_S} (h : σ.2.length ≤ 30) {j : Nat} {r : za_R} (hj : (za_keep σ).2[j]? = some r) : (j < zd_m σ.2.length ∧ σ.2[zd_d σ.2.length + j]? = some r) ∨ (j = zd_m σ.2.length ∧ r = σ.1) := by
  have e : zd_m σ.2.length = σ.2.length - zd_d σ.2.length := by unfold zd_m zd_d; split <;> omega
  simp only [za_keep] at hj
  rw [List.getElem?_append] at hj
  split at hj
  · rename_i hl
    rw [List.length_drop] at hl
    rw [List.getElem?_drop] at hj
    exact Or.inl ⟨by omega, hj⟩
  · rename_i hl
    rw [List.length_drop] at hl hj
    right
    have : j - (σ.2.length - zd_d σ.2.length) = 0 := by
      by_cases q : j - (σ.2.length - zd_d σ.2.length) = 0
      · exact q
      · rw [List.getElem?_eq_none (by simp; omega)] at hj
        exact absurd hj (by simp)
    rw [this] at hj
    simp at hj
    exact ⟨by omega, hj.symm⟩
theorem za_keep_ok {σ : za_S} {sis : Int} (h : za_ok σ sis) : za_ok (za_keep σ) sis := by
  obtain ⟨h1, h2, h3, h4⟩ := h
  refine ⟨h1, ?_, fun j r hj => ?_, fun i j r q hij hi hj => ?_⟩
  · rw [za_kl h2]
    unfold zd_m
    split <;> omega
  · rcases za_kg h2 hj with ⟨_, q⟩ | ⟨_, q⟩
    · exact h3 _ _ q
    · rw [q]
      exact ⟨h1, Nat.le_refl _⟩
  · rcases za_kg h2 hi with ⟨a1, q1⟩ | ⟨a1, q1⟩ <;> rcases za_kg h2 hj with ⟨a2, q2⟩ | ⟨a2, q2⟩
    · exact h4 _ _ _ _ (by omega) q1 q2
    · rw [q2]
      exact (h3 _ _ q1).2
    · omega
    · rw [q1, q2]
      exact Nat.le_refl _
section
variable {μ : zk_M} {BV : zk_M → Prop} {B : Int → zk_M → Prop} {σ : za_S} {sis : Int}
theorem za_keepC (hk : za_ok σ sis) (h : za_C μ 4 σ) (hB : ∀ μ', zq [5, 6] μ μ' → za_C μ' 4 (za_keep σ) → BV μ') : zk_C 85 [.inr (.inr (.inl 5)), .inr (.inr (.inl 3))] μ (zk_RV BV) := by
  have hl := hk.2.1
  obtain ⟨h1, o, ho, h2, h3, h4⟩ := h
  refine sp_keep hl ho h3 h2 fun μ' hq hd => hB μ' hq ⟨?_, (o + zd_d σ.2.length) % 30, by omega, hd.1, ?_, fun j r hj => ?_⟩
  · rw [hq 4 (by decide)]
    exact h1
  · rw [za_kl hl]
    exact hd.2.1.trans (by push_cast; rfl)
  · have e : ((o + zd_d σ.2.length) % 30 + j) % 30 = (o + zd_d σ.2.length + j) % 30 := by omega
    rw [e]
    show za_cr (μ' 6) _ r
    rcases za_kg hl hj with ⟨a, q⟩ | ⟨a, q⟩
    · obtain ⟨k1, k2, k3⟩ := h4 _ _ q
      rw [← Nat.add_assoc] at k1 k2 k3
      have t := hd.2.2.1 j a
      have hb : r.1 ≤ 30 := (hk.2.2.1 _ _ q).1.1
      refine ⟨by rw [t 30 (by omega) (by omega)]; exact k1, by rw [t 31 (by omega) (by omega)]; exact k2, fun n hn => by rw [t n (by omega) (by omega)]; exact k3 n hn⟩
    · have t := hd.2.2.2
      have hb : σ.1.1 ≤ 30 := hk.1.1
      rw [a, q]
      obtain ⟨k1, k2, k3⟩ := h1
      refine ⟨by rw [t 30 (by omega) (by omega)]; exact k1, by rw [t 31 (by omega) (by omega)]; exact k2, fun n hn => by rw [t n (by omega) (by omega), ← k3 n hn]; congr 2; omega⟩
theorem za_keepM (hk : za_ok σ sis) (h : za_M (μ 61) σ) (hB : ∀ μ', zq [61] μ μ' → (∀ i : Int, i < 166 → i ≠ 5 → μ' 61 i = μ 61 i) → za_M (μ' 61) (za_keep σ) → BV μ') : zk_C 205 [.inr (.inr (.inl 60))] μ (zk_RV BV) := by
  have hl := hk.2.1
  obtain ⟨h1, h2, h3, h4, h5⟩ := h
  refine sp_mkeep hl h4 fun μ' hq ⟨d1, d2, d3, d4, d5, d6⟩ => hB μ' hq d1 ⟨by rw [d1 1 (by decide) (by decide)]; exact h1, by rw [d1 2 (by decide) (by decide)]; exact h2, fun n hn => ?_, ?_, fun j r hj => ?_⟩
  · have : n < 30 := Nat.lt_of_lt_of_le hn hk.1.1
    rw [d1 _ (by omega) (by omega), d1 (47 + 4 * n) (by omega) (by omega), d1 (48 + 4 * n) (by omega) (by omega), d1 (49 + 4 * n) (by omega) (by omega)]
    exact h3 n hn
  · rw [za_kl hl]
    exact d2.trans (by push_cast; rfl)
  · rcases za_kg hl hj with ⟨a, q⟩ | ⟨a, q⟩
    · obtain ⟨k1, k2, k3⟩ := h5 _ _ q
      have hb : r.1 ≤ 30 := (hk.2.2.1 _ _ q).1.1
      have t := d3 j a
      rw [Nat.add_comm] at k1 k2 k3
      refine ⟨by have := t 0 (by omega) (by omega); simp only [Int.add_zero] at this; rw [this]; exact k1, ?_, fun n hn => ?_⟩
      · have := t 1 (by omega) (by omega)
        rw [show (167 + 62 * (j : Int)) = 166 + 62 * j + 1 by omega, this, ← k2]
        congr 1
        omega
      · rw [d1 (46 + 4 * n) (by omega) (by omega), d1 (47 + 4 * n) (by omega) (by omega), show (168 + 62 * (j : Int) + 2 * n) = 166 + 62 * j + (2 + 2 * n) by omega, t _ (by omega) (by omega), show (169 + 62 * (j : Int) + 2 * n) = 166 + 62 * j + (3 + 2 * n) by omega, t _ (by omega) (by omega), ← k3 n hn]
        congr 3 <;> congr 1 <;> omega
    · rw [a, q]
      refine ⟨d4.trans h1, d5.trans h2, fun n hn => ?_⟩
      have : n < 30 := Nat.lt_of_lt_of_le hn hk.1.1
      rw [d1 (46 + 4 * n) (by omega) (by omega), d1 (47 + 4 * n) (by omega) (by omega), (d6 n this).1, (d6 n this).2]
      exact h3 n hn
end
def za_sew (k s : Int) (σ : za_S) : za_S := ((σ.1.1 + 1, σ.1.2.1, fun n => if n = σ.1.1 then (k, σ.1.2.1, s, s) else σ.1.2.2 n), σ.2)
def za_mv (n : Nat) (p o : Int) (σ : za_S) : za_S := ((σ.1.1, σ.1.2.1, fun i => if i = n then ((σ.1.2.2 n).1, (σ.1.2.2 n).2.1, p, o) else σ.1.2.2 i), σ.2)
def za_day (σ : za_S) : za_S := ((σ.1.1, σ.1.2.1 + 1, σ.1.2.2), σ.2)
/-- how many are at p -/
def za_n (σ : za_S) (p : Int) : Nat := zb_c (fun n => (σ.1.2.2 n).2.2.1 == p) σ.1.1
theorem zb_c_upd {f g : Nat → Bool} {n : Nat} (h : ∀ j, j ≠ n → g j = f j) : ∀ c, zb_c g c ≤ zb_c f c + 1 ∧ (g n = false → zb_c g c ≤ zb_c f c)
  | 0 => ⟨Nat.zero_le _, fun _ => Nat.le_refl _⟩
  | c + 1 => by
    by_cases q : c = n
    · have : zb_c g c = zb_c f c := zb_c_congr c (fun j hj => h j (by omega))
      subst q
      refine ⟨?_, fun e => ?_⟩ <;> simp only [zb_c, this]
      · cases g c <;> cases f c <;> simp <;> omega
      · rw [e]
        cases f c <;> simp
    · have ih := zb_c_upd h c
      simp only [zb_c, h c q]
      exact ⟨by omega, fun e => by have := ih.2 e; omega⟩
theorem za_w1_sis {w : za_W} {day sis : Int} {day2 sis2 : Int} (h : za_w1 w day sis) (h1 : day ≤ day2) (h2 : sis ≤ sis2) : za_w1 w day2 sis2 := by
  unfold za_w1 at *
  omega
theorem za_okr_sis {r : za_R} {sis sis2 : Int} (h : za_okr r sis) (h2 : sis ≤ sis2) : za_okr r sis2 :=
  ⟨h.1, h.2.1, fun n hn => za_w1_sis (h.2.2.1 n hn) (Int.le_refl _) h2, h.2.2.2⟩
theorem za_ok_sis {σ : za_S} {sis sis2 : Int} (h : za_ok σ sis) (h2 : sis ≤ sis2) : za_ok σ sis2 :=
  ⟨za_okr_sis h.1 h2, h.2.1, fun j r hj => ⟨za_okr_sis (h.2.2.1 j r hj).1 h2, (h.2.2.1 j r hj).2⟩, h.2.2.2⟩
theorem za_sew_ok {σ : za_S} {sis k s : Int} (h : za_ok σ sis) (hc : σ.1.1 < 30) (hk : 0 ≤ k ∧ k ≤ 5) (hs : 0 ≤ s ∧ s < sis) (h8 : za_n σ s < 8) : za_ok (za_sew k s σ) sis := by
  obtain ⟨⟨h1, h2, h3, h4⟩, h5, h6, h7⟩ := h
  refine ⟨⟨hc, h2, fun n hn => ?_, fun p hp => ?_⟩, h5, fun j r hj => ⟨(h6 j r hj).1, Nat.le_trans (h6 j r hj).2 (Nat.le_succ _)⟩, h7⟩
  · show za_w1 (if n = σ.1.1 then (k, σ.1.2.1, s, s) else σ.1.2.2 n) σ.1.2.1 sis
    by_cases q : n = σ.1.1
    · rw [if_pos q]
      exact ⟨hk.1, hk.2, h2.1, Int.le_refl _, Or.inl hs, hs.1, hs.2⟩
    · rw [if_neg q]
      exact h3 n (by have : n < σ.1.1 + 1 := hn; omega)
  · show zb_c _ (σ.1.1 + 1) ≤ 8
    have e : zb_c (fun n => (if n = σ.1.1 then (k, σ.1.2.1, s, s) else σ.1.2.2 n).2.2.1 == p) σ.1.1 = zb_c (fun n => (σ.1.2.2 n).2.2.1 == p) σ.1.1 := zb_c_congr _ (fun j hj => by rw [if_neg (by omega)])
    have := h4 p hp
    simp only [za_sew, zb_c, e, if_true]
    by_cases q : s = p
    · subst q
      simp only [BEq.rfl, if_true]
      unfold za_n at h8
      omega
    · rw [if_neg (by simp [q])]
      omega
theorem za_mv_ok {σ : za_S} {sis p o : Int} {n : Nat} (h : za_ok σ sis) (hn : n < σ.1.1) (hp : 0 ≤ p ∧ p < sis ∧ za_n σ p < 8 ∨ p = 6) (ho : 0 ≤ o ∧ o < sis) : za_ok (za_mv n p o σ) sis := by
  obtain ⟨⟨h1, h2, h3, h4⟩, h5, h6, h7⟩ := h
  refine ⟨⟨h1, h2, fun i hi => ?_, fun s hs => ?_⟩, h5, h6, h7⟩
  · show za_w1 (if i = n then ((σ.1.2.2 n).1, (σ.1.2.2 n).2.1, p, o) else σ.1.2.2 i) σ.1.2.1 sis
    by_cases q : i = n
    · rw [if_pos q]
      have := h3 n hn
      unfold za_w1 at *
      simp only
      omega
    · rw [if_neg q]
      exact h3 i hi
  · show zb_c (fun i => (if i = n then ((σ.1.2.2 n).1, (σ.1.2.2 n).2.1, p, o) else σ.1.2.2 i).2.2.1 == s) σ.1.1 ≤ 8
    have u := zb_c_upd (f := fun n => (σ.1.2.2 n).2.2.1 == s) (g := fun i => (if i = n then ((σ.1.2.2 n).1, (σ.1.2.2 n).2.1, p, o) else σ.1.2.2 i).2.2.1 == s) (n := n) (fun j hj => by simp only [if_neg hj]) σ.1.1
    have := h4 s hs
    by_cases q : p = s
    · subst q
      rcases hp with hp | hp
      · have h8 := hp.2.2
        exact Nat.le_trans u.1 h8
      · exact absurd hp hs
    · exact Nat.le_trans (u.2 (by simp [q])) this
theorem za_day_ok {σ : za_S} {sis : Int} (h : za_ok σ sis) (hd : σ.1.2.1 + 1 ≤ 999) : za_ok (za_day σ) sis := by
  obtain ⟨⟨h1, h2, h3, h4⟩, h5, h6, h7⟩ := h
  exact ⟨⟨h1, ⟨by show 0 ≤ σ.1.2.1 + 1; omega, hd⟩, fun n hn => za_w1_sis (h3 n hn) (by show σ.1.2.1 ≤ σ.1.2.1 + 1; omega) (Int.le_refl _), h4⟩, h5, h6, h7⟩
