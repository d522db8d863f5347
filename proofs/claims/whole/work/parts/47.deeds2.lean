/-! the deeds on each side *-/
theorem za_pack {k d p o : Int} (hk : 0 ≤ k ∧ k < 8) (hd : 0 ≤ d ∧ d < 1024) (hp : 0 ≤ p ∧ p < 8) (ho : 0 ≤ o ∧ o < 8) : za_wd (zk_or (zk_or (zk_or k (zk_shl d 3)) (zk_shl p 13)) (zk_shl o 16)) = (k, d, p, o) := by
  obtain ⟨k', hk'⟩ := Int.eq_ofNat_of_zero_le hk.1
  obtain ⟨d', hd'⟩ := Int.eq_ofNat_of_zero_le hd.1
  obtain ⟨p', hp'⟩ := Int.eq_ofNat_of_zero_le hp.1
  obtain ⟨o', ho'⟩ := Int.eq_ofNat_of_zero_le ho.1
  have a : k' < 8 := by omega
  have b : d' < 1024 := by omega
  have c : p' < 8 := by omega
  have d : o' < 8 := by omega
  rw [hk', hd', hp', ho', zw_pack a b c d]
  obtain ⟨e1, e2, e3, e4⟩ := zw_word a b c d
  unfold za_wd
  rw [e1, e2, e3, e4]
section
variable {μ : zk_M} {BV : zk_M → Prop} {B : Int → zk_M → Prop} {σ : za_S} {sis : Int}
theorem za_sewC {k s : Int} (hk : za_ok σ sis) (hs6 : sis ≤ 6) (h : za_C μ 4 σ) (hc : σ.1.1 < 30) (hk5 : 0 ≤ k ∧ k ≤ 5) (hs : 0 ≤ s ∧ s < sis) (hB : ∀ μ', zq [4] μ μ' → za_C μ' 4 (za_sew k s σ) → B (σ.1.1 : Int) μ') : zk_C 99 [.inr (.inr (.inl 3)), .inl k, .inl s] μ (zk_RI B) := by
  obtain ⟨⟨h1, h2, h3⟩, o, ho, h5⟩ := h
  simp only [Int.zero_add] at h1 h2 h3
  have hd := hk.1.2.1
  refine c_Sto_sew (c_Sto_count ⟨fun _ => by omega, fun _ => ⟨fun _ => c_Sto_day ?_, fun _ => by omega⟩⟩)
  rw [h1, h2]
  rw [zk_set_n (by omega), h1]
  refine ⟨by omega, by omega, hB _ (((zq.rf _ _).set (by decide) _ _).set (by decide) _ _) ⟨⟨?_, ?_, fun n hn => ?_⟩, o, ho, ?_⟩⟩
  · rw [Int.zero_add, zk_set_s]
    show _ = ((σ.1.1 + 1 : Nat) : Int)
    omega
  · rw [Int.zero_add, zk_set_n (by decide), zk_set_n (by omega)]
    exact h2
  · have hn' : n < σ.1.1 + 1 := hn
    rw [Int.zero_add, zk_set_n (by omega)]
    show _ = if n = σ.1.1 then (k, σ.1.2.1, s, s) else σ.1.2.2 n
    by_cases q : n = σ.1.1
    · rw [if_pos q, q, zk_set_s]
      exact za_pack (by omega) (by omega) (by omega) (by omega)
    · rw [if_neg q, zk_set_n (by omega)]
      exact h3 n (by omega)
  · exact h5
theorem za_mvC {p o n : Int} (hk : za_ok σ sis) (hs6 : sis ≤ 6) (h : za_C μ 4 σ) (h0 : 0 ≤ n) (hn : n < σ.1.1) (hp : 0 ≤ p ∧ p ≤ 6) (ho : 0 ≤ o ∧ o ≤ 6) (hB : ∀ μ', zq [4] μ μ' → za_C μ' 4 (za_mv n.toNat p o σ) → BV μ') : zk_C 102 [.inr (.inr (.inl 3)), .inl n, .inl p, .inl o] μ (zk_RV BV) := by
  obtain ⟨⟨h1, h2, h3⟩, q, hq, h5⟩ := h
  simp only [Int.zero_add] at h1 h2 h3
  have hc := hk.1.1
  obtain ⟨n', rfl⟩ := Int.eq_ofNat_of_zero_le h0
  obtain ⟨p', rfl⟩ := Int.eq_ofNat_of_zero_le hp.1
  obtain ⟨o', rfl⟩ := Int.eq_ofNat_of_zero_le ho.1
  have hw := h3 n' (by omega)
  have hw1 := hk.1.2.2.1 n' (by omega)
  have hd := hk.1.2.1
  simp only [za_wd] at hw
  refine sp_move (by omega) h0 (by omega) (hB _ ((zq.rf _ _).set (by decide) _ _) ⟨⟨?_, ?_, fun i hi => ?_⟩, q, hq, h5⟩)
  · rw [Int.zero_add, zk_set_n (by omega)]
    exact h1
  · rw [Int.zero_add, zk_set_n (by omega)]
    exact h2
  · rw [Int.zero_add]
    show _ = if i = n' then ((σ.1.2.2 n').1, (σ.1.2.2 n').2.1, (p' : Int), (o' : Int)) else σ.1.2.2 i
    by_cases e : i = n'
    · rw [if_pos e, e, zk_set_s, ← hw]
      rw [← hw] at hw1
      unfold za_w1 at hw1
      simp only at hw1
      exact za_pack (by omega) (by omega) (by omega) (by omega)
    · rw [if_neg e, zk_set_n (by omega)]
      exact h3 i hi
theorem za_dayC (hk : za_ok σ sis) (h : za_C μ 4 σ) (hB : ∀ μ', zq [4] μ μ' → za_C μ' 4 (za_day σ) → BV μ') : zk_C 91 [.inr (.inr (.inl 3))] μ (zk_RV BV) := by
  obtain ⟨⟨h1, h2, h3⟩, q, hq, h5⟩ := h
  simp only [Int.zero_add] at h1 h2 h3
  have hd := hk.1.2.1
  have hc := hk.1.1
  refine c_Sto_passDay ?_
  rw [h2]
  refine ⟨by omega, hB _ ((zq.rf _ _).set (by decide) _ _) ⟨⟨?_, ?_, fun i hi => ?_⟩, q, hq, h5⟩⟩
  · rw [Int.zero_add, zk_set_n (by omega)]
    exact h1
  · rw [Int.zero_add, zk_set_s]
    rfl
  · have : i < σ.1.1 := hi
    rw [Int.zero_add, zk_set_n (by omega)]
    exact h3 i hi
end
theorem za_sewM {g g' : Int → Int} {σ : za_S} {sis k s : Int} (hk : za_ok σ sis) (hc : σ.1.1 < 30) (h : za_M g σ) (h1 : g' 1 = g 1 + 1) (hw : (g' (46 + 4 * σ.1.1), g' (47 + 4 * σ.1.1), g' (48 + 4 * σ.1.1), g' (49 + 4 * σ.1.1)) = (k, σ.1.2.1, s, s)) (ho : ∀ i : Int, i ≠ 1 → (i < 46 + 4 * σ.1.1 ∨ 50 + 4 * σ.1.1 ≤ i) → g' i = g i) : za_M g' (za_sew k s σ) := by
  obtain ⟨h1', h2, h3, h4, h5⟩ := h
  refine ⟨by rw [h1, h1']; rfl, by rw [ho 2 (by decide) (by omega)]; exact h2, fun n hn => ?_, by rw [ho 5 (by decide) (by omega)]; exact h4, fun j r hj => ?_⟩
  · have hn' : n < σ.1.1 + 1 := hn
    show _ = if n = σ.1.1 then (k, σ.1.2.1, s, s) else σ.1.2.2 n
    by_cases e : n = σ.1.1
    · rw [if_pos e, e]
      exact hw
    · rw [if_neg e, ho _ (by omega) (by omega), ho (47 + 4 * n) (by omega) (by omega), ho (48 + 4 * n) (by omega) (by omega), ho (49 + 4 * n) (by omega) (by omega)]
      exact h3 n (by omega)
  · obtain ⟨k1, k2, k3⟩ := h5 j r hj
    have hr := (hk.2.2.1 j r hj).2
    rw [ho _ (by omega) (by omega), ho (167 + 62 * j) (by omega) (by omega)]
    refine ⟨k1, k2, fun n hn => ?_⟩
    rw [ho _ (by omega) (by omega), ho (47 + 4 * n) (by omega) (by omega), ho (168 + 62 * j + 2 * n) (by omega) (by omega), ho (169 + 62 * j + 2 * n) (by omega) (by omega)]
    exact k3 n hn
theorem za_mvM {g g' : Int → Int} {σ : za_S} {sis p o : Int} {n : Nat} (hk : za_ok σ sis) (hn : n < σ.1.1) (h : za_M g σ) (hp : g' (48 + 4 * n) = p) (hw : g' (49 + 4 * n) = o) (ho : ∀ i : Int, i ≠ 48 + 4 * n → i ≠ 49 + 4 * n → g' i = g i) : za_M g' (za_mv n p o σ) := by
  obtain ⟨h1, h2, h3, h4, h5⟩ := h
  have hc := hk.1.1
  refine ⟨by rw [ho 1 (by omega) (by omega)]; exact h1, by rw [ho 2 (by omega) (by omega)]; exact h2, fun i hi => ?_, by rw [ho 5 (by omega) (by omega)]; exact h4, fun j r hj => ?_⟩
  · show _ = if i = n then ((σ.1.2.2 n).1, (σ.1.2.2 n).2.1, p, o) else σ.1.2.2 i
    by_cases e : i = n
    · rw [if_pos e, e, hp, hw, ho _ (by omega) (by omega), ho (47 + 4 * n) (by omega) (by omega), ← h3 n hn]
    · rw [if_neg e, ho _ (by omega) (by omega), ho (47 + 4 * i) (by omega) (by omega), ho (48 + 4 * i) (by omega) (by omega), ho (49 + 4 * i) (by omega) (by omega)]
      exact h3 i hi
  · obtain ⟨k1, k2, k3⟩ := h5 j r hj
    rw [ho _ (by omega) (by omega), ho (167 + 62 * j) (by omega) (by omega)]
    refine ⟨k1, k2, fun i hi => ?_⟩
    have hr := (hk.2.2.1 j r hj).1.1
    rw [ho _ (by omega) (by omega), ho (47 + 4 * i) (by omega) (by omega), ho (168 + 62 * j + 2 * i) (by omega) (by omega), ho (169 + 62 * j + 2 * i) (by omega) (by omega)]
    exact k3 i hi
theorem za_dayM {g g' : Int → Int} {σ : za_S} (h : za_M g σ) (h2 : g' 2 = g 2 + 1) (ho : ∀ i : Int, i ≠ 2 → g' i = g i) : za_M g' (za_day σ) := by
  obtain ⟨h1, h2', h3, h4, h5⟩ := h
  refine ⟨by rw [ho 1 (by decide)]; exact h1, by rw [h2, h2']; rfl, fun i hi => ?_, by rw [ho 5 (by decide)]; exact h4, fun j r hj => ?_⟩
  · rw [ho _ (by omega), ho (47 + 4 * i) (by omega), ho (48 + 4 * i) (by omega), ho (49 + 4 * i) (by omega)]
    exact h3 i hi
  · obtain ⟨k1, k2, k3⟩ := h5 j r hj
    rw [ho _ (by omega), ho (167 + 62 * j) (by omega)]
    refine ⟨k1, k2, fun i hi => ?_⟩
    rw [ho _ (by omega), ho (47 + 4 * i) (by omega), ho (168 + 62 * j + 2 * i) (by omega), ho (169 + 62 * j + 2 * i) (by omega)]
    exact k3 i hi
