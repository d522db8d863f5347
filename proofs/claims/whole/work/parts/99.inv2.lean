/-! what holds of the signs that wait and of the law so far *-/
def zt_nt : List Nat → Nat
  | [] => 0
  | s :: W => zt_nt W + (if s = 24 ∨ s = 25 then 1 else 0)
def zt_na : List Nat → Nat
  | [] => 0
  | s :: W => zt_na W + (if 3 ≤ s ∧ s ≤ 12 then 1 else 0)
theorem zt_cnt (W : List Nat) : zt_nt W + zt_na W ≤ W.length := by
  induction W with
  | nil => exact Nat.le_refl 0
  | cons s W ih =>
    rw [zt_nt, zt_na, List.length_cons]
    split <;> split <;> omega
theorem zx_ty_app {q : Int × Int} {p1 p2 : Nat × Nat} (ho : zx_ok1 q p1 = some p2) (h32 : p2.1 + p2.2 ≤ 32) : ∀ (l : List (Int × Int)) (p : Nat × Nat), zx_ty l p = some p1 → zx_ty (l ++ [q]) p = some p2
  | [], p, h => by
    have e : p = p1 := by
      have h : some p = some p1 := h
      injection h
    rw [List.nil_append, zx_ty, e, ho]
    show (if p2.1 + p2.2 ≤ 32 then zx_ty [] p2 else none) = _
    rw [if_pos h32]
    rfl
  | r :: l, p, h => by
    rw [zx_ty] at h
    rw [List.cons_append, zx_ty]
    cases e : zx_ok1 r p with
    | none => rw [e] at h; exact absurd h (by simp)
    | some p' =>
      rw [e] at h
      simp only at h ⊢
      split at h
      · rename_i q2
        rw [if_pos q2]
        exact zx_ty_app ho h32 l p' h
      · exact absurd h (by simp)
/-- signs of asks: what lies below is of asks too -/
theorem zt_wok_d : ∀ {s : Nat} {W : List Nat}, zt_wok (s :: W) → ((3 ≤ s ∧ s ≤ 8) ∨ s = 24 ∨ s = 25 ∨ s = 26) → ∀ x ∈ W, x = 24 ∨ x = 25 ∨ x = 26
  | s, [], _, _, x, hx => absurd hx (by simp)
  | s, y :: W, h, hs, x, hx => by
    have ha := h.2
    unfold zt_adj at ha
    have hy : y = 24 ∨ y = 25 ∨ y = 26 := by omega
    rcases List.mem_cons.mp hx with e | e
    · rw [e]
      exact hy
    · exact zt_wok_d h.1 (Or.inr hy) x e
theorem zt_br_0 : ∀ {W : List Nat}, (∀ x ∈ W, x = 24 ∨ x = 25 ∨ x = 26) → zt_br W = 0 ∧ zt_na W = 0
  | [], _ => ⟨rfl, rfl⟩
  | s :: W, h => by
    have ih := zt_br_0 (W := W) (fun x hx => h x (List.mem_cons_of_mem _ hx))
    have := h s (List.mem_cons_self)
    rw [zt_br, zt_na, ih.1, ih.2, if_neg (by omega), if_neg (by omega)]
    exact ⟨rfl, rfl⟩
theorem zt_st_st {r r' : Nat} (h : r ≤ r') : ∀ (W : List Nat) (l : List (Int × Int)), zt_st r W l = zt_st r (zt_st r' W l).1 (zt_st r' W l).2
  | [], l => rfl
  | s :: W, l => by
    by_cases q : r' ≤ zt_rk s
    · rw [zt_st, if_pos (by omega), zt_st_st h W (l ++ [(zt_o s, 0)])]
      have e : zt_st r' (s :: W) l = zt_st r' W (l ++ [(zt_o s, 0)]) := by rw [zt_st, if_pos q]
      rw [e]
    · have e : zt_st r' (s :: W) l = (s :: W, l) := by rw [zt_st, if_neg q]
      rw [e]
theorem zt_rk_6 {s : Nat} {W : List Nat} (ha : zt_adj s W) : 6 ≤ zt_rk s ↔ (9 ≤ s ∧ s ≤ 12) ∨ s = 32 := by
  rcases zt_adj_v ha with rfl | rfl | rfl | rfl | rfl | h
  · decide
  · decide
  · decide
  · decide
  · decide
  · rcases (show s = 3 ∨ s = 4 ∨ s = 5 ∨ s = 6 ∨ s = 7 ∨ s = 8 ∨ s = 9 ∨ s = 10 ∨ s = 11 ∨ s = 12 by omega) with rfl | rfl | rfl | rfl | rfl | rfl | rfl | rfl | rfl | rfl <;> decide
theorem zt_ok_v {s : Nat} {t v : Nat} (h : (9 ≤ s ∧ s ≤ 12) ∨ s = 32) (hv : 1 ≤ v) (hv2 : s ≠ 32 → 2 ≤ v) : zx_ok1 (zt_o s, 0) (t, v) = some (t, if s = 32 then v else v - 1) := by
  rcases (show s = 9 ∨ s = 10 ∨ s = 11 ∨ s = 12 ∨ s = 32 by omega) with rfl | rfl | rfl | rfl | rfl
  · have := hv2 (by decide)
    simp [zx_ok1, zt_o, this]
  · have := hv2 (by decide)
    simp [zx_ok1, zt_o, this]
  · have := hv2 (by decide)
    simp [zx_ok1, zt_o, this]
  · have := hv2 (by decide)
    simp [zx_ok1, zt_o, this]
  · simp [zx_ok1, zt_o, hv]
theorem zt_ok_c {s : Nat} {t : Nat} (h : 3 ≤ s ∧ s ≤ 8) : zx_ok1 (zt_o s, 0) (t, 2) = some (t + 1, 0) := by
  rcases (show s = 3 ∨ s = 4 ∨ s = 5 ∨ s = 6 ∨ s = 7 ∨ s = 8 by omega) with rfl | rfl | rfl | rfl | rfl | rfl <;> simp [zx_ok1, zt_o]
theorem zt_ok_t {s : Nat} {t : Nat} (h : s = 24 ∨ s = 25 ∨ s = 26) (ht : 1 ≤ t) (ht2 : s ≠ 26 → 2 ≤ t) : zx_ok1 (zt_o s, 0) (t, 0) = some (if s = 26 then t else t - 1, 0) := by
  rcases h with rfl | rfl | rfl
  · have := ht2 (by decide)
    simp [zx_ok1, zt_o, this]
  · have := ht2 (by decide)
    simp [zx_ok1, zt_o, this]
  · simp [zx_ok1, zt_o, ht]
/-- values are joined -/
theorem zt_st_v {r : Nat} (hr : 6 ≤ r) : ∀ (W : List Nat) (l : List (Int × Int)), zt_wok W → W.length ≤ 30 → zx_ty l (0, 0) = some (zt_nt W, zt_na W + 1) → zt_wok (zt_st r W l).1 ∧ zx_ty (zt_st r W l).2 (0, 0) = some (zt_nt (zt_st r W l).1, zt_na (zt_st r W l).1 + 1) ∧ (∀ s ∈ (zt_st r W l).1, s ∈ W) ∧ (∀ s ∈ W, ¬ ((9 ≤ s ∧ s ≤ 12) ∨ s = 32) → s ∈ (zt_st r W l).1) ∧ zt_op (zt_st r W l).1 ≤ zt_op W ∧ zt_br (zt_st r W l).1 = zt_br W ∧ (zt_st r W l).2.length + (zt_st r W l).1.length = l.length + W.length ∧ (∀ s W', (zt_st r W l).1 = s :: W' → zt_rk s < r) ∧ (∀ q ∈ (zt_st r W l).2, q ∈ l ∨ q.1 ≠ 1)
  | [], l, hw, _, ht => ⟨hw, ht, fun s hs => hs, fun s hs _ => hs, Nat.le_refl _, rfl, rfl, fun s W' e => absurd e (by simp [zt_st]), fun q hq => Or.inl hq⟩
  | s :: W, l, hw, hl, ht => by
    by_cases q : r ≤ zt_rk s
    · have hs := (zt_rk_6 hw.2).mp (by omega)
      have e : zt_st r (s :: W) l = zt_st r W (l ++ [(zt_o s, 0)]) := by rw [zt_st, if_pos q]
      rw [e]
      rw [zt_nt, zt_na] at ht
      rw [List.length_cons] at hl
      have hc := zt_cnt W
      have h1 : zx_ty (l ++ [(zt_o s, 0)]) (0, 0) = some (zt_nt W, zt_na W + 1) := by
        have e24 : ¬ (s = 24 ∨ s = 25) := by omega
        rw [if_neg e24, Nat.add_zero] at ht
        by_cases q32 : s = 32
        · rw [if_neg (by omega), Nat.add_zero] at ht
          refine zx_ty_app (p1 := (zt_nt W, zt_na W + 1)) ?_ (by show zt_nt W + (zt_na W + 1) ≤ 32; omega) l _ ht
          rw [zt_ok_v hs (by omega) (fun h => absurd q32 h), if_pos q32]
        · rw [if_pos (by omega)] at ht
          refine zx_ty_app (p1 := (zt_nt W, zt_na W + 1 + 1)) ?_ (by show zt_nt W + (zt_na W + 1) ≤ 32; omega) l _ ht
          rw [zt_ok_v hs (by omega) (fun _ => by omega), if_neg q32]
          rfl
      obtain ⟨i1, i2, i3, i4, i5, i6, i7, i8, i9⟩ := zt_st_v hr W (l ++ [(zt_o s, 0)]) hw.1 (by omega) h1
      refine ⟨i1, i2, fun x hx => List.mem_cons_of_mem _ (i3 x hx), fun x hx hn => ?_, by rw [zt_op]; omega, by rw [i6, zt_br, if_neg (by omega)]; rfl, by rw [i7, List.length_append, List.length_singleton, List.length_cons]; omega, i8, fun x hx => ?_⟩
      · rcases List.mem_cons.mp hx with e1 | e1
        · rw [e1] at hn
          exact absurd hs hn
        · exact i4 x e1 hn
      · rcases i9 x hx with h | h
        · rcases List.mem_append.mp h with h | h
          · exact Or.inl h
          · simp at h
            right
            rw [h]
            rcases (show s = 9 ∨ s = 10 ∨ s = 11 ∨ s = 12 ∨ s = 32 by omega) with rfl | rfl | rfl | rfl | rfl <;> decide
        · exact Or.inr h
    · have e : zt_st r (s :: W) l = (s :: W, l) := by rw [zt_st, if_neg q]
      rw [e]
      exact ⟨hw, ht, fun x hx => hx, fun x hx _ => hx, Nat.le_refl _, rfl, rfl, fun x W' e1 => by injection e1 with e1 _; rw [← e1]; omega, fun q hq => Or.inl hq⟩
/-- truths are joined -/
theorem zt_st_t (r : Nat) : ∀ (D : List Nat) (l : List (Int × Int)), (∀ x ∈ D, x = 24 ∨ x = 25 ∨ x = 26) → zt_wok D → D.length ≤ 30 → zx_ty l (0, 0) = some (zt_nt D + 1, 0) → zt_wok (zt_st r D l).1 ∧ zx_ty (zt_st r D l).2 (0, 0) = some (zt_nt (zt_st r D l).1 + 1, 0) ∧ (∀ s ∈ (zt_st r D l).1, s ∈ D) ∧ zt_op (zt_st r D l).1 ≤ zt_op D ∧ (zt_st r D l).2.length + (zt_st r D l).1.length = l.length + D.length ∧ (∀ s W', (zt_st r D l).1 = s :: W' → zt_rk s < r)
  | [], l, _, hw, _, ht => ⟨hw, ht, fun s hs => hs, Nat.le_refl _, rfl, fun s W' e => absurd e (by simp [zt_st])⟩
  | s :: D, l, hd, hw, hl, ht => by
    by_cases q : r ≤ zt_rk s
    · have hs := hd s (List.mem_cons_self)
      have e : zt_st r (s :: D) l = zt_st r D (l ++ [(zt_o s, 0)]) := by rw [zt_st, if_pos q]
      rw [e]
      rw [zt_nt] at ht
      rw [List.length_cons] at hl
      have hc := zt_cnt D
      have h1 : zx_ty (l ++ [(zt_o s, 0)]) (0, 0) = some (zt_nt D + 1, 0) := by
        by_cases q26 : s = 26
        · rw [if_neg (by omega), Nat.add_zero] at ht
          refine zx_ty_app (p1 := (zt_nt D + 1, 0)) ?_ (by show zt_nt D + 1 + 0 ≤ 32; omega) l _ ht
          rw [zt_ok_t hs (by omega) (fun h => absurd q26 h), if_pos q26]
        · rw [if_pos (by omega)] at ht
          refine zx_ty_app (p1 := (zt_nt D + 1 + 1, 0)) ?_ (by show zt_nt D + 1 + 0 ≤ 32; omega) l _ ht
          rw [zt_ok_t hs (by omega) (fun _ => by omega), if_neg q26]
          rfl
      obtain ⟨i1, i2, i3, i4, i5, i6⟩ := zt_st_t r D (l ++ [(zt_o s, 0)]) (fun x hx => hd x (List.mem_cons_of_mem _ hx)) hw.1 (by omega) h1
      exact ⟨i1, i2, fun x hx => List.mem_cons_of_mem _ (i3 x hx), by rw [zt_op]; omega, by rw [i5, List.length_append, List.length_singleton, List.length_cons]; omega, i6⟩
    · have e : zt_st r (s :: D) l = (s :: D, l) := by rw [zt_st, if_neg q]
      rw [e]
      exact ⟨hw, ht, fun x hx => hx, Nat.le_refl _, rfl, fun x W' e1 => by injection e1 with e1 _; rw [← e1]; omega⟩
