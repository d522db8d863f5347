/-! laws are read: the class's side *-/
def zt_L (ν : zk_M) (k : Nat) (o : List (Int × Int)) (W : List Nat) (cmp : Bool) : Prop := ν 44 5 = (W.length : Int) ∧ (∀ (i s : Nat), W[i]? = some s → ν 45 ((W.length : Int) - 1 - i) = (s : Int)) ∧ ν 44 6 = (zt_op W : Int) ∧ ν 44 7 = (zt_br W : Int) ∧ ν 44 8 = (if cmp then 1 else 0) ∧ ν k 3 = (o.length : Int) ∧ ∀ (i : Nat) (q : Int × Int), o[i]? = some q → ν (k + 2) i = zx_enc q
/-- what reading a law may change *-/
def zt_lf (k : Nat) (μ ν : zk_M) : Prop := zq [42, 44, 45, k, k + 2] μ ν ∧ (∀ i : Int, i ≠ 3 → ν k i = μ k i) ∧ ν 44 2 = μ 44 2 ∧ ν 44 3 = μ 44 3 ∧ ν 42 1 = μ 42 1
theorem zt_lf.rf (k : Nat) (μ : zk_M) : zt_lf k μ μ := ⟨zq.rf _ _, fun _ _ => rfl, rfl, rfl, rfl⟩
theorem zt_lf.tr {k : Nat} {μ μ1 μ2 : zk_M} (h : zt_lf k μ μ1) (h2 : zt_lf k μ1 μ2) : zt_lf k μ μ2 := ⟨h.1.tr h2.1, fun i hi => (h2.2.1 i hi).trans (h.2.1 i hi), h2.2.2.1.trans h.2.2.1, h2.2.2.2.1.trans h.2.2.2.1, h2.2.2.2.2.trans h.2.2.2.2⟩
/-- the reader has found no fault, and stands at t *-/
def zt_at (ν : zk_M) (f : Nat → Int) (len : Nat) (t : zt_T) : Prop := ν 44 0 = 0 ∧ ν 44 1 = -1 ∧ zt_C0 ν f len ∧ zt_C ν t
theorem zt_not : ∀ c : Nat, c < 33 → zk_xor (c : Int) (-1) = -(c : Int) - 1 := by decide +kernel
theorem zt_enc {s : Nat} {W : List Nat} (h : zt_adj s W) (h13 : s ≠ 13) : zx_enc (zt_o s, 0) = -(s : Int) - 1 ∧ s < 33 := by
  rcases zt_adj_v h with rfl | rfl | rfl | rfl | rfl | h
  · exact absurd rfl h13
  · decide
  · decide
  · decide
  · decide
  · rcases (show s = 3 ∨ s = 4 ∨ s = 5 ∨ s = 6 ∨ s = 7 ∨ s = 8 ∨ s = 9 ∨ s = 10 ∨ s = 11 ∨ s = 12 by omega) with rfl | rfl | rfl | rfl | rfl | rfl | rfl | rfl | rfl | rfl <;> decide
theorem zt_encn {c : Nat} (h : 27 ≤ c ∧ c ≤ 31) : zx_enc (1, (c : Int) - 27) = -(c : Int) - 1 := by
  unfold zx_enc
  rw [if_neg (show ¬ ((1 : Int) = 0) by decide), if_pos rfl]
  show -28 - ((c : Int) - 27) = _
  omega
theorem zt_st_o (r : Nat) (o : List (Int × Int)) : ∀ (W : List Nat) (l : List (Int × Int)), (zt_st r W (o ++ l)).1 = (zt_st r W l).1 ∧ (zt_st r W (o ++ l)).2 = o ++ (zt_st r W l).2
  | [], l => ⟨rfl, rfl⟩
  | s :: W, l => by
    rw [zt_st, zt_st]
    split
    · rw [List.append_assoc]
      exact zt_st_o r o W (l ++ [(zt_o s, 0)])
    · exact ⟨rfl, rfl⟩
section
variable {μ : zk_M} {BV : zk_M → Prop} {B : Int → zk_M → Prop} {f : Nat → Int} {len k : Nat} {o : List (Int × Int)} {W : List Nat} {cmp g : Bool} {t : zt_T}
theorem zt_L_push {ν ν' : zk_M} {s : Nat} (h : zt_L ν k o W cmp) (e5 : ν' 44 5 = (W.length : Int) + 1) (e45 : ∀ i : Int, i ≠ W.length → ν' 45 i = ν 45 i) (s45 : ν' 45 (W.length : Int) = (s : Int)) (e6 : ν' 44 6 = (zt_op (s :: W) : Int)) (e7 : ν' 44 7 = (zt_br (s :: W) : Int)) (e8 : ν' 44 8 = ν 44 8) (ek : ν' k 3 = ν k 3) (ec : ν' (k + 2) = ν (k + 2)) : zt_L ν' k o (s :: W) cmp := by
  obtain ⟨h1, h2, h3, h4, h5, h6, h7⟩ := h
  refine ⟨by rw [e5, List.length_cons]; rfl, fun i x hx => ?_, e6, e7, by rw [e8]; exact h5, by rw [ek]; exact h6, by rw [ec]; exact h7⟩
  rw [List.length_cons]
  cases i with
  | zero =>
    have hx : s = x := by simpa using hx
    rw [← hx, ← s45]
    congr 1
    push_cast
    omega
  | succ i =>
    rw [List.getElem?_cons_succ] at hx
    have hl : i < W.length := by
      rw [List.getElem?_eq_some_iff] at hx
      exact hx.1
    rw [e45 _ (by push_cast; omega), ← h2 i x hx]
    congr 1
    push_cast
    omega
theorem zt_L_pop {ν ν' : zk_M} {s : Nat} (h : zt_L ν k o (s :: W) cmp) (e5 : ν' 44 5 = (W.length : Int)) (e45 : ν' 45 = ν 45) (e6 : ν' 44 6 = (zt_op W : Int)) (e7 : ν' 44 7 = (zt_br W : Int)) (e8 : ν' 44 8 = ν 44 8) (ek : ν' k 3 = ν k 3) (ec : ν' (k + 2) = ν (k + 2)) : zt_L ν' k o W cmp := by
  obtain ⟨h1, h2, h3, h4, h5, h6, h7⟩ := h
  refine ⟨e5, fun i x hx => ?_, e6, e7, by rw [e8]; exact h5, by rw [ek]; exact h6, by rw [ec]; exact h7⟩
  have := h2 (i + 1) x (by rw [List.getElem?_cons_succ]; exact hx)
  rw [e45, ← this, List.length_cons]
  congr 1
  push_cast
  omega
theorem zt_L_add {ν ν' : zk_M} {q : Int × Int} (h : zt_L ν k o W cmp) (e44 : ν' 44 = ν 44) (e45 : ν' 45 = ν 45) (ek : ν' k 3 = (o.length : Int) + 1) (ec : ∀ i : Int, i ≠ o.length → ν' (k + 2) i = ν (k + 2) i) (eq : ν' (k + 2) (o.length : Int) = zx_enc q) : zt_L ν' k (o ++ [q]) W cmp := by
  obtain ⟨h1, h2, h3, h4, h5, h6, h7⟩ := h
  refine ⟨by rw [e44]; exact h1, by rw [e45]; exact h2, by rw [e44]; exact h3, by rw [e44]; exact h4, by rw [e44]; exact h5, by rw [ek, List.length_append, List.length_singleton]; rfl, fun i x hx => ?_⟩
  by_cases e : i = o.length
  · subst e
    rw [List.getElem?_append_right (Nat.le_refl _), Nat.sub_self] at hx
    have hx : q = x := by simpa using hx
    rw [eq, hx]
  · have hl : i < o.length := by
      rw [List.getElem?_eq_some_iff] at hx
      obtain ⟨w, _⟩ := hx
      rw [List.length_append, List.length_singleton] at w
      omega
    rw [List.getElem?_append_left hl] at hx
    rw [ec i (by omega)]
    exact h7 i x hx
/-- the code grows *-/
theorem sp_add {x : Int} (hk : k = 26 ∨ k = 30 ∨ k = 34 ∨ k = 38) (h : zt_L μ k o W cmp) (ho : o.length < 300) (hB : ∀ μ' , zt_lf k μ μ' → μ' 42 = μ 42 → μ' 44 = μ 44 → (∀ q, x = zx_enc q → zt_L μ' k (o ++ [q]) W cmp) → BV μ') : zk_C 76 [.inr (.inr (.inl k)), .inl x] μ (zk_RV BV) := by
  have h6 := h.2.2.2.2.2.1
  refine c_Scr_add hk ⟨fun q => by omega, fun _ => ⟨fun q => by omega, fun _ => ⟨by omega, by omega, ?_⟩⟩⟩
  rw [h6]
  have e44 : zk_set (zk_set μ (k + 2) (o.length : Int) x) k 3 ((o.length : Int) + 1) 44 = μ 44 := by rw [zk_set_o (by omega), zk_set_o (by omega)]
  have e45 : zk_set (zk_set μ (k + 2) (o.length : Int) x) k 3 ((o.length : Int) + 1) 45 = μ 45 := by rw [zk_set_o (by omega), zk_set_o (by omega)]
  have e42 : zk_set (zk_set μ (k + 2) (o.length : Int) x) k 3 ((o.length : Int) + 1) 42 = μ 42 := by rw [zk_set_o (by omega), zk_set_o (by omega)]
  refine hB _ ⟨((zq.rf _ _).set (by simp) _ _).set (by simp) _ _, fun i hi => ?_, by rw [e44], by rw [e44], by rw [e42]⟩ e42 e44 (fun q e => zt_L_add h e44 e45 (zk_set_s _ _ _ _) (fun i hi => ?_) ?_)
  · rw [zk_set_n hi, zk_set_o (by omega)]
  · rw [zk_set_o (by omega), zk_set_n hi]
  · rw [zk_set_o (by omega), zk_set_s, e]
theorem sp_lastW (h : zt_L μ k o W cmp) (hl : W.length ≤ 29) (hB : B ((W.headD 0 : Nat) : Int) μ) : zk_C 56 [.inr (.inr (.inl 44))] μ (zk_RI B) := by
  obtain ⟨h1, h2, _⟩ := h
  cases W with
  | nil =>
    have h1 : μ 44 5 = 0 := h1
    exact c_Rea_lastWaiting ⟨fun _ => hB, fun q => by omega⟩
  | cons s W =>
    have e := h2 0 s rfl
    rw [List.length_cons] at h1 hl e
    refine c_Rea_lastWaiting ⟨fun q => by omega, fun _ => ⟨fun q => by omega, fun _ => ⟨by omega, by omega, ?_⟩⟩⟩
    rw [h1, show ((W.length + 1 : Nat) : Int) - 1 = ((W.length + 1 : Nat) : Int) - 1 - ((0 : Nat) : Int) by simp, e]
    exact hB
theorem sp_rank {c : Nat} (hB : B (zt_rk c : Int) μ) : zk_C 54 [.inl (c : Int)] μ (zk_RI B) := by
  unfold zt_rk at hB
  refine c_Rea_rank ⟨fun q => ?_, fun q1 => ⟨fun q => ?_, fun q2 => ⟨fun q => ?_, fun q3 => ⟨fun q => ?_, fun q4 => ⟨fun q => ?_, fun q5 => ⟨fun q => ?_, fun q6 => ⟨fun q => ?_, fun q7 => ⟨fun q => ?_, fun q8 => ⟨fun q => ?_, fun q9 => ?_⟩⟩⟩⟩⟩⟩⟩⟩⟩
  · rw [show c = 9 by omega] at hB
    exact hB
  · rw [show c = 10 by omega] at hB
    exact hB
  · rw [show c = 11 by omega] at hB
    exact hB
  · rw [show c = 12 by omega] at hB
    exact hB
  · rw [show c = 13 by omega] at hB
    exact hB
  · rw [show c = 24 by omega] at hB
    exact hB
  · rw [show c = 25 by omega] at hB
    exact hB
  · rw [show c = 26 by omega] at hB
    exact hB
  · rw [show c = 32 by omega] at hB
    exact hB
  · rw [if_neg (by omega), if_neg (by omega), if_neg (by omega), if_neg (by omega), if_neg (by omega), if_neg (by omega), if_neg (by omega)] at hB
    refine c_Rea_isComparison ⟨fun q => ⟨fun _ => ?_, fun e => absurd rfl e⟩, fun q => ⟨fun p => ⟨fun _ => ?_, fun e => absurd rfl e⟩, fun p => ⟨fun e => absurd e (by decide), fun _ => ?_⟩⟩⟩
    · rw [if_neg (by omega)] at hB
      exact hB
    · rw [if_neg (by omega)] at hB
      exact hB
    · rw [if_pos (by omega)] at hB
      exact hB
/-- what reader and waiting signs keep when one is dropped *-/
theorem sp_drop {s : Nat} (h : zt_L μ k o (s :: W) cmp) (hk : k = 26 ∨ k = 30 ∨ k = 34 ∨ k = 38) (hl : (s :: W).length ≤ 29) (ho : zt_op (s :: W) ≤ 8) (hB : ∀ μ', zt_lf k μ μ' → μ' 42 = μ 42 → μ' 44 0 = μ 44 0 → μ' 44 1 = μ 44 1 → zt_L μ' k o W cmp → BV μ') : zk_C 58 [.inr (.inr (.inl 44))] μ (zk_RV BV) := by
  have h1 := h.1
  have h6 := h.2.2.1
  have h7 := h.2.2.2.1
  have hbo : ∀ W : List Nat, zt_br W ≤ zt_op W := fun W => by
    induction W with
    | nil => exact Nat.le_refl 0
    | cons x W ih => rw [zt_br, zt_op]; split <;> split <;> omega
  have hb := hbo (s :: W)
  rw [List.length_cons] at h1 hl
  have fin : ∀ ν : zk_M, zq [44] μ ν → (∀ i : Int, i ≠ 5 → i ≠ 6 → i ≠ 7 → ν 44 i = μ 44 i) → ν 44 5 = (W.length : Int) → ν 44 6 = (zt_op W : Int) → ν 44 7 = (zt_br W : Int) → BV ν := fun ν z ne e5 e6 e7 => hB ν ⟨z.up (by simp), fun i hi => by rw [z k (by simp; omega)], ne 2 (by decide) (by decide) (by decide), ne 3 (by decide) (by decide) (by decide), by rw [z 42 (by decide)]⟩ (z 42 (by decide)) (ne 0 (by decide) (by decide) (by decide)) (ne 1 (by decide) (by decide) (by decide)) (zt_L_pop h e5 (z 45 (by decide)) e6 e7 (ne 8 (by decide) (by decide) (by decide)) (by rw [z k (by simp; omega)]) (z _ (by simp; omega)))
  refine c_Rea_drop (sp_lastW h (by rw [List.length_cons]; exact hl) ?_)
  rw [List.headD_cons]
  rw [zt_op] at h6
  rw [zt_br] at h7
  rw [zt_op] at ho
  rw [zt_br, zt_op] at hb
  refine ⟨fun q => ⟨by omega, t_Rea_drop_33 ⟨fun q2 => absurd q q2, fun _ => ?_⟩⟩, fun q => ⟨fun q1 => ⟨by omega, t_Rea_drop_33 ⟨fun _ => ?_, fun q2 => absurd q2 q⟩⟩, fun q1 => ⟨fun q2 => t_Rea_drop_33 ⟨fun _ => ?_, fun q3 => absurd q3 q⟩, fun q2 => ⟨by omega, t_Rea_drop_33 ⟨fun _ => ?_, fun q3 => absurd q3 q⟩⟩⟩⟩⟩
  · rw [if_pos (by omega)] at h6 h7
    rw [zk_set_n (i := 6) (j := 7) (by decide), zk_set_n (i := 6) (j := 5) (by decide)]
    refine ⟨by omega, fun q2 => by omega, fun _ => ⟨by omega, fin _ ((((zq.rf _ _).set (by decide) _ _).set (by decide) _ _).set (by decide) _ _) (fun i i5 i6 i7 => by rw [zk_set_n i5, zk_set_n i7, zk_set_n i6]) ?_ ?_ ?_⟩⟩
    · rw [zk_set_s]
      omega
    · rw [zk_set_n (by decide), zk_set_n (by decide), zk_set_s]
      omega
    · rw [zk_set_n (by decide), zk_set_s]
      omega
  · rw [if_pos (by omega)] at h6
    rw [if_neg (by omega)] at h7
    rw [zk_set_n (i := 6) (j := 5) (by decide)]
    refine ⟨fun q2 => by omega, fun _ => ⟨by omega, fin _ (((zq.rf _ _).set (by decide) _ _).set (by decide) _ _) (fun i i5 i6 i7 => by rw [zk_set_n i5, zk_set_n i6]) ?_ ?_ ?_⟩⟩
    · rw [zk_set_s]
      omega
    · rw [zk_set_n (by decide), zk_set_s]
      omega
    · rw [zk_set_n (by decide), zk_set_n (by decide)]
      omega
  · rw [if_neg (by omega)] at h6 h7
    refine ⟨fun q2 => by omega, fun _ => ⟨by omega, fin _ ((zq.rf _ _).set (by decide) _ _) (fun i i5 i6 i7 => by rw [zk_set_n i5]) ?_ ?_ ?_⟩⟩
    · rw [zk_set_s]
      omega
    · rw [zk_set_n (by decide)]
      omega
    · rw [zk_set_n (by decide)]
      omega
  · rw [if_pos (by omega)] at h6
    rw [if_neg (by omega)] at h7
    rw [zk_set_n (i := 6) (j := 5) (by decide)]
    refine ⟨fun q2 => by omega, fun _ => ⟨by omega, fin _ (((zq.rf _ _).set (by decide) _ _).set (by decide) _ _) (fun i i5 i6 i7 => by rw [zk_set_n i5, zk_set_n i6]) ?_ ?_ ?_⟩⟩
    · rw [zk_set_s]
      omega
    · rw [zk_set_n (by decide), zk_set_s]
      omega
    · rw [zk_set_n (by decide), zk_set_n (by decide)]
      omega
end
