/-! the plain automaton, settled early; the reference settles its pile *-/
def zt_ar (A : List Nat) : Prop := ∀ s ∈ A, s = 13 ∨ s = 32 ∨ (9 ≤ s ∧ s ≤ 12)
theorem zt_op_app (A D : List Nat) : zt_op (A ++ D) = zt_op A + zt_op D := by
  induction A with
  | nil => rw [List.nil_append]; exact (Nat.zero_add _).symm
  | cons s A ih => rw [List.cons_append, zt_op, zt_op, ih]; omega
theorem zt_br_app (A D : List Nat) : zt_br (A ++ D) = zt_br A + zt_br D := by
  induction A with
  | nil => rw [List.nil_append]; exact (Nat.zero_add _).symm
  | cons s A ih => rw [List.cons_append, zt_br, zt_br, ih]; omega
theorem zt_st_D {r : Nat} {D : List Nat} (hD : ∀ s D', D = s :: D' → zt_rk s < r) : ∀ (A : List Nat) (l : List (Int × Int)), zt_st r (A ++ D) l = ((zt_st r A l).1 ++ D, (zt_st r A l).2)
  | [], l => by
    cases D with
    | nil => rfl
    | cons s D =>
      rw [List.nil_append, zt_st_n (hD s D rfl)]
      rfl
  | s :: A, l => by
    rw [List.cons_append, zt_st, zt_st]
    split
    · exact zt_st_D hD A _
    · rfl
theorem zt_st_m (r : Nat) : ∀ (W : List Nat) (l : List (Int × Int)), ∀ s ∈ (zt_st r W l).1, s ∈ W
  | [], l, s, hs => hs
  | x :: W, l, s, hs => by
    rw [zt_st] at hs
    split at hs
    · exact List.mem_cons_of_mem _ (zt_st_m r W _ s hs)
    · exact hs
theorem zt_st_ln (r : Nat) : ∀ (W : List Nat) (l : List (Int × Int)), (zt_st r W l).2.length + (zt_st r W l).1.length = l.length + W.length
  | [], l => rfl
  | x :: W, l => by
    rw [zt_st]
    split
    · rw [zt_st_ln r W, List.length_append, List.length_singleton, List.length_cons]
      omega
    · rfl
theorem zt_st_hd (r : Nat) : ∀ (W : List Nat) (l : List (Int × Int)), ∀ s W', (zt_st r W l).1 = s :: W' → zt_rk s < r
  | [], l, s, W', e => absurd e (by simp [zt_st])
  | x :: W, l, s, W', e => by
    rw [zt_st] at e
    split at e
    · exact zt_st_hd r W _ s W' e
    · have : x = s := (List.cons.inj e).1
      rw [← this]
      omega
theorem zt_ark {s : Nat} (h : s = 13 ∨ s = 32 ∨ (9 ≤ s ∧ s ≤ 12)) : (s = 13 ∧ zt_rk s = 0) ∨ (s = 32 ∧ zt_rk s = 8) ∨ ((s = 9 ∨ s = 10) ∧ zt_rk s = 6) ∨ ((s = 11 ∨ s = 12) ∧ zt_rk s = 7) := by
  rcases (show s = 13 ∨ s = 32 ∨ s = 9 ∨ s = 10 ∨ s = 11 ∨ s = 12 by omega) with rfl | rfl | rfl | rfl | rfl | rfl <;> decide
theorem zt_st_60 : ∀ {A : List Nat} (l : List (Int × Int)), zt_ar A → zt_br A = 0 → (zt_st 6 A l).1 = []
  | [], l, _, _ => rfl
  | s :: A, l, h, h0 => by
    have hs := zt_ark (h s List.mem_cons_self)
    rw [zt_br] at h0
    have n13 : s ≠ 13 := fun e => by
      rw [if_pos e] at h0
      omega
    rw [zt_st, if_pos (by omega)]
    exact zt_st_60 _ (fun x hx => h x (List.mem_cons_of_mem _ hx)) (by omega)
theorem zt_st_61 {D : List Nat} : ∀ {A : List Nat} (l : List (Int × Int)), zt_ar A → 0 < zt_br A → zt_st 1 (A ++ D) l = ((zt_st 6 A l).1 ++ D, (zt_st 6 A l).2) ∧ ∃ A', (zt_st 6 A l).1 = 13 :: A'
  | [], l, _, h0 => absurd h0 (by decide)
  | s :: A, l, h, h0 => by
    have hs := zt_ark (h s List.mem_cons_self)
    by_cases e : s = 13
    · subst e
      rw [List.cons_append, zt_st_n (show zt_rk 13 < 1 by decide), zt_st_n (show zt_rk 13 < 6 by decide)]
      exact ⟨rfl, A, rfl⟩
    · rw [zt_br, if_neg e] at h0
      rw [List.cons_append, zt_st, if_pos (by omega), zt_st, if_pos (by omega)]
      exact zt_st_61 _ (fun x hx => h x (List.mem_cons_of_mem _ hx)) (by omega)
theorem zt_wok_l {D : List Nat} : ∀ {A : List Nat}, zt_wok (A ++ D) → zt_wok A
  | [], _ => trivial
  | s :: A, h => by
    refine ⟨zt_wok_l h.1, ?_⟩
    have ha : zt_adj s (A ++ D) := h.2
    cases A with
    | nil =>
      have := zt_adj_v ha
      show s = 13 ∨ _
      omega
    | cons x A => exact ha
theorem zt_cfk {g cmp : Bool} {W : List Nat} {c : Nat} (h : zt_cf g W cmp c = true) : zt_rk c ≤ 8 ∧ (¬ (9 ≤ c ∧ c ≤ 12) → zt_rk c ≤ 6) := by
  have : c = 14 ∨ c = 15 ∨ c = 24 ∨ c = 25 ∨ (3 ≤ c ∧ c ≤ 12) := by
    unfold zt_cf at h
    split at h
    · omega
    · split at h
      · have := of_decide_eq_true h
        omega
      · split at h
        · have := of_decide_eq_true h
          omega
        · split at h
          · have := of_decide_eq_true h
            omega
          · have := of_decide_eq_true h
            omega
  rcases (show c = 14 ∨ c = 15 ∨ c = 24 ∨ c = 25 ∨ c = 3 ∨ c = 4 ∨ c = 5 ∨ c = 6 ∨ c = 7 ∨ c = 8 ∨ c = 9 ∨ c = 10 ∨ c = 11 ∨ c = 12 by omega) with rfl | rfl | rfl | rfl | rfl | rfl | rfl | rfl | rfl | rfl | rfl | rfl | rfl | rfl <;> decide
theorem zt_cf_br {g cmp : Bool} {W W' : List Nat} {c : Nat} (h : zt_br W = zt_br W') : zt_cf g W cmp c = zt_cf g W' cmp c := by
  unfold zt_cf
  rw [h]
theorem zt_law_st {tk : Nat → zt_T} {g cmp : Bool} {n : Nat} {W W' : List Nat} {l l' : List (Int × Int)} {t : zt_T} (hb : zt_br W = zt_br W') (h : zt_cf g W cmp t.1 = true → zt_st (zt_rk t.1) W l = zt_st (zt_rk t.1) W' l') : zt_law tk g n false W cmp l t = zt_law tk g n false W' cmp l' t := by
  cases n with
  | zero => rfl
  | succ n =>
    rw [zt_law, zt_law, zt_cf_br (W := W) (W' := W') hb]
    by_cases q : zt_cf g W' cmp t.1 = false
    · rw [if_pos q, if_pos q]
    · have e := h (by rw [zt_cf_br hb]; simpa using q)
      rw [e]
theorem zt_st_br8 : ∀ (W : List Nat) (l : List (Int × Int)), zt_br (zt_st 8 W l).1 = zt_br W
  | [], _ => rfl
  | s :: W, l => by
    rw [zt_st]
    split
    · rename_i q
      have e : s ≠ 13 := fun e => by
        rw [e] at q
        exact absurd q (by decide)
      rw [zt_st_br8 W, zt_br, if_neg e]
      rfl
    · rfl
theorem zt_law_8 {tk : Nat → zt_T} {g cmp : Bool} {n : Nat} (W : List Nat) (l : List (Int × Int)) {t : zt_T} : zt_law tk g n false W cmp l t = zt_law tk g n false (zt_st 8 W l).1 cmp (zt_st 8 W l).2 t :=
  zt_law_st (zt_st_br8 W l).symm (fun h => zt_st_st (zt_cfk h).1 W l)
theorem zt_law_6 {tk : Nat → zt_T} {g cmp : Bool} {n : Nat} {D A : List Nat} {l : List (Int × Int)} {t : zt_T} (hD : ∀ s D', D = s :: D' → zt_rk s < 6) (ha : zt_ar A) (h0 : zt_br A = 0) (hn : ¬ (9 ≤ t.1 ∧ t.1 ≤ 12)) : zt_law tk g n false (A ++ D) cmp l t = zt_law tk g n false D cmp (zt_st 6 A l).2 t := by
  refine zt_law_st (by rw [zt_br_app, h0, Nat.zero_add]) (fun h => ?_)
  rw [zt_st_st ((zt_cfk h).2 hn) (A ++ D) l, zt_st_D hD, zt_st_60 l ha h0]
  rfl
theorem zt_I_st {g cmp : Bool} {W : List Nat} {l : List (Int × Int)} {r : Nat} (hr : 6 ≤ r) (h : zt_I g false W cmp l) : zt_I g false (zt_st r W l).1 cmp (zt_st r W l).2 := by
  have hl := zt_I_len h
  obtain ⟨h1, h2, h3, h4, h5, h6⟩ := h
  obtain ⟨i1, i2, i3, i4, i5, i6, i7, i8, i9⟩ := zt_st_v hr W l h1 (by omega) h6
  refine ⟨i1, by omega, fun hg s hs => h3 hg s (i3 s hs), ?_, fun hg q hq e => ?_, i2⟩
  · rw [h4]
    exact ⟨fun ⟨x, hx, hx2⟩ => ⟨x, i4 x hx (by omega), hx2⟩, fun ⟨x, hx, hx2⟩ => ⟨x, i3 x hx, hx2⟩⟩
  · rcases i9 q hq with p | p
    · exact h5 hg q p e
    · exact absurd e p
section
variable {BV : zk_M → Prop} {B : Int → zk_M → Prop} {b : Nat}
theorem zt_P_pop {μ ν : zk_M} {s : Nat} {A : List Nat} (h : zt_P μ (s :: A)) (h17 : ν 60 17 = (A.length : Int)) (h65 : ν 65 = μ 65) : zt_P ν A := by
  refine ⟨h17, fun i x hx => ?_⟩
  have := h.2 (i + 1) x (by rw [List.getElem?_cons_succ]; exact hx)
  rw [h65, ← this, List.length_cons]
  congr 1
  push_cast
  omega
theorem zt_P_top {μ : zk_M} {s : Nat} {A : List Nat} (h : zt_P μ (s :: A)) : μ 60 17 = (A.length : Int) + 1 ∧ μ 65 (A.length : Int) = zt_ro s := by
  refine ⟨by rw [h.1, List.length_cons]; rfl, ?_⟩
  have := h.2 0 s rfl
  rw [← this, List.length_cons]
  congr 1
  push_cast
  omega
theorem sp_settleM {x : Int} {r : Nat} (hbb : b ≤ 2040) (hx : (x = 3 ∧ r = 6) ∨ (x = 5 ∧ r = 7)) : ∀ (A : List Nat) (o : List (Int × Int)) (ν : zk_M), zt_P ν A → zt_M ν b o → zt_ar A → zt_wok A → A.length ≤ 150 → (∀ A', A ≠ 32 :: A') → o.length + A.length ≤ 302 → (∀ ν', zt_g b ν ν' → (∀ i : Int, i ≠ 14 → i ≠ 17 → ν' 60 i = ν 60 i) → zt_P ν' (zt_st r A o).1 → zt_M ν' b (zt_st r A o).2 → BV ν') → zk_K 173 0 [.inr (.inr (.inl 60)), .inl x] [] ν (zk_RV BV) := by
  intro A
  induction A with
  | nil =>
    intro o ν hP hM _ _ _ _ _ hB
    have h17 : ν 60 17 = 0 := hP.1
    exact t_Mod_settle_0 ⟨fun _ => hB ν (zt_g.rf _ _) (fun _ _ _ => rfl) hP hM, fun q => by omega⟩
  | cons s A ih =>
    intro o ν hP hM ha hw hl h32 ho hB
    obtain ⟨h17, h65⟩ := zt_P_top hP
    rw [List.length_cons] at hl ho
    have hs := zt_ark (ha s List.mem_cons_self)
    refine t_Mod_settle_0 ?_
    rw [h17, show (A.length : Int) + 1 - 1 = A.length by omega, h65]
    refine ⟨fun q => by omega, fun _ => ⟨by omega, by omega, fun q40 => ?_, fun q40 => ⟨by omega, by omega, fun ql => ?_, fun ql => ⟨by omega, by omega, ?_⟩⟩⟩⟩
    · have e : zt_rk s < r := by
        rcases hs with e | e | e | e
        · omega
        · exact absurd (by rw [e.1]) (h32 A)
        · rcases e.1 with rfl | rfl <;> exact absurd q40 (by decide)
        · rcases e.1 with rfl | rfl <;> exact absurd q40 (by decide)
      rw [zt_st_n e] at hB
      exact hB ν (zt_g.rf _ _) (fun _ _ _ => rfl) hP hM
    · have e : zt_rk s < r := by
        rcases hs with e | e | e | e
        · omega
        · exact absurd (by rw [e.1]) (h32 A)
        · have : zt_ro s = 3 ∨ zt_ro s = 4 := by rcases e.1 with rfl | rfl <;> decide
          omega
        · have : zt_ro s = 5 ∨ zt_ro s = 6 := by rcases e.1 with rfl | rfl <;> decide
          omega
      rw [zt_st_n e] at hB
      exact hB ν (zt_g.rf _ _) (fun _ _ _ => rfl) hP hM
    · have e : r ≤ zt_rk s ∧ zt_o s = zt_ro s ∧ 9 ≤ s ∧ s ≤ 12 := by
        rcases hs with e | e | e | e
        · rw [e.1] at q40
          exact absurd (by decide) q40
        · exact absurd (by rw [e.1]) (h32 A)
        · have e2 : (zt_ro s = 3 ∨ zt_ro s = 4) ∧ zt_o s = zt_ro s := by rcases e.1 with rfl | rfl <;> decide
          refine ⟨by omega, e2.2, by omega⟩
        · have e2 : (zt_ro s = 5 ∨ zt_ro s = 6) ∧ zt_o s = zt_ro s := by rcases e.1 with rfl | rfl <;> decide
          refine ⟨by omega, e2.2, by omega⟩
      rw [zt_st, if_pos e.1, e.2.1] at hB
      have g1 : zt_g b ν (zk_set ν 60 17 (A.length : Int)) := zt_g_60 b ν (by omega) _
      refine sp_emit hbb (hM.cg (by rw [zk_set_n (by decide)]) (by rw [zk_set_n (by decide)]) (by rw [zk_set_o (by decide)])) (by omega) (fun ν1 z1 y1 e65 e64 M1 => ?_)
      refine ih _ ν1 (zt_P_pop hP (by rw [y1 17 (by decide), zk_set_s]) (by rw [e65, zk_set_o (by decide)])) M1 (fun x hx => ha x (List.mem_cons_of_mem _ hx)) hw.1 (by omega) (fun A' q => ?_) (by rw [List.length_append, List.length_singleton]; omega) (fun ν' z' y' P' M' => hB ν' (g1.tr (z1.tr z')) (fun i h14 h17 => by rw [y' i h14 h17, y1 i h14, zk_set_n h17]) P' M')
      have hw2 := hw.2
      rw [q] at hw2
      unfold zt_adj at hw2
      have k32 : zt_rk 32 = 8 := by decide
      have ks : zt_rk s = 6 ∨ zt_rk s = 7 := by omega
      omega
theorem sp_wholeK {d : Int} (hbb : b ≤ 2040) : ∀ (A : List Nat) (o : List (Int × Int)) (ν : zk_M), zt_P ν A → zt_M ν b o → zt_ar A → A.length ≤ 150 → zt_op A ≤ 8 → 0 ≤ d → d ≤ 8 → o.length + A.length ≤ 302 → ν 60 18 = (zt_op A : Int) + d → (∀ ν', zt_g b ν ν' → (∀ i : Int, i ≠ 14 → i ≠ 17 → i ≠ 18 → ν' 60 i = ν 60 i) → ν' 60 18 = (zt_op (zt_st 8 A o).1 : Int) + d → zt_P ν' (zt_st 8 A o).1 → zt_M ν' b (zt_st 8 A o).2 → BV ν') → zk_K 172 5 [.inr (.inr (.inl 60))] [] ν (zk_RV BV) := by
  intro A
  induction A with
  | nil =>
    intro o ν hP hM _ _ _ _ _ _ h18 hB
    have h17 : ν 60 17 = 0 := hP.1
    exact t_Mod_whole_5 ⟨fun _ => hB ν (zt_g.rf _ _) (fun _ _ _ _ => rfl) h18 hP hM, fun q => by omega⟩
  | cons s A ih =>
    intro o ν hP hM ha hl hop hd0 hd ho h18 hB
    obtain ⟨h17, h65⟩ := zt_P_top hP
    rw [List.length_cons] at hl ho
    have hs := zt_ark (ha s List.mem_cons_self)
    refine t_Mod_whole_5 ?_
    rw [h17, show (A.length : Int) + 1 - 1 = A.length by omega, h65]
    refine ⟨fun q => by omega, fun _ => ⟨by omega, by omega, fun q2 => ?_, fun q2 => ?_⟩⟩
    · have e : zt_rk s < 8 := by
        rcases hs with e | e | e | e
        · omega
        · rw [e.1] at q2
          exact absurd (by decide) q2
        · omega
        · omega
      rw [zt_st_n e] at hB
      exact hB ν (zt_g.rf _ _) (fun _ _ _ _ => rfl) h18 hP hM
    · have e : s = 32 := by
        rcases hs with e | e | e | e
        · rw [e.1] at q2
          exact absurd q2 (by decide)
        · exact e.1
        · rcases e.1 with rfl | rfl <;> exact absurd q2 (by decide)
        · rcases e.1 with rfl | rfl <;> exact absurd q2 (by decide)
      subst e
      rw [zt_op, if_pos (by decide)] at h18 hop
      rw [zt_st, if_pos (by decide)] at hB
      rw [h18]
      refine ⟨by omega, by omega, ?_⟩
      have g1 : zt_g b ν (zk_set (zk_set ν 60 17 (A.length : Int)) 60 18 (((zt_op A + 1 : Nat) : Int) + d - 1)) := (zt_g_60 b ν (by omega) _).tr (zt_g_60 b _ (by omega) _)
      refine sp_emit hbb (hM.cg (by rw [zk_set_n (by decide), zk_set_n (by decide)]) (by rw [zk_set_n (by decide), zk_set_n (by decide)]) (by rw [zk_set_o (by decide), zk_set_o (by decide)])) (by omega) (fun ν1 z1 y1 e65 e64 M1 => ?_)
      exact ih _ ν1 (zt_P_pop hP (by rw [y1 17 (by decide), zk_set_n (by decide), zk_set_s]) (by rw [e65, zk_set_o (by decide), zk_set_o (by decide)])) M1 (fun x hx => ha x (List.mem_cons_of_mem _ hx)) (by omega) (by omega) hd0 hd (by rw [List.length_append, List.length_singleton]; omega) (by rw [y1 18 (by decide), zk_set_s]; omega) (fun ν' z' y' e18 P' M' => hB ν' (g1.tr (z1.tr z')) (fun i h14 h17 h18 => by rw [y' i h14 h17 h18, y1 i h14, zk_set_n h18, zk_set_n h17]) e18 P' M')
end
