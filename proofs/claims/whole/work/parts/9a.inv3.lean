/-! the law's state, step by step *-/
def zt_I (g due : Bool) (W : List Nat) (cmp : Bool) (l : List (Int × Int)) : Prop := zt_wok W ∧ zt_op W ≤ 8 ∧ (g = false → ∀ s ∈ W, s = 13 ∨ s = 32 ∨ (9 ≤ s ∧ s ≤ 12)) ∧ (cmp = true ↔ ∃ s, s ∈ W ∧ 3 ≤ s ∧ s ≤ 8) ∧ (g = false → ∀ q ∈ l, q.1 = 1 → q.2 < 4) ∧ zx_ty l (0, 0) = some (zt_nt W, zt_na W + (if due then 0 else 1))
section
variable {g cmp : Bool} {W : List Nat} {l : List (Int × Int)}
theorem zt_wok_29 {W : List Nat} (h1 : zt_wok W) (h2 : zt_op W ≤ 8) : W.length ≤ 29 := by
  have h1 := zt_wok_len W h1
  have h3 : zt_rr W ≤ 5 := by
    unfold zt_rr
    split
    · exact Nat.zero_le _
    · exact (zt_rs_5 _).2
  omega
theorem zt_I_len {due : Bool} (h : zt_I g due W cmp l) : W.length ≤ 29 := zt_wok_29 h.1 h.2.1
theorem zt_I_0 (g : Bool) : zt_I g true [] false [] := ⟨trivial, Nat.zero_le _, fun _ s hs => absurd hs (by simp), ⟨fun h => absurd h (by decide), fun ⟨s, hs, _⟩ => absurd hs (by simp)⟩, fun _ q hq => absurd hq (by simp), rfl⟩
theorem zt_I_v {q : Int × Int} (h : zt_I g true W cmp l) (hq : (q.1 = 0 ∧ 0 ≤ q.2 ∧ q.2 ≤ 9999) ∨ (q.1 = 1 ∧ 0 ≤ q.2 ∧ q.2 ≤ 4 ∧ (g = false → q.2 < 4))) : zt_I g false W cmp (l ++ [q]) := by
  have hl := zt_I_len h
  obtain ⟨h1, h2, h3, h4, h5, h6⟩ := h
  have hc := zt_cnt W
  refine ⟨h1, h2, h3, h4, fun hg x hx e => ?_, ?_⟩
  · rcases List.mem_append.mp hx with p | p
    · exact h5 hg x p e
    · simp at p
      rw [p] at e ⊢
      rcases hq with q1 | q1
      · omega
      · exact q1.2.2.2 hg
  · refine zx_ty_app (p1 := (zt_nt W, zt_na W)) ?_ (by show zt_nt W + (zt_na W + 1) ≤ 32; omega) l _ h6
    unfold zx_ok1
    rcases hq with ⟨q1, q2⟩ | ⟨q1, q2⟩
    · rw [if_pos q1, if_pos q2]
      rfl
    · rw [if_neg (by omega), if_pos q1, if_pos ⟨q2.1, q2.2.1⟩]
      rfl
theorem zt_I_o {s : Nat} (h : zt_I g true W cmp l) (hs : s = 13 ∨ s = 32 ∨ (s = 26 ∧ g = true ∧ zt_ask W = true)) (ho : ¬ 8 ≤ zt_op W) : zt_I g true (s :: W) cmp l := by
  obtain ⟨h1, h2, h3, h4, h5, h6⟩ := h
  have hv : s = 13 ∨ s = 32 ∨ s = 26 := by
    rcases hs with p | p | p
    · exact Or.inl p
    · exact Or.inr (Or.inl p)
    · exact Or.inr (Or.inr p.1)
  have nc : ¬ (3 ≤ s ∧ s ≤ 12) := by clear h4 hs; omega
  have n24 : ¬ (s = 24 ∨ s = 25) := by clear h4 hs; omega
  refine ⟨⟨h1, ?_⟩, ?_, fun hg x hx => ?_, ?_, h5, ?_⟩
  · clear h4
    unfold zt_adj
    cases W with
    | nil =>
      show s = 13 ∨ _
      clear hs
      omega
    | cons x W =>
      have hx : s = 26 → x = 24 ∨ x = 25 ∨ x = 26 := fun e => by
        rcases hs with p | p | p
        · omega
        · omega
        · simpa [zt_ask] using p.2.2
      show s = 13 ∨ _
      clear hs
      omega
  · clear h4 hs
    rw [zt_op]
    split <;> omega
  · rcases List.mem_cons.mp hx with e | e
    · rw [e]
      rcases hs with p | p | p
      · exact Or.inl p
      · exact Or.inr (Or.inl p)
      · rw [hg] at p
        exact absurd p.2.1 (by decide)
    · exact h3 hg x e
  · rw [h4]
    constructor
    · intro ⟨x, hx, hx2⟩
      exact ⟨x, List.mem_cons_of_mem _ hx, hx2⟩
    · intro ⟨x, hx, hx2⟩
      rcases List.mem_cons.mp hx with e | e
      · exact absurd (show 3 ≤ s ∧ s ≤ 12 by rw [← e]; exact ⟨hx2.1, Nat.le_trans hx2.2 (by decide)⟩) nc
      · exact ⟨x, e, hx2⟩
  · rw [zt_nt, zt_na, if_neg n24, if_neg nc]
    exact h6
theorem zt_rk_c {c : Nat} (h : 3 ≤ c ∧ c ≤ 8) : zt_rk c = 5 := by
  rcases (show c = 3 ∨ c = 4 ∨ c = 5 ∨ c = 6 ∨ c = 7 ∨ c = 8 by omega) with rfl | rfl | rfl | rfl | rfl | rfl <;> decide
theorem zt_rk_d {x : Nat} (h : x = 24 ∨ x = 25 ∨ x = 26) : zt_rk x ≤ 4 ∧ 2 ≤ zt_rk x := by
  rcases h with rfl | rfl | rfl <;> decide
theorem zt_st_n {r s : Nat} {W : List Nat} {l : List (Int × Int)} (h : zt_rk s < r) : zt_st r (s :: W) l = (s :: W, l) := by rw [zt_st, if_neg (by omega)]
/-- a sign behind a ONE -/
theorem zt_sgn {c : Nat} (h : zt_I g false W cmp l) (hf : zt_cf g W cmp c = true) : (zt_st (zt_rk c) W l).2.length + (zt_st (zt_rk c) W l).1.length = l.length + W.length ∧ (c = 14 → ∃ W', (zt_st (zt_rk c) W l).1 = 13 :: W' ∧ zt_I g false W' cmp (zt_st (zt_rk c) W l).2) ∧ (c = 15 → (zt_st (zt_rk c) W l).1 = [] ∧ zx_ty (zt_st (zt_rk c) W l).2 (0, 0) = some (if g then (1, 0) else (0, 1)) ∧ (g = false → ∀ q ∈ (zt_st (zt_rk c) W l).2, q.1 = 1 → q.2 < 4)) ∧ (c ≠ 14 → c ≠ 15 → zt_I g true (c :: (zt_st (zt_rk c) W l).1) (zt_cm cmp c) (zt_st (zt_rk c) W l).2) := by
  have hl := zt_I_len h
  obtain ⟨h1, h2, h3, h4, h5, h6⟩ := h
  have h6 : zx_ty l (0, 0) = some (zt_nt W, zt_na W + 1) := h6
  have nm : ∀ L : List (Int × Int), (∀ q ∈ L, q ∈ l ∨ q.1 ≠ 1) → g = false → ∀ q ∈ L, q.1 = 1 → q.2 < 4 := fun L hL hg q hq e => by
    rcases hL q hq with p | p
    · exact h5 hg q p e
    · exact absurd e p
  by_cases ca : 9 ≤ c ∧ c ≤ 12
  · have hk : 6 ≤ zt_rk c := by rcases zt_rk_b ca with p | p <;> omega
    obtain ⟨i1, i2, i3, i4, i5, i6, i7, i8, i9⟩ := zt_st_v hk W l h1 (by omega) h6
    refine ⟨i7, fun e => by omega, fun e => by omega, fun _ _ => ⟨⟨i1, ?_⟩, by rw [zt_op, if_neg (by omega)]; omega, fun hg x hx => ?_, ?_, nm _ i9, ?_⟩⟩
    · cases hW : (zt_st (zt_rk c) W l).1 with
      | nil => show c = 13 ∨ _; omega
      | cons x W' =>
        have := i8 x W' hW
        show c = 13 ∨ _
        omega
    · rcases List.mem_cons.mp hx with e | e
      · rw [e]
        exact Or.inr (Or.inr ca)
      · exact h3 hg x (i3 x e)
    · have ec : zt_cm cmp c = cmp := by
        unfold zt_cm
        rw [if_neg (by omega), if_neg (by omega)]
      rw [ec, h4]
      constructor
      · intro ⟨x, hx, hx2⟩
        exact ⟨x, List.mem_cons_of_mem _ (i4 x hx (by omega)), hx2⟩
      · intro ⟨x, hx, hx2⟩
        rcases List.mem_cons.mp hx with e | e
        · omega
        · exact ⟨x, i3 x e, hx2⟩
    · rw [i2, zt_nt, zt_na, if_neg (by omega), if_pos (by omega)]
      rfl
  · unfold zt_cf at hf
    rw [if_neg ca] at hf
    obtain ⟨i1, i2, i3, i4, i5, i6, i7, i8, i9⟩ := zt_st_v (r := 6) (Nat.le_refl _) W l h1 (by omega) h6
    have hd6 : ∀ x W', (zt_st 6 W l).1 = x :: W' → x = 13 ∨ (3 ≤ x ∧ x ≤ 8) ∨ x = 24 ∨ x = 25 ∨ x = 26 := fun x W' e => by
      have hk := i8 x W' e
      rw [e] at i1
      have hv := zt_adj_v i1.2
      have h6' := zt_rk_6 i1.2
      omega
    by_cases cb : 0 < zt_br W
    · rw [if_pos cb] at hf
      have c14 : c = 14 := by simpa using hf
      subst c14
      have hk : zt_rk 14 = 1 := by decide
      rw [hk, zt_st_st (r := 1) (r' := 6) (by decide) W l]
      cases hW : (zt_st 6 W l).1 with
      | nil =>
        rw [hW] at i6
        have : zt_br [] = 0 := rfl
        omega
      | cons x W' =>
        have hx := hd6 x W' hW
        rw [hW] at i1 i2 i5 i6 i7
        have x13 : x = 13 := by
          by_cases p : x = 13
          · exact p
          · have := (zt_br_0 (zt_wok_d i1 (by omega))).1
            rw [zt_br, this, if_neg p] at i6
            omega
        subst x13
        rw [zt_st_n (by decide)]
        refine ⟨i7, fun _ => ⟨W', rfl, i1.1, by rw [zt_op] at i5; omega, fun hg y hy => h3 hg y (i3 y (by rw [hW]; exact List.mem_cons_of_mem _ hy)), ?_, nm _ i9, ?_⟩, fun e => absurd e (by decide), fun e => absurd rfl e⟩
        · rw [h4]
          constructor
          · intro ⟨y, hy, hy2⟩
            have := i4 y hy (by omega)
            rw [hW] at this
            rcases List.mem_cons.mp this with e | e
            · omega
            · exact ⟨y, e, hy2⟩
          · intro ⟨y, hy, hy2⟩
            exact ⟨y, i3 y (by rw [hW]; exact List.mem_cons_of_mem _ hy), hy2⟩
        · rw [i2, zt_nt, zt_na, if_neg (by omega), if_neg (by omega)]
          rfl
    · have cb0 : zt_br W = 0 := by omega
      rw [if_neg cb] at hf
      by_cases cg : g = false
      · rw [if_pos cg] at hf
        have c15 : c = 15 := by simpa using hf
        subst c15
        have hk : zt_rk 15 = 1 := by decide
        rw [hk, zt_st_st (r := 1) (r' := 6) (by decide) W l]
        have e6 : (zt_st 6 W l).1 = [] := by
          cases hW : (zt_st 6 W l).1 with
          | nil => rfl
          | cons x W' =>
            exfalso
            have hx := hd6 x W' hW
            have hg := h3 cg x (i3 x (by rw [hW]; exact List.mem_cons_self))
            rw [hW, zt_br] at i6
            have : x = 13 := by omega
            rw [if_pos this] at i6
            omega
        rw [e6] at i2 i7 ⊢
        refine ⟨i7, fun e => absurd e (by decide), fun _ => ⟨rfl, ?_, nm _ i9⟩, fun _ e => absurd rfl e⟩
        rw [cg]
        exact i2
      · have cg1 : g = true := by simpa using cg
        rw [if_neg cg] at hf
        by_cases cc : cmp = true
        · rw [if_pos cc] at hf
          have c3 : c = 24 ∨ c = 25 ∨ c = 15 := by simpa using hf
          obtain ⟨c0, w1, w2⟩ := h4.mp cc
          have w3 := i4 c0 w1 (by omega)
          cases hW : (zt_st 6 W l).1 with
          | nil => rw [hW] at w3; exact absurd w3 (by simp)
          | cons x D =>
            have hx := hd6 x D hW
            rw [hW] at i1 i2 i5 i6 i7 w3
            have xc : 3 ≤ x ∧ x ≤ 8 := by
              by_cases p : 3 ≤ x ∧ x ≤ 8
              · exact p
              · exfalso
                rw [zt_br] at i6
                have x13 : x ≠ 13 := fun e => by
                  rw [if_pos e] at i6
                  omega
                have hD := zt_wok_d i1 (by omega)
                rcases List.mem_cons.mp w3 with e | e
                · omega
                · have := hD c0 e
                  omega
            have hD := zt_wok_d i1 (Or.inl xc)
            have n0 := (zt_br_0 hD).2
            have hkx := zt_rk_c xc
            have hl2 := zt_wok_29 i1 (Nat.le_trans i5 h2)
            rw [List.length_cons] at hl2
            have kr : zt_rk c ≤ 3 ∧ 1 ≤ zt_rk c := by rcases c3 with rfl | rfl | rfl <;> decide
            have es : zt_st (zt_rk c) W l = zt_st (zt_rk c) D ((zt_st 6 W l).2 ++ [(zt_o x, 0)]) := by
              rw [zt_st_st (r := zt_rk c) (r' := 6) (by omega) W l, hW, zt_st, if_pos (by omega)]
            have ht : zx_ty ((zt_st 6 W l).2 ++ [(zt_o x, 0)]) (0, 0) = some (zt_nt D + 1, 0) := by
              rw [zt_nt, zt_na, n0, if_neg (by omega), if_pos (by omega)] at i2
              have hc := zt_cnt D
              exact zx_ty_app (p1 := (zt_nt D, 2)) (zt_ok_c xc) (by show zt_nt D + 1 + 0 ≤ 32; omega) _ _ i2
            obtain ⟨j1, j2, j3, j4, j5, j6⟩ := zt_st_t (zt_rk c) D ((zt_st 6 W l).2 ++ [(zt_o x, 0)]) hD i1.1 (by omega) ht
            rw [es]
            generalize zt_st (zt_rk c) D ((zt_st 6 W l).2 ++ [(zt_o x, 0)]) = R at *
            have hD' : ∀ y ∈ R.1, y = 24 ∨ y = 25 ∨ y = 26 := fun y hy => hD y (j3 y hy)
            have hna := (zt_br_0 hD').2
            have low : ∀ y W', R.1 = y :: W' → zt_rk c = 3 ∧ y = 24 := fun y W' e => by
              have a := j6 y W' e
              have b := hD' y (by rw [e]; exact List.mem_cons_self)
              have kd := zt_rk_d b
              refine ⟨by omega, ?_⟩
              rcases b with rfl | rfl | rfl
              · rfl
              · exact absurd a (by have : zt_rk 25 = 3 := by decide
                                   omega)
              · exact absurd a (by have : zt_rk 26 = 4 := by decide
                                   omega)
            refine ⟨?_, fun e => by omega, fun e => ?_, fun _ n15 => ?_⟩
            · rw [List.length_append, List.length_singleton] at j5
              rw [List.length_cons] at i7
              omega
            · have e0 : R.1 = [] := by
                cases hR : R.1 with
                | nil => rfl
                | cons y W' =>
                  have := (low y W' hR).1
                  rw [e] at this
                  exact absurd this (by decide)
              refine ⟨e0, ?_, fun hg => absurd hg cg⟩
              rw [e0] at j2
              rw [cg1]
              exact j2
            · have c2 : c = 24 ∨ c = 25 := by omega
              refine ⟨⟨j1, ?_⟩, ?_, fun hg => absurd hg cg, ?_, fun hg => absurd hg cg, ?_⟩
              · cases hR : R.1 with
                | nil => show c = 13 ∨ _; omega
                | cons y W' =>
                  have hy := low y W' hR
                  have c25 : c = 25 := by
                    rcases c2 with rfl | rfl
                    · exact absurd hy.1 (by decide)
                    · rfl
                  show c = 13 ∨ _
                  omega
              · rw [zt_op, if_neg (by omega)]
                rw [zt_op] at i5
                omega
              · have ec : zt_cm cmp c = false := by
                  unfold zt_cm
                  rw [if_pos c2]
                rw [ec]
                refine ⟨fun e => absurd e (by decide), fun ⟨y, hy, hy2⟩ => ?_⟩
                rcases List.mem_cons.mp hy with e | e
                · omega
                · have := hD' y e
                  omega
              · rw [j2, zt_nt, zt_na, hna, if_pos c2, if_neg (by omega)]
                rfl
        · rw [if_neg cc] at hf
          have c3 : 3 ≤ c ∧ c ≤ 8 := by simpa using hf
          have hk := zt_rk_c c3
          have hd5 : ∀ x W', (zt_st 6 W l).1 = x :: W' → x = 24 ∨ x = 25 ∨ x = 26 := fun x W' e => by
            have hx := hd6 x W' e
            rw [e, zt_br] at i6
            have x13 : x ≠ 13 := fun e => by
              rw [if_pos e] at i6
              omega
            have xc : ¬ (3 ≤ x ∧ x ≤ 8) := fun p => cc (h4.mpr ⟨x, i3 x (by rw [e]; exact List.mem_cons_self), p⟩)
            clear h4
            omega
          have es : zt_st (zt_rk c) W l = zt_st 6 W l := by
            rw [hk, zt_st_st (r := 5) (r' := 6) (by decide) W l]
            cases hW : zt_st 6 W l with
            | mk W6 l6 =>
              cases W6 with
              | nil => rfl
              | cons x W' =>
                have := zt_rk_d (hd5 x W' (by rw [hW]))
                exact zt_st_n (by omega)
          rw [es]
          refine ⟨i7, fun e => by omega, fun e => by omega, fun _ _ => ⟨⟨i1, ?_⟩, by rw [zt_op, if_neg (by omega)]; omega, fun hg => absurd hg cg, ?_, fun hg => absurd hg cg, ?_⟩⟩
          · cases hW : (zt_st 6 W l).1 with
            | nil => show c = 13 ∨ _; omega
            | cons x W' =>
              have hx := hd5 x W' hW
              show c = 13 ∨ _
              omega
          · have ec : zt_cm cmp c = true := by
              unfold zt_cm
              rw [if_neg (by omega), if_pos c3]
            rw [ec]
            exact ⟨fun _ => ⟨c, List.mem_cons_self, c3⟩, fun _ => rfl⟩
          · rw [i2, zt_nt, zt_na, if_neg (by omega), if_pos (by omega)]
            rfl
end
