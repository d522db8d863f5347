/-! texts: plain *-/
theorem zt_cd_r (wl : List Int) : 1 ≤ zt_cd wl zt_ws 16 1 ∧ zt_cd wl zt_ws 16 1 ≤ 31 ∧ zt_cd wl zt_ws 16 1 ≠ 2 := by
  rcases zt_cd_p wl zt_ws 16 1 with ⟨i, h1, _, h3⟩ | ⟨_, h⟩
  · have : i < 16 := h1
    omega
  · omega
theorem zt_sg_r (c : Int) : 1 ≤ zt_sg c ∧ zt_sg c ≤ 15 := by
  unfold zt_sg
  repeat' split
  all_goals decide
theorem zt_tok_r {f : Nat → Int} {len n : Nat} (hn : n ≤ len) : n ≤ (zt_tok f len n).2.2.1 ∧ (zt_tok f len n).2.2.1 ≤ len ∧ (zt_tok f len n).2.2.2 ≤ len ∧ (zt_tok f len n).1 ≤ 31 ∧ ((zt_tok f len n).1 ≠ 0 → (zt_tok f len n).2.2.1 < (zt_tok f len n).2.2.2) ∧ ((zt_tok f len n).1 = 2 → 0 ≤ (zt_tok f len n).2.1 ∧ (zt_tok f len n).2.1 ≤ 10000) := by
  unfold zt_tok
  have hs := zt_sk_r (p := fun i => zt_bl (f i)) (len - n) n
  generalize zt_sk (fun i => zt_bl (f i)) (len - n) n = p at hs
  unfold zt_tp
  split
  · exact ⟨hs.1, by show p ≤ len; omega, by show p ≤ len; omega, Nat.zero_le _, fun h => absurd rfl h, fun h => absurd (show (0 : Nat) = 2 from h) (by decide)⟩
  · rename_i hp
    split
    · rename_i hl
      have e := zt_sk_r (p := fun i => zt_le (f i)) (len - p) p
      have cr := zt_cd_r (zt_wl f p (zt_sk (fun i => zt_le (f i)) (len - p) p))
      have e1 : p < zt_sk (fun i => zt_le (f i)) (len - p) p := by
        by_cases q : zt_sk (fun i => zt_le (f i)) (len - p) p = p
        · have := e.2.2.2 (by omega)
          rw [q, hl] at this
          exact absurd this (by decide)
        · omega
      exact ⟨hs.1, by show p ≤ len; omega, by show zt_sk (fun i => zt_le (f i)) (len - p) p ≤ len; omega, cr.2.1, fun _ => e1, fun h => absurd h cr.2.2⟩
    · split
      · rename_i hl hd
        have e := zt_sk_r (p := fun i => zt_di (f i)) (len - p) p
        have e1 : p < zt_sk (fun i => zt_di (f i)) (len - p) p := by
          by_cases q : zt_sk (fun i => zt_di (f i)) (len - p) p = p
          · have := e.2.2.2 (by omega)
            rw [q, hd] at this
            exact absurd this (by decide)
          · omega
        exact ⟨hs.1, by show p ≤ len; omega, by show zt_sk (fun i => zt_di (f i)) (len - p) p ≤ len; omega, (by decide : 2 ≤ 31), fun _ => e1, fun _ => zt_nv_r _ (fun i hi => e.2.2.1 (p + i) (by omega) (by omega))⟩
      · have sr := zt_sg_r (f p)
        have s2 := zt_sg_2 (f p)
        split
        · rename_i hc
          refine ⟨hs.1, by show p ≤ len; omega, by show p + 2 ≤ len; omega, ?_, fun _ => by show p < p + 2; omega, fun h => ?_⟩
          · show (if zt_sg (f p) = 3 then 4 else 6) ≤ 31
            split <;> decide
          · have h : (if zt_sg (f p) = 3 then 4 else 6) = 2 := h
            split at h <;> omega
        · exact ⟨hs.1, by show p ≤ len; omega, by show p + 1 ≤ len; omega, by show zt_sg (f p) ≤ 31; omega, fun _ => by show p < p + 1; omega, fun h => absurd h s2⟩
def zt_rk (s : Nat) : Nat := if s = 13 then 0 else if s = 24 then 2 else if s = 25 then 3 else if s = 26 then 4 else if s = 9 ∨ s = 10 then 6 else if s = 11 ∨ s = 12 then 7 else if s = 32 then 8 else if 3 ≤ s ∧ s ≤ 8 then 5 else 1
def zt_o (s : Nat) : Int := if s = 9 then 3 else if s = 10 then 4 else if s = 11 then 5 else if s = 12 then 6 else if s = 32 then 2 else if s = 26 then 20 else if s = 25 then 21 else if s = 24 then 22 else (s : Int) + 7
def zt_op : List Nat → Nat
  | [] => 0
  | s :: W => zt_op W + (if s = 13 ∨ s = 26 ∨ s = 32 then 1 else 0)
def zt_br : List Nat → Nat
  | [] => 0
  | s :: W => zt_br W + (if s = 13 then 1 else 0)
def zt_ask (W : List Nat) : Bool := match W with
  | [] => true
  | s :: _ => decide (s = 24 ∨ s = 25 ∨ s = 26)
def zt_cf (g : Bool) (W : List Nat) (cmp : Bool) (c : Nat) : Bool := if 9 ≤ c ∧ c ≤ 12 then true else if 0 < zt_br W then decide (c = 14) else if g = false then decide (c = 15) else if cmp then decide (c = 24 ∨ c = 25 ∨ c = 15) else decide (3 ≤ c ∧ c ≤ 8)
def zt_st (r : Nat) : List Nat → List (Int × Int) → List Nat × List (Int × Int)
  | [], l => ([], l)
  | s :: W, l => if r ≤ zt_rk s then zt_st r W (l ++ [(zt_o s, 0)]) else (s :: W, l)
def zt_cm (cmp : Bool) (c : Nat) : Bool := if c = 24 ∨ c = 25 then false else if 3 ≤ c ∧ c ≤ 8 then true else cmp
abbrev zt_Rs := Int × Nat × List (Int × Int) × zt_T
def zt_bad (k : Int) (t : zt_T) : zt_Rs := (k, t.2.2.1, [], (0, 0, 0, 0))
def zt_law (tk : Nat → zt_T) (g : Bool) : Nat → Bool → List Nat → Bool → List (Int × Int) → zt_T → zt_Rs
  | 0, _, _, _, _, t => zt_bad 9 t
  | n + 1, true, W, cmp, l, t =>
    if t.1 = 2 then (if 9999 < t.2.1 then zt_bad 2 t else zt_law tk g n false W cmp (l ++ [(0, t.2.1)]) (tk t.2.2.2))
    else if 27 ≤ t.1 ∧ t.1 ≤ 31 then (if t.1 = 31 ∧ g = false then zt_bad 5 t else zt_law tk g n false W cmp (l ++ [(1, (t.1 : Int) - 27)]) (tk t.2.2.2))
    else if t.1 = 13 ∨ t.1 = 10 ∨ (t.1 = 26 ∧ g = true ∧ zt_ask W = true) then (if 8 ≤ zt_op W then zt_bad 3 t else zt_law tk g n true ((if t.1 = 10 then 32 else t.1) :: W) cmp l (tk t.2.2.2))
    else zt_bad 1 t
  | n + 1, false, W, cmp, l, t =>
    if zt_cf g W cmp t.1 = false then zt_bad 1 t
    else if t.1 = 14 then zt_law tk g n false (zt_st (zt_rk t.1) W l).1.tail cmp (zt_st (zt_rk t.1) W l).2 (tk t.2.2.2)
    else if t.1 = 15 then (0, 0, (zt_st (zt_rk t.1) W l).2, tk t.2.2.2)
    else zt_law tk g n true (t.1 :: (zt_st (zt_rk t.1) W l).1) (zt_cm cmp t.1) (zt_st (zt_rk t.1) W l).2 (tk t.2.2.2)
/-- what may stand on what -/
def zt_adj (s : Nat) (W : List Nat) : Prop := match W with
  | [] => s = 13 ∨ s = 32 ∨ s = 24 ∨ s = 25 ∨ s = 26 ∨ (3 ≤ s ∧ s ≤ 12)
  | x :: _ => s = 13 ∨ s = 32 ∨ (9 ≤ s ∧ s ≤ 12 ∧ zt_rk x < zt_rk s) ∨ (((3 ≤ s ∧ s ≤ 8) ∨ s = 26) ∧ (x = 24 ∨ x = 25 ∨ x = 26)) ∨ (s = 25 ∧ x = 24)
def zt_wok : List Nat → Prop
  | [] => True
  | s :: W => zt_wok W ∧ zt_adj s W
def zt_rs (s : Nat) : Nat := if s = 24 then 1 else if s = 25 then 2 else if s = 26 then 2 else if s = 13 ∨ s = 32 then 3 else if 3 ≤ s ∧ s ≤ 8 then 3 else if s = 9 ∨ s = 10 then 4 else 5
def zt_rr (W : List Nat) : Nat := match W with
  | [] => 0
  | s :: _ => zt_rs s
theorem zt_rs_5 (x : Nat) : 1 ≤ zt_rs x ∧ zt_rs x ≤ 5 := by
  unfold zt_rs
  repeat' split
  all_goals decide
theorem zt_rs_k {x : Nat} (h : x = 13 ∨ x = 32 ∨ x = 24 ∨ x = 25 ∨ x = 26 ∨ (3 ≤ x ∧ x ≤ 12)) : (zt_rk x < 6 → zt_rs x ≤ 3) ∧ (zt_rk x < 7 → zt_rs x ≤ 4) := by
  rcases h with rfl | rfl | rfl | rfl | rfl | h
  · decide
  · decide
  · decide
  · decide
  · decide
  · rcases (show x = 3 ∨ x = 4 ∨ x = 5 ∨ x = 6 ∨ x = 7 ∨ x = 8 ∨ x = 9 ∨ x = 10 ∨ x = 11 ∨ x = 12 by omega) with rfl | rfl | rfl | rfl | rfl | rfl | rfl | rfl | rfl | rfl <;> decide
theorem zt_rk_b {s : Nat} (h : 9 ≤ s ∧ s ≤ 12) : (zt_rk s = 6 ∧ zt_rs s = 4) ∨ (zt_rk s = 7 ∧ zt_rs s = 5) := by
  rcases (show s = 9 ∨ s = 10 ∨ s = 11 ∨ s = 12 by omega) with rfl | rfl | rfl | rfl <;> decide
theorem zt_adj_v {s : Nat} {W : List Nat} (h : zt_adj s W) : s = 13 ∨ s = 32 ∨ s = 24 ∨ s = 25 ∨ s = 26 ∨ (3 ≤ s ∧ s ≤ 12) := by
  unfold zt_adj at h
  split at h <;> omega
theorem zt_rs_c {s : Nat} (h : 3 ≤ s ∧ s ≤ 8) : zt_rs s = 3 := by
  rcases (show s = 3 ∨ s = 4 ∨ s = 5 ∨ s = 6 ∨ s = 7 ∨ s = 8 by omega) with rfl | rfl | rfl | rfl | rfl | rfl <;> decide
theorem zt_wok_len : ∀ W, zt_wok W → W.length ≤ 3 * zt_op W + zt_rr W
  | [], _ => Nat.le_refl 0
  | [s], h => by
    have := zt_rs_5 s
    show 1 ≤ 3 * zt_op [s] + zt_rs s
    omega
  | s :: x :: W, h => by
    have ih := zt_wok_len (x :: W) h.1
    have ha := h.2
    have hx := zt_adj_v h.1.2
    have hk := zt_rs_k hx
    have h5 := zt_rs_5 x
    unfold zt_adj at ha
    have ih' : (x :: W).length ≤ 3 * zt_op (x :: W) + zt_rs x := ih
    show (x :: W).length + 1 ≤ 3 * (zt_op (x :: W) + (if s = 13 ∨ s = 26 ∨ s = 32 then 1 else 0)) + zt_rs s
    generalize (x :: W).length = L at *
    generalize zt_op (x :: W) = O at *
    have hs5 := zt_rs_5 s
    rcases ha with q | q | ⟨q1, q2, q3⟩ | ⟨q1, q2⟩ | ⟨q1, q2⟩
    · subst q
      have e1 : zt_rs 13 = 3 := by decide
      rw [if_pos (by omega)]
      omega
    · subst q
      have e1 : zt_rs 32 = 3 := by decide
      rw [if_pos (by omega)]
      omega
    · rw [if_neg (by omega)]
      rcases zt_rk_b ⟨q1, q2⟩ with ⟨a, b⟩ | ⟨a, b⟩
      · have := hk.1 (by omega)
        omega
      · have := hk.2 (by omega)
        omega
    · have x2 : zt_rs x ≤ 2 := by
        rcases q2 with rfl | rfl | rfl <;> decide
      rcases q1 with q1 | q1
      · have := zt_rs_c q1
        rw [if_neg (by omega)]
        omega
      · subst q1
        rw [if_pos (by omega)]
        omega
    · subst q1 q2
      have e1 : zt_rs 24 = 1 := by decide
      have e2 : zt_rs 25 = 2 := by decide
      rw [if_neg (by decide)]
      omega
