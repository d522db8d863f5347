/-! a text on the class's side, as a whole; what a plain text keeps *-/
theorem n_Vos_text_14 {μ : zk_M} {Q : Int → zk_M → Prop} (h : Q (-1) μ) : zk_K 119 14 [.inr (.inr (.inl 1)), .inr (.inr (.inr 0))] [.inr (.inr (.inl 0))] μ (zk_RI Q) :=
  zk_t zk_Vos_text [(14, [true, false])] 6 42 rfl ⟨fun q => absurd rfl q, fun _ => h⟩
def zt_X0 : zt_X := ([], [], fun _ => none)
def zt_TX (f : Nat → Int) (len : Nat) : Int × Nat × zt_X := zt_text (zt_tok f len) 301 zt_X0 (zt_tok f len 0)
section
variable {μ : zk_M} {BV : zk_M → Prop} {B : Int → zk_M → Prop} {f : Nat → Int} {len k : Nat}
theorem sp_read (hb : zt_by f len) (hk : k = 26 ∨ k = 30 ∨ k = 34 ∨ k = 38) (hc : zt_C0 μ f len) (hF : (zt_TX f len).1 ≠ 0 → ∀ ν, zt_xf k μ ν → ν 44 0 = (zt_TX f len).1 → ν 44 1 = ((zt_TX f len).2.1 : Int) → BV ν) (hT : (zt_TX f len).1 = 0 → ∀ ν, zt_xf k μ ν → ν 44 0 = 0 → ν 44 1 = -1 → zt_XK ν k (zt_TX f len).2.2 → BV ν) : zk_C 42 [.inr (.inr (.inl 44)), .inr (.inr (.inl 42)), .inr (.inr (.inl k))] μ (zk_RV BV) := by
  refine c_Rea_read hk (c_Scr_clear hk (c_Tap_rewind ?_))
  have z0 : zq [44, k, 42] μ (zk_set (zk_set (zk_set (zk_set (zk_set (zk_set (zk_set (zk_set (zk_set (zk_set (zk_set μ 44 0 0) 44 1 (-1)) 44 2 0) 44 3 0) k 0 0) k 3 0) k 4 0) k 5 0) k 6 0) k 7 0) 42 5 0) := (((((((((((zq.rf _ _).set (by simp) _ _).set (by simp) _ _).set (by simp) _ _).set (by simp) _ _).set (by simp) _ _).set (by simp) _ _).set (by simp) _ _).set (by simp) _ _).set (by simp) _ _).set (by simp) _ _).set (by simp) _ _
  have a42 : ∀ i : Int, i ≠ 5 → (zk_set (zk_set (zk_set (zk_set (zk_set (zk_set (zk_set (zk_set (zk_set (zk_set (zk_set μ 44 0 0) 44 1 (-1)) 44 2 0) 44 3 0) k 0 0) k 3 0) k 4 0) k 5 0) k 6 0) k 7 0) 42 5 0) 42 i = μ 42 i := fun i hi => by rw [zk_set_n hi, zk_set_o (by omega), zk_set_o (by omega), zk_set_o (by omega), zk_set_o (by omega), zk_set_o (by omega), zk_set_o (by omega), zk_set_o (by omega), zk_set_o (by omega), zk_set_o (by omega), zk_set_o (by omega)]
  have a5 : (zk_set (zk_set (zk_set (zk_set (zk_set (zk_set (zk_set (zk_set (zk_set (zk_set (zk_set μ 44 0 0) 44 1 (-1)) 44 2 0) 44 3 0) k 0 0) k 3 0) k 4 0) k 5 0) k 6 0) k 7 0) 42 5 0) 42 5 = 0 := zk_set_s _ _ _ _
  have a44 : (zk_set (zk_set (zk_set (zk_set (zk_set (zk_set (zk_set (zk_set (zk_set (zk_set (zk_set μ 44 0 0) 44 1 (-1)) 44 2 0) 44 3 0) k 0 0) k 3 0) k 4 0) k 5 0) k 6 0) k 7 0) 42 5 0) 44 = (zk_set (zk_set (zk_set (zk_set μ 44 0 0) 44 1 (-1)) 44 2 0) 44 3 0) 44 := by rw [zk_set_o (by omega), zk_set_o (by omega), zk_set_o (by omega), zk_set_o (by omega), zk_set_o (by omega), zk_set_o (by omega), zk_set_o (by omega)]
  have b0 : (zk_set (zk_set (zk_set (zk_set μ 44 0 0) 44 1 (-1)) 44 2 0) 44 3 0) 44 0 = 0 := by rw [zk_set_n (by decide), zk_set_n (by decide), zk_set_n (by decide), zk_set_s]
  have b1 : (zk_set (zk_set (zk_set (zk_set μ 44 0 0) 44 1 (-1)) 44 2 0) 44 3 0) 44 1 = -1 := by rw [zk_set_n (by decide), zk_set_n (by decide), zk_set_s]
  have b2 : (zk_set (zk_set (zk_set (zk_set μ 44 0 0) 44 1 (-1)) 44 2 0) 44 3 0) 44 2 = 0 := by rw [zk_set_n (by decide), zk_set_s]
  have b3 : (zk_set (zk_set (zk_set (zk_set μ 44 0 0) 44 1 (-1)) 44 2 0) 44 3 0) 44 3 = 0 := zk_set_s _ _ _ _
  rw [← a44] at b0 b1 b2 b3
  have ak : ∀ i : Int, i = 0 ∨ i = 3 ∨ i = 4 ∨ i = 5 ∨ i = 6 ∨ i = 7 → (zk_set (zk_set (zk_set (zk_set (zk_set (zk_set (zk_set (zk_set (zk_set (zk_set (zk_set μ 44 0 0) 44 1 (-1)) 44 2 0) 44 3 0) k 0 0) k 3 0) k 4 0) k 5 0) k 6 0) k 7 0) 42 5 0) k i = 0 := fun i hi => by
    rw [zk_set_o (by omega)]
    rcases hi with rfl | rfl | rfl | rfl | rfl | rfl
    · rw [zk_set_n (by decide), zk_set_n (by decide), zk_set_n (by decide), zk_set_n (by decide), zk_set_n (by decide), zk_set_s]
    · rw [zk_set_n (by decide), zk_set_n (by decide), zk_set_n (by decide), zk_set_n (by decide), zk_set_s]
    · rw [zk_set_n (by decide), zk_set_n (by decide), zk_set_n (by decide), zk_set_s]
    · rw [zk_set_n (by decide), zk_set_n (by decide), zk_set_s]
    · rw [zk_set_n (by decide), zk_set_s]
    · rw [zk_set_s]
  clear a44
  generalize zk_set (zk_set (zk_set (zk_set (zk_set (zk_set (zk_set (zk_set (zk_set (zk_set (zk_set μ 44 0 0) 44 1 (-1)) 44 2 0) 44 3 0) k 0 0) k 3 0) k 4 0) k 5 0) k 6 0) k 7 0) 42 5 0 = μ1 at z0 a42 a5 b0 b1 b2 b3 ak ⊢
  have hlen := hb.1
  refine sp_advance hb (n := 0) ⟨by rw [a42 1 (by decide)]; exact hc.1, fun i hi => by rw [z0 43 (by simp; omega)]; exact hc.2 i hi⟩ (Nat.zero_le _) a5 (fun ν z c0 cc => ?_)
  have e44 : ν 44 = μ1 44 := z 44 (by simp)
  have ek : ν k = μ1 k := z k (by simp; omega)
  refine sp_textK hb hk (μ0 := μ) 301 zt_X0 (zt_tok f len 0) ν 0 (Nat.le_refl _) rfl ⟨(z0.up (by simp)).tr (z.up (by simp)), by rw [c0.1, hc.1]⟩ ⟨by rw [e44]; exact b0, by rw [e44]; exact b1, c0, cc⟩ (zt_tok_f (f := f) (Nat.zero_le _)).1 ⟨?_, fun j q hq => absurd hq (by simp [zt_X0]), ?_, fun j q hq => absurd hq (by simp [zt_X0]), ?_, ?_, ?_, ?_⟩ ⟨?_, ?_⟩ (Nat.zero_le _) (by omega) hF hT
  · rw [ek, ak 0 (by omega)]; rfl
  · rw [ek, ak 3 (by omega)]; rfl
  · rw [ek, ak 4 (by omega)]; rfl
  · rw [ek, ak 5 (by omega)]; rfl
  · rw [ek, ak 6 (by omega)]; rfl
  · rw [ek, ak 7 (by omega)]; rfl
  · rw [e44, b2]; simp [zt_X0]
  · rw [e44, b3]; simp [zt_X0]
theorem sp_textC {t : Nat} (hb : zt_by f len) (ht : t < 4) (hc : zt_C0 μ f len) (h2 : μ 2 1 = (t : Int)) (hF : (zt_TX f len).1 ≠ 0 → ∀ ν, zq [42, 44, 45, 26 + 4 * t, 27 + 4 * t, 28 + 4 * t] μ ν → ν 42 1 = 0 → ν 44 0 = (zt_TX f len).1 → ν 44 1 = ((zt_TX f len).2.1 : Int) → B (-1) ν) (hT : (zt_TX f len).1 = 0 → ∀ ν, zq [2, 42, 44, 45, 26 + 4 * t, 27 + 4 * t, 28 + 4 * t] μ ν → (∀ i : Int, i ≠ 1 → ν 2 i = μ 2 i) → ν 2 1 = (t : Int) + 1 → ν 42 1 = 0 → ν 44 0 = 0 → ν 44 1 = -1 → zt_XK ν (26 + 4 * t) (zt_TX f len).2.2 → B t ν) : zk_C 119 [.inr (.inr (.inl 1))] μ (zk_RI B) := by
  refine c_Vos_text (c_Law_scriptAt ⟨fun q => by omega, fun _ => ⟨fun q => by omega, fun _ => ⟨by omega, ?_⟩⟩⟩)
  rw [h2, zk_rho23 ht]
  refine t_Vos_text_14 (zk_26 ht) ⟨fun _ => sp_read hb (zk_26 ht) hc (fun e ν z e0 e1 => ⟨fun q => absurd (e0.symm.trans q) e, fun _ => ?_⟩) (fun e ν z e0 e1 hX => ⟨fun _ => ?_, fun q => absurd e0 q⟩), fun q => by omega⟩
  · have y : zq [42] ν (zk_set ν 42 1 0) := (zq.rf _ _).set (by simp) _ _
    exact hF e _ ((z.1.up (by simp; omega)).tr (y.up (by simp))) (zk_set_s _ _ _ _) (by rw [y 44 (by simp)]; exact e0) (by rw [y 44 (by simp)]; exact e1)
  · have v2 : ν 2 = μ 2 := z.1 2 (by simp; omega)
    rw [v2, h2]
    refine ⟨by omega, by omega, ?_⟩
    have y : zq [2, 42] ν (zk_set (zk_set ν 42 1 0) 2 1 ((t : Int) + 1)) := ((zq.rf _ _).set (by simp) _ _).set (by simp) _ _
    rw [show (t : Int) + 1 - 1 = t by omega]
    refine hT e _ ((z.1.up (by simp; omega)).tr (y.up (by simp))) (fun i hi => by rw [zk_set_n hi, zk_set_o (by decide), v2]) (zk_set_s _ _ _ _) (by rw [zk_set_o (by decide), zk_set_s]) (by rw [y 44 (by simp)]; exact e0) (by rw [y 44 (by simp)]; exact e1) ?_
    unfold zt_XK
    rw [y (26 + 4 * t) (by simp; omega), y (26 + 4 * t + 1) (by simp; omega), y (26 + 4 * t + 2) (by simp; omega)]
    exact hX
end
/-! what a plain text keeps *-/
def zt_cok (q : Nat × Int × Int × Int) : Prop := q.1 = 16 ∨ q.1 = 17 ∨ q.1 = 18 ∨ q.1 = 31 ∨ (q.1 = 19 ∧ 0 ≤ q.2.2.1 ∧ q.2.2.1 ≤ 5 ∧ 0 ≤ q.2.2.2 ∧ q.2.2.2 ≤ 5) ∨ q.1 = 20 ∨ q.1 = 21
def zt_gi (g : Bool) : Nat := if g then 17 else 16
def zt_XL (X : zt_X) (g : Bool) : Prop := match X.2.2 g with
  | none => ∀ q ∈ X.1, q.1 ≠ zt_gi g
  | some L => (∃ q, X.1[L.1]? = some q ∧ q.1 = zt_gi g) ∧ (∀ (i : Nat) q, i < L.1 → X.1[i]? = some q → q.1 ≠ zt_gi g) ∧ L.2.2 ≠ [] ∧ L.2.1 + L.2.2.length ≤ X.2.1.length ∧ (∀ (i : Nat) q, L.2.2[i]? = some q → X.2.1[L.2.1 + i]? = some q) ∧ zx_ty L.2.2 (0, 0) = some (if g then (1, 0) else (0, 1)) ∧ (g = false → ∀ q ∈ L.2.2, q.1 = 1 → q.2 < 4)
def zt_XI (X : zt_X) : Prop := X.1.length ≤ 24 ∧ (∀ q ∈ X.1, zt_cok q) ∧ ∀ g, zt_XL X g
section
variable {f : Nat → Int} {len : Nat} {g cmp : Bool} {W : List Nat} {l : List (Int × Int)}
theorem zt_law_ok : ∀ (n : Nat) (due : Bool) (W : List Nat) (cmp : Bool) (l : List (Int × Int)) (t : zt_T), zt_tf len t → zt_I g due W cmp l → (zt_law (zt_tok f len) g n due W cmp l t).1 = 0 → zt_tf len (zt_law (zt_tok f len) g n due W cmp l t).2.2.2 ∧ t.2.2.1 < (zt_law (zt_tok f len) g n due W cmp l t).2.2.2.2.2.1 ∧ (∀ a : Nat, a + l.length + W.length ≤ t.2.2.1 → a + (zt_law (zt_tok f len) g n due W cmp l t).2.2.1.length ≤ (zt_law (zt_tok f len) g n due W cmp l t).2.2.2.2.2.1) ∧ zx_ty (zt_law (zt_tok f len) g n due W cmp l t).2.2.1 (0, 0) = some (if g then (1, 0) else (0, 1)) ∧ (g = false → ∀ q ∈ (zt_law (zt_tok f len) g n due W cmp l t).2.2.1, q.1 = 1 → q.2 < 4) := by
  intro n
  induction n with
  | zero =>
    intro due W cmp l t ht hI h
    cases due <;> exact absurd h (show ¬ (9 : Int) = 0 by decide)
  | succ n ih =>
    intro due W cmp l t ht hI h
    have nx : t.1 ≠ 0 → zt_tf len (zt_tok f len t.2.2.2) ∧ t.2.2.1 < (zt_tok f len t.2.2.2).2.2.1 := fun n0 => zt_tok_a ht n0
    cases due with
    | true =>
      rw [zt_law] at h ⊢
      by_cases q2 : t.1 = 2
      · rw [if_pos q2] at h ⊢
        by_cases q3 : 9999 < t.2.1
        · rw [if_pos q3] at h
          exact absurd h (show ¬ (2 : Int) = 0 by decide)
        · rw [if_neg q3] at h ⊢
          have e := nx (by omega)
          have e2 := ih _ _ _ _ _ e.1 (zt_I_v hI (Or.inl ⟨rfl, (ht.2.2.2.2 q2).1, by show t.2.1 ≤ 9999; omega⟩)) h
          exact ⟨e2.1, by omega, fun a hl => e2.2.2.1 a (by rw [List.length_append, List.length_singleton]; omega), e2.2.2.2⟩
      · rw [if_neg q2] at h ⊢
        by_cases q3 : 27 ≤ t.1 ∧ t.1 ≤ 31
        · rw [if_pos q3] at h ⊢
          by_cases q4 : t.1 = 31 ∧ g = false
          · rw [if_pos q4] at h
            exact absurd h (show ¬ (5 : Int) = 0 by decide)
          · rw [if_neg q4] at h ⊢
            have e := nx (by omega)
            have e2 := ih _ _ _ _ _ e.1 (zt_I_v hI (Or.inr ⟨rfl, by show 0 ≤ (t.1 : Int) - 27; omega, by show (t.1 : Int) - 27 ≤ 4; omega, fun hg => by show (t.1 : Int) - 27 < 4; have : t.1 ≠ 31 := fun x => q4 ⟨x, hg⟩; omega⟩)) h
            exact ⟨e2.1, by omega, fun a hl => e2.2.2.1 a (by rw [List.length_append, List.length_singleton]; omega), e2.2.2.2⟩
        · rw [if_neg q3] at h ⊢
          by_cases q4 : t.1 = 13 ∨ t.1 = 10 ∨ (t.1 = 26 ∧ g = true ∧ zt_ask W = true)
          · rw [if_pos q4] at h ⊢
            by_cases q5 : 8 ≤ zt_op W
            · rw [if_pos q5] at h
              exact absurd h (show ¬ (3 : Int) = 0 by decide)
            · rw [if_neg q5] at h ⊢
              have e := nx (by omega)
              have e2 := ih _ _ _ _ _ e.1 (zt_I_o hI (by rcases q4 with q | q | q; exact Or.inl (by rw [if_neg (by omega)]; exact q); exact Or.inr (Or.inl (by rw [if_pos q])); exact Or.inr (Or.inr ⟨by rw [if_neg (by omega)]; exact q.1, q.2⟩)) q5) h
              exact ⟨e2.1, by omega, fun a hl => e2.2.2.1 a (by rw [List.length_cons]; omega), e2.2.2.2⟩
          · rw [if_neg q4] at h
            exact absurd h (show ¬ (1 : Int) = 0 by decide)
    | false =>
      rw [zt_law] at h ⊢
      by_cases q1 : zt_cf g W cmp t.1 = false
      · rw [if_pos q1] at h
        exact absurd h (show ¬ (1 : Int) = 0 by decide)
      · rw [if_neg q1] at h ⊢
        have cf : zt_cf g W cmp t.1 = true := by simpa using q1
        have n0 : t.1 ≠ 0 := fun q => by
          rw [q] at cf
          unfold zt_cf at cf
          simp at cf
        have e := nx n0
        obtain ⟨s1, s14, s15, so⟩ := zt_sgn hI cf
        by_cases q2 : t.1 = 14
        · rw [if_pos q2] at h ⊢
          obtain ⟨W', w1, w2⟩ := s14 q2
          have tl : (zt_st (zt_rk t.1) W l).1.tail = W' := by rw [w1]; rfl
          have ll : (zt_st (zt_rk t.1) W l).1.length = W'.length + 1 := by rw [w1]; rfl
          rw [tl] at h ⊢
          have e2 := ih _ _ _ _ _ e.1 w2 h
          exact ⟨e2.1, by omega, fun a hl => e2.2.2.1 a (by omega), e2.2.2.2⟩
        · rw [if_neg q2] at h ⊢
          by_cases q3 : t.1 = 15
          · rw [if_pos q3] at h ⊢
            have f15 := s15 q3
            exact ⟨e.1, e.2, fun a hl => by show a + (zt_st (zt_rk t.1) W l).2.length ≤ (zt_tok f len t.2.2.2).2.2.1; omega, f15.2⟩
          · rw [if_neg q3] at h ⊢
            have e2 := ih _ _ _ _ _ e.1 (so q2 q3) h
            exact ⟨e2.1, by omega, fun a hl => e2.2.2.1 a (by rw [List.length_cons]; omega), e2.2.2.2⟩
theorem zt_num_r {lo hi : Int} {t : zt_T} (h : ¬ zt_num lo hi t ≠ 0) : lo ≤ t.2.1 ∧ t.2.1 ≤ hi := by
  have n := zt_num_2 h
  unfold zt_num at h
  by_cases q : t.1 ≠ 2
  · rw [if_pos q] at h
    exact absurd (by decide) h
  · rw [if_neg q] at h
    by_cases q2 : t.2.1 < lo ∨ hi < t.2.1
    · rw [if_pos q2] at h
      exact absurd (by decide) h
    · omega
theorem zt_semi_q {tk : Nat → zt_T} {a b c : Int} {t : zt_T} (h : (zt_semi tk a b c t).1 = 0) : (zt_semi tk a b c t).2.2.1 = (a, b, c) := by
  unfold zt_semi at *
  by_cases q : t.1 ≠ 15
  · rw [if_pos q] at h
    exact absurd h (show ¬ (1 : Int) = 0 by decide)
  · rw [if_neg q]
theorem zt_deed_c {tk : Nat → zt_T} {t : zt_T} (h : (zt_deed tk 19 t).1 = 0) : 0 ≤ (zt_deed tk 19 t).2.2.1.2.1 ∧ (zt_deed tk 19 t).2.2.1.2.1 ≤ 5 ∧ 0 ≤ (zt_deed tk 19 t).2.2.1.2.2 ∧ (zt_deed tk 19 t).2.2.1.2.2 ≤ 5 := by
  unfold zt_deed at *
  rw [if_neg (by decide), if_neg (by decide)] at h ⊢
  by_cases q : zt_num 0 5 t ≠ 0
  · rw [if_pos q] at h
    exact absurd h q
  rw [if_neg q] at h ⊢
  generalize tk t.2.2.2 = t2 at h ⊢
  unfold zt_deed2 at *
  by_cases q2 : t2.1 ≠ 22
  · rw [if_pos q2] at h
    exact absurd h (show ¬ (1 : Int) = 0 by decide)
  rw [if_neg q2] at h ⊢
  generalize tk t2.2.2.2 = t3 at h ⊢
  unfold zt_deed3 at *
  by_cases q3 : zt_num 0 5 t3 ≠ 0
  · rw [if_pos q3] at h
    exact absurd h q3
  rw [if_neg q3, if_pos rfl] at h ⊢
  generalize tk t3.2.2.2 = t4 at h ⊢
  unfold zt_deed4 at *
  by_cases q4 : t4.1 ≠ 23
  · rw [if_pos q4] at h
    exact absurd h (show ¬ (1 : Int) = 0 by decide)
  rw [if_neg q4] at h ⊢
  generalize tk t4.2.2.2 = t5 at h ⊢
  unfold zt_deed5 at *
  by_cases q5 : zt_num 0 5 t5 ≠ 0
  · rw [if_pos q5] at h
    exact absurd h q5
  rw [if_neg q5] at h ⊢
  rw [zt_semi_q h]
  have r3 := zt_num_r q3
  have r5 := zt_num_r q5
  exact ⟨r3.1, r3.2, r5.1, r5.2⟩
theorem zt_XL_up {X X' : zt_X} {x : Nat × Int × Int × Int} {l : List (Int × Int)} (e1 : X'.1 = X.1 ++ [x]) (e2 : X'.2.1 = X.2.1 ++ l) (e3 : X'.2.2 g = X.2.2 g) (hx : x.1 ≠ zt_gi g) (h : zt_XL X g) : zt_XL X' g := by
  unfold zt_XL at *
  rw [e3, e1, e2]
  cases e : X.2.2 g with
  | none =>
    rw [e] at h
    intro q hq
    rcases List.mem_append.1 hq with hq | hq
    · exact h q hq
    · have : q = x := by simpa using hq
      rw [this]
      exact hx
  | some L =>
    rw [e] at h
    obtain ⟨⟨q, h1, h1'⟩, h2, h3, h4, h5, h6⟩ := h
    refine ⟨⟨q, ?_, h1'⟩, fun i q' hi hq => ?_, h3, ?_, fun i q' hq => ?_, h6⟩
    · have : L.1 < X.1.length := (List.getElem?_eq_some_iff.1 h1).1
      show (X.1 ++ [x])[L.1]? = some q
      rw [List.getElem?_append_left this]
      exact h1
    · rcases zt_snoc hq with ⟨_, w⟩ | ⟨_, w⟩
      · exact h2 i q' hi w
      · rw [w]
        exact hx
    · show L.2.1 + L.2.2.length ≤ (X.2.1 ++ l).length
      rw [List.length_append]
      omega
    · have w := h5 i q' hq
      have : L.2.1 + i < X.2.1.length := (List.getElem?_eq_some_iff.1 w).1
      show (X.2.1 ++ l)[L.2.1 + i]? = some q'
      rw [List.getElem?_append_left this]
      exact w
theorem zt_XI_d {X : zt_X} {w : Nat} {q : Int × Int × Int} (h : zt_XI X) (hn : X.1.length < 24) (hw : w ≠ 16 ∧ w ≠ 17) (hc : zt_cok (w, q)) : zt_XI (zt_xd X w q) := by
  obtain ⟨h1, h2, h3⟩ := h
  refine ⟨?_, fun p hp => ?_, fun g => ?_⟩
  · show (X.1 ++ [_]).length ≤ 24
    rw [List.length_append, List.length_singleton]
    omega
  · rcases List.mem_append.1 hp with hp | hp
    · exact h2 p hp
    · have : p = (w, q) := by simpa using hp
      rw [this]
      exact hc
  · refine zt_XL_up (X := X) (x := (w, q)) (l := []) rfl (by rw [List.append_nil]; rfl) rfl ?_ (h3 g)
    cases g
    · exact hw.1
    · exact hw.2
theorem zt_XI_l {X : zt_X} {w : Nat} {l : List (Int × Int)} (h : zt_XI X) (hn : X.1.length < 24) (hw : w = 16 ∨ w = 17) (hg : g = decide (w = 17)) (h0 : X.2.2 g = none) (hl : zx_ty l (0, 0) = some (if g then (1, 0) else (0, 1))) (h4 : g = false → ∀ q ∈ l, q.1 = 1 → q.2 < 4) : zt_XI (zt_xl X w l) := by
  obtain ⟨h1, h2, h3⟩ := h
  have wg : w = zt_gi g := by
    rcases hw with rfl | rfl <;> rw [hg] <;> rfl
  refine ⟨?_, fun p hp => ?_, fun g' => ?_⟩
  · show (X.1 ++ [_]).length ≤ 24
    rw [List.length_append, List.length_singleton]
    omega
  · rcases List.mem_append.1 hp with hp | hp
    · exact h2 p hp
    · have : p = (w, -1, -1, -1) := by simpa using hp
      rw [this]
      exact hw.elim Or.inl (fun q => Or.inr (Or.inl q))
  · by_cases e : g' = g
    · subst e
      have e3 : (zt_xl X w l).2.2 g' = some (X.1.length, X.2.1.length, l) := by
        show (if g' = decide (w = 17) then _ else _) = _
        rw [if_pos hg]
      have h3 := h3 g'
      unfold zt_XL at *
      rw [h0] at h3
      rw [e3]
      refine ⟨⟨(w, -1, -1, -1), ?_, wg⟩, fun i q hi hq => ?_, ?_, ?_, fun i q hq => ?_, hl, h4⟩
      · show (X.1 ++ [_])[X.1.length]? = _
        rw [List.getElem?_append_right (Nat.le_refl _), Nat.sub_self]
        rfl
      · rcases zt_snoc hq with ⟨_, w⟩ | ⟨w, _⟩
        · exact h3 q (List.mem_of_getElem? w)
        · exact absurd hi (by show ¬ i < X.1.length; omega)
      · show l ≠ []
        rintro rfl
        cases g' <;> exact absurd hl (by decide)
      · show X.2.1.length + l.length ≤ (X.2.1 ++ l).length
        rw [List.length_append]
        exact Nat.le_refl _
      · show (X.2.1 ++ l)[X.2.1.length + i]? = some q
        rw [List.getElem?_append_right (by omega), show X.2.1.length + i - X.2.1.length = i by omega]
        exact hq
    · refine zt_XL_up (X := X) (x := (w, -1, -1, -1)) (l := l) rfl rfl ?_ ?_ (h3 g')
      · show (if g' = decide (w = 17) then _ else _) = _
        rw [if_neg (by rw [← hg]; exact e)]
      · show w ≠ zt_gi g'
        rw [wg]
        clear h0 hl h4 hg wg h3
        cases g <;> cases g' <;> first | exact absurd rfl e | decide
theorem zt_ck_0 {X : zt_X} {w : Nat} (e : ¬ zt_ck X w ≠ 0) : (w = 31 ∨ (16 ≤ w ∧ w ≤ 21)) ∧ X.1.length < 24 ∧ (w = 16 → X.2.2 false = none) ∧ (w = 17 → X.2.2 true = none) := by
  unfold zt_ck at e
  by_cases c : w = 31 ∨ (16 ≤ w ∧ w ≤ 21)
  · rw [if_neg (fun q => q c)] at e
    by_cases d : (w = 16 ∧ (X.2.2 false).isSome = true) ∨ (w = 17 ∧ (X.2.2 true).isSome = true)
    · rw [if_pos d] at e
      exact absurd (by decide) e
    · rw [if_neg d] at e
      by_cases c2 : 24 ≤ X.1.length
      · rw [if_pos c2] at e
        exact absurd (by decide) e
      · refine ⟨c, by omega, fun h => ?_, fun h => ?_⟩
        · cases q : X.2.2 false with
          | none => rfl
          | some L => exact absurd (Or.inl ⟨h, by rw [q]; rfl⟩) d
        · cases q : X.2.2 true with
          | none => rfl
          | some L => exact absurd (Or.inr ⟨h, by rw [q]; rfl⟩) d
  · rw [if_pos c] at e
    exact absurd (by decide) e
theorem zt_text_ok : ∀ (n : Nat) (X : zt_X) (t : zt_T), zt_tf len t → zt_XI X → X.2.1.length ≤ t.2.2.1 → (zt_text (zt_tok f len) n X t).1 = 0 → zt_XI (zt_text (zt_tok f len) n X t).2.2 ∧ (zt_text (zt_tok f len) n X t).2.2.2.1.length ≤ len := by
  intro n
  induction n with
  | zero => exact fun X t _ _ _ h => absurd h (show ¬ (9 : Int) = 0 by decide)
  | succ n ih =>
    intro X t ht hX hl h
    rw [zt_text] at h ⊢
    by_cases q0 : t.1 = 0
    · rw [if_pos q0]
      exact ⟨hX, Nat.le_trans hl ht.1⟩
    rw [if_neg q0] at h ⊢
    by_cases q1 : zt_ck X t.1 ≠ 0
    · rw [if_pos q1] at h
      exact absurd h q1
    rw [if_neg q1] at h ⊢
    obtain ⟨c1, c2, c3, c4⟩ := zt_ck_0 q1
    have e := zt_tok_a (f := f) ht q0
    by_cases q2 : t.1 = 16 ∨ t.1 = 17
    · rw [if_pos q2] at h ⊢
      by_cases q3 : (zt_law (zt_tok f len) (decide (t.1 = 17)) 301 true [] false [] (zt_tok f len t.2.2.2)).1 ≠ 0
      · rw [if_pos q3] at h
        exact absurd h q3
      rw [if_neg q3] at h ⊢
      have k := zt_law_ok (g := decide (t.1 = 17)) 301 true [] false [] (zt_tok f len t.2.2.2) e.1 (zt_I_0 _) (Decidable.not_not.1 q3)
      refine ih _ _ k.1 (zt_XI_l hX c2 q2 rfl ?_ k.2.2.2.1 k.2.2.2.2) ?_ h
      · rcases q2 with q | q
        · rw [q]
          exact c3 q
        · rw [q]
          exact c4 q
      · show (X.2.1 ++ _).length ≤ _
        rw [List.length_append]
        exact k.2.2.1 X.2.1.length (by show X.2.1.length + 0 + 0 ≤ _; omega)
    · rw [if_neg q2] at h ⊢
      by_cases q3 : (zt_deed (zt_tok f len) t.1 (zt_tok f len t.2.2.2)).1 ≠ 0
      · rw [if_pos q3] at h
        exact absurd h q3
      rw [if_neg q3] at h ⊢
      have k := zt_deed_t e.1 (Decidable.not_not.1 q3)
      refine ih _ _ k.1 (zt_XI_d hX c2 (by omega) ?_) (by show X.2.1.length ≤ _; omega) h
      unfold zt_cok
      by_cases q4 : t.1 = 19
      · have kc := zt_deed_c (tk := zt_tok f len) (t := zt_tok f len t.2.2.2) (by rw [← q4]; exact Decidable.not_not.1 q3)
        rw [q4]
        exact Or.inr (Or.inr (Or.inr (Or.inr (Or.inl ⟨rfl, kc⟩))))
      · have : t.1 = 18 ∨ t.1 = 31 ∨ t.1 = 20 ∨ t.1 = 21 := by omega
        rcases this with q | q | q | q
        · exact Or.inr (Or.inr (Or.inl q))
        · exact Or.inr (Or.inr (Or.inr (Or.inl q)))
        · exact Or.inr (Or.inr (Or.inr (Or.inr (Or.inr (Or.inl q)))))
        · exact Or.inr (Or.inr (Or.inr (Or.inr (Or.inr (Or.inr q)))))
theorem zt_TX_ok (h : (zt_TX f len).1 = 0) : zt_XI (zt_TX f len).2.2 ∧ (zt_TX f len).2.2.2.1.length ≤ len :=
  zt_text_ok 301 zt_X0 (zt_tok f len 0) (zt_tok_f (f := f) (Nat.zero_le _)).1 ⟨Nat.zero_le _, fun q hq => absurd hq (by simp [zt_X0]), fun g => by
    unfold zt_XL
    exact fun q hq => absurd hq (by simp [zt_X0])⟩ (Nat.zero_le _) h
end
