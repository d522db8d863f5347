/-! the reference reads a question *-/
def zt_E (ν : zk_M) (b : Nat) (g : Bool) (f : Nat → Int) (len d : Nat) (o : List (Int × Int)) (t : zt_T) : Prop := zt_M ν b o ∧ ν 60 18 = (d : Int) ∧ ν 60 20 = (if g then 1 else 0) ∧ zt_R0 ν f len ∧ zt_R ν t
def zt_eo (E : List Nat) : Prop := E = [] ∨ E = [25] ∨ E = [24] ∨ E = [25, 24]
theorem zt_rp_op {E : List Nat} (hE : zt_eo E) : ∀ k, zt_op (List.replicate k 26 ++ E) = k ∧ zt_br (List.replicate k 26 ++ E) = 0 ∧ zt_ask (List.replicate k 26 ++ E) = true ∧ (∀ s D', List.replicate k 26 ++ E = s :: D' → zt_rk s < 5) ∧ (List.replicate k 26 ++ E).length = k + E.length
  | 0 => by
    rcases hE with rfl | rfl | rfl | rfl
    · exact ⟨rfl, rfl, rfl, fun s D' e => absurd e (by simp), rfl⟩
    · exact ⟨rfl, rfl, rfl, fun s D' e => by rw [← (List.cons.inj e).1]; decide, rfl⟩
    · exact ⟨rfl, rfl, rfl, fun s D' e => by rw [← (List.cons.inj e).1]; decide, rfl⟩
    · exact ⟨rfl, rfl, rfl, fun s D' e => by rw [← (List.cons.inj e).1]; decide, rfl⟩
  | k + 1 => by
    obtain ⟨h1, h2, h3, h4, h5⟩ := zt_rp_op hE k
    rw [List.replicate_succ, List.cons_append, zt_op, zt_br, h1, h2]
    exact ⟨rfl, rfl, rfl, fun s D' e => by rw [← (List.cons.inj e).1]; decide, by rw [List.length_cons, h5]; omega⟩
theorem zt_rp_st {E : List Nat} (hE : zt_eo E) : ∀ (k : Nat) (l : List (Int × Int)), (zt_st 4 (List.replicate k 26 ++ E) l).1 = E
  | 0, l => by
    rcases hE with rfl | rfl | rfl | rfl <;> rfl
  | k + 1, l => by
    rw [List.replicate_succ, List.cons_append, zt_st, if_pos (by decide)]
    exact zt_rp_st hE k _
section
variable {μ : zk_M} {BV : zk_M → Prop} {B : Int → zk_M → Prop} {f : Nat → Int} {len b d : Nat} {g cmp : Bool} {o : List (Int × Int)} {t : zt_T}
theorem sp_nextE (hb : zt_by f len) (h : zt_E μ b g f len d o t) (ht : zt_tf len t) (hB : ∀ ν, zt_g b μ ν → zt_E ν b g f len d o (zt_tok f len t.2.2.2) → BV ν) : zk_C 164 [.inr (.inr (.inl 60))] μ (zk_RV BV) := by
  obtain ⟨hM, h18, h20, hR0, hR⟩ := h
  exact sp_nextTok hb hR0 ht.2.1 hR.2.1 (fun ν z r => hB ν z.g ⟨hM.cg (z.2 12 (by decide)) (z.2 14 (by decide)) (z.1 63 (by decide)), by rw [z.2 18 (by decide)]; exact h18, by rw [z.2 20 (by decide)]; exact h20, zt_R0_q hR0 z, r⟩)
theorem sp_emitE {x1 x2 : Int} (hbb : b ≤ 2040) (h : zt_E μ b g f len d o t) (ho : o.length ≤ 301) (hB : ∀ ν, zt_g b μ ν → zt_E ν b g f len d (o ++ [(x1, x2)]) t → BV ν) : zk_C 170 [.inr (.inr (.inl 60)), .inl x1, .inl x2] μ (zk_RV BV) := by
  obtain ⟨hM, h18, h20, hR0, hR⟩ := h
  exact sp_emit hbb hM ho (fun ν z y e65 e64 M => hB ν z ⟨M, by rw [y 18 (by decide)]; exact h18, by rw [y 20 (by decide)]; exact h20, hR0.g z, hR.cg (fun i h1 h2 => y i (by omega))⟩)
theorem zt_E_18 {x : Int} {d' : Nat} (h : zt_E μ b g f len d o t) (hx : x = (d' : Int)) : zt_E (zk_set μ 60 18 x) b g f len d' o t := by
  obtain ⟨hM, h18, h20, hR0, hR⟩ := h
  have n : ∀ i : Int, i ≠ 18 → zk_set μ 60 18 x 60 i = μ 60 i := fun i hi => zk_set_n hi
  exact ⟨hM.cg (n 12 (by decide)) (n 14 (by decide)) (zk_set_o (by decide)), by rw [zk_set_s]; exact hx, by rw [n 20 (by decide)]; exact h20, hR0.g (zt_g_60 b μ (by omega) _), hR.cg (fun i h1 h2 => n i (by omega))⟩
theorem sp_sum {D : List Nat} {o0 l : List (Int × Int)} {μ0 : zk_M} {n : Nat} (hb : zt_by f len) (hbb : b ≤ 2040) (hD : ∀ s D', D = s :: D' → zt_rk s < 6) (hD0 : zt_br D = 0) (hz : zt_g b μ0 μ) (hE : zt_E μ b g f len (zt_op D) (o0 ++ l) t) (hI : zt_I g true D cmp l) (ht : zt_tf len t) (hl : o0.length + l.length + D.length ≤ t.2.2.1) (hf : len + 1 ≤ t.2.2.1 + n) (h26 : g = true → zt_ask D = true → t.1 ≠ 26) (hF : (zt_law (zt_tok f len) g n true D cmp l t).1 ≠ 0 → ∀ ν', zt_g b μ0 ν' → ν' 60 8 = ((zt_law (zt_tok f len) g n true D cmp l t).2.1 : Int) → B (zt_law (zt_tok f len) g n true D cmp l t).1 ν') (hT : ∀ (n' : Nat) (l' : List (Int × Int)) (t' : zt_T) (ν' : zk_M), zt_law (zt_tok f len) g n true D cmp l t = zt_law (zt_tok f len) g n' false D cmp l' t' → zt_g b μ0 ν' → zt_E ν' b g f len (zt_op D) (o0 ++ l') t' → zt_I g false D cmp l' → zt_tf len t' → o0.length + l'.length + D.length ≤ t'.2.2.1 → len + 1 ≤ t'.2.2.1 + n' → ¬ (9 ≤ t'.1 ∧ t'.1 ≤ 12) → t.2.2.1 ≤ t'.2.2.1 → B 0 ν') : zk_C 180 [.inr (.inr (.inl 60))] μ (zk_RI B) := by
  obtain ⟨hM, h18, h20, hR0, hR⟩ := hE
  have g1 : zt_g b μ (zk_set (zk_set μ 60 17 0) 60 19 0) := (zt_g_60 b μ (by omega) _).tr (zt_g_60 b _ (by omega) _)
  have n1 : ∀ i : Int, i ≠ 17 → i ≠ 19 → zk_set (zk_set μ 60 17 0) 60 19 0 60 i = μ 60 i := fun i h1 h2 => by rw [zk_set_n h2, zk_set_n h1]
  refine c_Mod_summed (sp_sumK hb hbb hD hD0 n true [] l t _ (hz.tr g1) ⟨⟨by rw [zk_set_n (by decide), zk_set_s]; rfl, fun i s hs => absurd hs (by simp)⟩, hM.cg (n1 12 (by decide) (by decide)) (n1 14 (by decide) (by decide)) (by rw [zk_set_o (by decide), zk_set_o (by decide)]), by rw [n1 18 (by decide) (by decide), h18]; exact (Int.zero_add _).symm, by rw [n1 20 (by decide) (by decide)]; exact h20, hR0.g g1, hR.cg (fun i h1 h2 => n1 i (by omega) (by omega))⟩ (zk_set_s _ _ _ _) (fun s hs => absurd hs (by simp)) (fun q => absurd q (by decide)) hI ht (by show o0.length + l.length + 0 + D.length ≤ _; omega) hf (fun _ => h26) hF (fun n' l' t' ν' e z S I tf h1 h2 h3 h4 => hT n' l' t' ν' e z ⟨S.2.1, by rw [S.2.2.1]; exact Int.zero_add _, S.2.2.2⟩ I tf h1 h2 h3 h4))
theorem sp_not105 {E : List Nat} {o0 : List (Int × Int)} {x1 : Nat} (hbb : b ≤ 2040) (hx : x1 ≤ 8) : ∀ (j : Nat) (la : List (Int × Int)) (ν : zk_M), j ≤ x1 → zt_E ν b g f len d (o0 ++ la) t → o0.length + la.length + j ≤ 302 → (∀ ν', zt_g b ν ν' → zt_E ν' b g f len d (o0 ++ (zt_st 4 (List.replicate j 26 ++ E) la).2) t → B 0 ν') → zt_eo E → zk_K 182 105 [.inr (.inr (.inl 60)), .inl (x1 : Int), .inr (.inr (.inr 0)), .inr (.inr (.inr 0)), .inl ((x1 : Int) - j)] [] ν (zk_RI B) := by
  intro j
  induction j with
  | zero =>
    intro la ν _ h _ hB hE
    refine t_Mod_asks_105 ⟨fun _ => hB ν (zt_g.rf _ _) ?_, fun q => by omega⟩
    have e : (zt_st 4 (List.replicate 0 26 ++ E) la).2 = la := by
      rcases hE with rfl | rfl | rfl | rfl <;> rfl
    rw [e]
    exact h
  | succ j ih =>
    intro la ν hj h hl hB hE
    refine t_Mod_asks_105 ⟨fun q => by omega, fun _ => sp_emitE hbb h (by rw [List.length_append]; omega) (fun ν1 z1 E1 => ⟨by omega, ?_⟩)⟩
    rw [show (x1 : Int) - ((j + 1 : Nat) : Int) + 1 = (x1 : Int) - j by omega]
    rw [List.append_assoc] at E1
    refine ih _ ν1 (by omega) E1 (by rw [List.length_append, List.length_singleton]; omega) (fun ν' z' E' => hB ν' (z1.tr z') ?_) hE
    rw [List.replicate_succ, List.cons_append, zt_st, if_pos (by decide)]
    exact E'
theorem sp_asksK {E : List Nat} {o0 : List (Int × Int)} {μ0 : zk_M} (hb : zt_by f len) (hbb : b ≤ 2040) (hE : zt_eo E) : ∀ (n k : Nat) (l : List (Int × Int)) (t : zt_T) (ν : zk_M), zt_g b μ0 ν → zt_E ν b true f len k (o0 ++ l) t → zt_I true true (List.replicate k 26 ++ E) false l → zt_tf len t → o0.length + l.length + (k + E.length) ≤ t.2.2.1 → len + 1 ≤ t.2.2.1 + n → ((zt_law (zt_tok f len) true n true (List.replicate k 26 ++ E) false l t).1 ≠ 0 → ∀ ν', zt_g b μ0 ν' → ν' 60 8 = ((zt_law (zt_tok f len) true n true (List.replicate k 26 ++ E) false l t).2.1 : Int) → B (zt_law (zt_tok f len) true n true (List.replicate k 26 ++ E) false l t).1 ν') → (∀ (n' : Nat) (W2 : List Nat) (l2 l3 : List (Int × Int)) (t' : zt_T) (ν' : zk_M), zt_law (zt_tok f len) true n true (List.replicate k 26 ++ E) false l t = zt_law (zt_tok f len) true n' false W2 true l2 t' → zt_g b μ0 ν' → zt_E ν' b true f len 0 (o0 ++ l3) t' → zt_I true false W2 true l2 → zt_st 4 W2 l2 = (E, l3) → zt_br W2 = 0 → zt_tf len t' → o0.length + l3.length + E.length ≤ t'.2.2.1 → len + 1 ≤ t'.2.2.1 + n' → ¬ (9 ≤ t'.1 ∧ t'.1 ≤ 12) → t.2.2.1 ≤ t'.2.2.1 → B 0 ν') → zk_K 182 2 [.inr (.inr (.inl 60)), .inl (k : Int), .inr (.inr (.inr 0)), .inr (.inr (.inr 0)), .inr (.inr (.inr 0))] [] ν (zk_RI B) := by
  have hlen := hb.1
  intro n
  induction n with
  | zero =>
    intro k l t ν _ _ _ ht _ hf
    have := ht.1
    omega
  | succ n ih =>
    intro k l t ν hz hS hI ht hl hf hF hT
    obtain ⟨o1, o2, o3, o4, o5⟩ := zt_rp_op hE k
    have htl := ht.1
    have hop := hI.2.1
    rw [o1] at hop
    refine t_Mod_asks_2 (sp_w3 (r := zt_pk (zt_ws.getD (26 - 16) [])) (by decide +kernel) (sp_isW hS.2.2.2.2 (by decide) rfl (fun e26 => ⟨fun q => absurd q (by decide), fun _ => ⟨fun n8 => ?_, fun e8 => ?_⟩⟩) (fun n26 => ⟨fun _ => ?_, fun q => absurd rfl q⟩)))
    · rw [hS.2.1] at n8 ⊢
      have h8 : ¬ 8 ≤ zt_op (List.replicate k 26 ++ E) := by
        rw [o1]
        omega
      have nx := zt_tok_a (f := f) ht (by omega)
      have le : zt_law (zt_tok f len) true (n + 1) true (List.replicate k 26 ++ E) false l t = zt_law (zt_tok f len) true n true (List.replicate (k + 1) 26 ++ E) false l (zt_tok f len t.2.2.2) := by
        rw [zt_law, if_neg (by omega), if_neg (by omega), if_pos (Or.inr (Or.inr ⟨e26, rfl, o3⟩)), if_neg h8, if_neg (by omega), e26, List.replicate_succ]
        rfl
      rw [le] at hF hT
      have I1 := zt_I_o (s := 26) hI (Or.inr (Or.inr ⟨rfl, rfl, o3⟩)) h8
      refine ⟨by omega, by omega, sp_nextE hb (zt_E_18 (d' := k + 1) hS (by omega)) ht (fun ν1 z1 E1 => ?_)⟩
      exact ih (k + 1) l _ ν1 (hz.tr ((zt_g_60 b ν (by omega) _).tr z1)) E1 (by rw [List.replicate_succ]; exact I1) nx.1 (by omega) (by omega) hF (fun n' W2 l2 l3 t' ν' e z S I s4 b2 tf h1 h2 h3 h4 => hT n' W2 l2 l3 t' ν' e z S I s4 b2 tf h1 h2 h3 (by omega))
    · have h8 : 8 ≤ zt_op (List.replicate k 26 ++ E) := by
        have := hS.2.1
        omega
      rw [zt_law, if_neg (by omega), if_neg (by omega), if_pos (Or.inr (Or.inr ⟨e26, rfl, o3⟩)), if_pos h8] at hF
      exact hF (show ¬ (3 : Int) = 0 by decide) ν hz hS.2.2.2.2.1
    · have hS' := hS
      rw [← o1] at hS'
      refine sp_sum (D := List.replicate k 26 ++ E) hb hbb (fun s D' e => by have := o4 s D' e; omega) o2 hz hS' hI ht (by omega) hf (fun _ _ => n26) (fun e ν' z' e8 => ⟨fun q => absurd q e, fun _ => hF e ν' z' e8⟩) (fun n1 l1 t1 ν1 le z1 E1 I1 tf1 b1 f1 nn1 m1 => ⟨fun _ => ?_, fun q => absurd rfl q⟩)
      rw [le] at hF hT
      have t1l := tf1.1
      obtain ⟨m, rfl⟩ : ∃ m, n1 = m + 1 := ⟨n1 - 1, by omega⟩
      refine sp_cmpOf E1.2.2.2.2 ?_
      by_cases hc : 3 ≤ t1.1 ∧ t1.1 ≤ 8
      · rw [if_pos hc]
        refine ⟨fun _ => ?_, fun q => by omega⟩
        have cf : zt_cf true (List.replicate k 26 ++ E) false t1.1 = true := by
          unfold zt_cf
          rw [if_neg nn1, o2, if_neg (by omega), if_neg (by decide)]
          exact decide_eq_true hc
        have rk5 : zt_rk t1.1 = 5 ∧ zt_o t1.1 = (t1.1 : Int) + 7 := by
          rcases (show t1.1 = 3 ∨ t1.1 = 4 ∨ t1.1 = 5 ∨ t1.1 = 6 ∨ t1.1 = 7 ∨ t1.1 = 8 by omega) with e | e | e | e | e | e <;> rw [e] <;> decide
        have st5 : zt_st (zt_rk t1.1) (List.replicate k 26 ++ E) l1 = (List.replicate k 26 ++ E, l1) := by
          rw [rk5.1]
          cases hW : List.replicate k 26 ++ E with
          | nil => rfl
          | cons s D' => exact zt_st_n (o4 s D' hW)
        have cm : zt_cm false t1.1 = true := by
          unfold zt_cm
          rw [if_neg (by omega), if_pos hc]
        have le2 : zt_law (zt_tok f len) true (m + 1) false (List.replicate k 26 ++ E) false l1 t1 = zt_law (zt_tok f len) true m true (t1.1 :: (List.replicate k 26 ++ E)) true l1 (zt_tok f len t1.2.2.2) := by
          rw [zt_law, if_neg (by rw [cf]; decide), if_neg (by omega), if_neg (by omega), st5, cm]
        rw [le2] at hF hT
        have I2 := (zt_sgn I1 cf).2.2.2 (by omega) (by omega)
        rw [st5, cm] at I2
        have nx := zt_tok_a (f := f) tf1 (by omega)
        have op2 : zt_op (t1.1 :: (List.replicate k 26 ++ E)) = zt_op (List.replicate k 26 ++ E) := by
          rw [zt_op, if_neg (by omega)]
          rfl
        have br2 : zt_br (t1.1 :: (List.replicate k 26 ++ E)) = 0 := by
          rw [zt_br, if_neg (by omega), o2]
        refine sp_nextE hb E1 tf1 (fun ν2 z2 E2 => ?_)
        rw [← op2] at E2
        refine sp_sum (D := t1.1 :: (List.replicate k 26 ++ E)) (n := m) hb hbb (fun s D' e => by rw [← (List.cons.inj e).1]; omega) br2 (z1.tr z2) E2 I2 nx.1 (by rw [List.length_cons]; omega) (by omega) (fun _ q => ?_) (fun e ν' z' e8 => ⟨fun q => absurd q e, fun _ => hF e ν' z' e8⟩) (fun n3 l2 t2 ν3 le3 z3 E3 I3 tf3 b3 f3 nn3 m3 => ⟨fun _ => ?_, fun q => absurd rfl q⟩)
        · have q : decide (t1.1 = 24 ∨ t1.1 = 25 ∨ t1.1 = 26) = true := q
          have := of_decide_eq_true q
          omega
        · rw [op2, o1] at E3
          rw [List.length_cons] at b3
          have t2l := tf3.1
          refine sp_emitE hbb E3 (by rw [List.length_append]; omega) (fun ν4 z4 E4 => ⟨by rw [E4.2.1]; omega, ?_⟩)
          rw [E4.2.1]
          have E5 := zt_E_18 (d' := 0) (x := (k : Int) - k) E4 (by omega)
          rw [List.append_assoc] at E5
          have go := sp_not105 (B := B) (E := E) (x1 := k) hbb (by omega) k (l2 ++ [((t1.1 : Int) + 7, 0)]) _ (Nat.le_refl _) E5 (by rw [List.length_append, List.length_singleton]; omega) (fun ν' z' E' => ?_) hE
          · rw [Int.sub_self] at go ⊢
            exact go
          · have s4 : zt_st 4 (t1.1 :: (List.replicate k 26 ++ E)) l2 = (E, (zt_st 4 (List.replicate k 26 ++ E) (l2 ++ [((t1.1 : Int) + 7, 0)])).2) := by
              rw [zt_st, if_pos (by omega), rk5.2]
              exact Prod.ext (zt_rp_st hE k _) rfl
            have ln := zt_st_ln 4 (t1.1 :: (List.replicate k 26 ++ E)) l2
            rw [s4, List.length_cons] at ln
            have ln : (zt_st 4 (List.replicate k 26 ++ E) (l2 ++ [((t1.1 : Int) + 7, 0)])).2.length + E.length = l2.length + ((List.replicate k 26 ++ E).length + 1) := ln
            exact hT n3 _ l2 _ t2 ν' le3 (z3.tr (z4.tr ((zt_g_60 b ν4 (by omega) _).tr z'))) E' I3 s4 br2 tf3 (by omega) f3 nn3 (by omega)
      · rw [if_neg hc]
        refine ⟨fun q => by omega, fun _ => ?_⟩
        rw [zt_law, if_pos] at hF
        · exact hF (show ¬ (1 : Int) = 0 by decide) ν1 z1 E1.2.2.2.2.1
        · unfold zt_cf
          rw [if_neg nn1, o2, if_neg (by omega), if_neg (by decide)]
          exact decide_eq_false hc
end
