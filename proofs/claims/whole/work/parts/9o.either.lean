/-! the reference reads a goes law *-/
def zt_ee (a c : Bool) : List Nat := (if a then [25] else []) ++ (if c then [24] else [])
def zt_e3 (a : Bool) (l : List (Int × Int)) : List (Int × Int) := if a then l ++ [(21, 0)] else l
def zt_e2 (c : Bool) (l : List (Int × Int)) : List (Int × Int) := if c then l ++ [(22, 0)] else l
theorem zt_ee_f (a c : Bool) (l : List (Int × Int)) : zt_eo (zt_ee a c) ∧ zt_st 3 (zt_ee a c) l = (zt_ee false c, zt_e3 a l) ∧ zt_st 2 (zt_ee a c) l = ([], zt_e2 c (zt_e3 a l)) ∧ zt_st 1 (zt_ee a c) l = ([], zt_e2 c (zt_e3 a l)) ∧ zt_op (zt_ee a c) = 0 ∧ (zt_ee a c).length = (if a then 1 else 0) + (if c then 1 else 0) := by
  cases a <;> cases c
  · exact ⟨Or.inl rfl, rfl, rfl, rfl, rfl, rfl⟩
  · exact ⟨Or.inr (Or.inr (Or.inl rfl)), rfl, rfl, rfl, rfl, rfl⟩
  · exact ⟨Or.inr (Or.inl rfl), rfl, rfl, rfl, rfl, rfl⟩
  · exact ⟨Or.inr (Or.inr (Or.inr rfl)), rfl, rfl, rfl, rfl, rfl⟩
theorem zt_e3_l (a : Bool) (l : List (Int × Int)) : (zt_e3 a l).length = l.length + (if a then 1 else 0) := by
  cases a
  · rfl
  · exact List.length_append
theorem zt_e2_l (a : Bool) (l : List (Int × Int)) : (zt_e2 a l).length = l.length + (if a then 1 else 0) := by
  cases a
  · rfl
  · exact List.length_append
section
variable {μ : zk_M} {BV : zk_M → Prop} {B : Int → zk_M → Prop} {f : Nat → Int} {len b d : Nat} {g cmp : Bool} {o : List (Int × Int)} {t : zt_T}
theorem sp_eitherK {o0 : List (Int × Int)} {μ0 : zk_M} (hb : zt_by f len) (hbb : b ≤ 2040) : ∀ (N n : Nat) (a c : Bool) (l : List (Int × Int)) (t : zt_T) (ν : zk_M), zt_g b μ0 ν → zt_E ν b true f len 0 (o0 ++ l) t → zt_I true true (zt_ee a c) false l → zt_tf len t → o0.length + l.length + (zt_ee a c).length ≤ t.2.2.1 → len + 1 ≤ t.2.2.1 + n → len + 1 ≤ t.2.2.1 + N → ((zt_law (zt_tok f len) true n true (zt_ee a c) false l t).1 ≠ 0 → ∀ ν', zt_g b μ0 ν' → ν' 60 8 = ((zt_law (zt_tok f len) true n true (zt_ee a c) false l t).2.1 : Int) → B (zt_law (zt_tok f len) true n true (zt_ee a c) false l t).1 ν') → (∀ (l' : List (Int × Int)) (t' : zt_T) (ν' : zk_M), zt_law (zt_tok f len) true n true (zt_ee a c) false l t = (if t'.1 = 15 then (0, 0, l', zt_tok f len t'.2.2.2) else zt_bad 1 t') → zt_g b μ0 ν' → zt_E ν' b true f len 0 (o0 ++ l') t' → zt_tf len t' → B 0 ν') → zk_K 183 6 [.inr (.inr (.inl 60)), .inl (if a then 1 else 0), .inl (if c then 1 else 0), .inl 1, .inr (.inr (.inr 0)), .inr (.inr (.inr 0))] [] ν (zk_RI B) := by
  have hlen := hb.1
  intro N
  induction N with
  | zero =>
    intro n a c l t ν _ _ _ ht _ _ hf
    have := ht.1
    omega
  | succ N ih =>
    intro n a c l t ν hz hS hI ht hl hf hN hF hT
    obtain ⟨w0, _, _, _, _, wl⟩ := zt_ee_f a c l
    refine t_Mod_either_6 ⟨fun q => absurd q (by decide), fun _ => c_Mod_asks (sp_asksK hb hbb w0 n 0 l t ν hz hS hI ht (by omega) hf (fun e ν' z' e8 => ⟨fun q => absurd q e, fun _ => hF e ν' z' e8⟩) (fun n' W2 l2 l3 t' ν' le z' E' I2 s4 br2 tf' b' f' nn' m' => ⟨fun _ => ?_, fun q => absurd rfl q⟩))⟩
    have le : zt_law (zt_tok f len) true n true (zt_ee a c) false l t = zt_law (zt_tok f len) true n' false W2 true l2 t' := le
    rw [le] at hF hT
    have tl' := tf'.1
    obtain ⟨m, rfl⟩ : ∃ m, n' = m + 1 := ⟨n' - 1, by omega⟩
    obtain ⟨_, st3, st2, st1, op0, _⟩ := zt_ee_f a c l3
    have q3 : zt_st 3 W2 l2 = (zt_ee false c, zt_e3 a l3) := by rw [zt_st_st (r := 3) (r' := 4) (by decide) W2 l2, s4]; exact st3
    have q2 : zt_st 2 W2 l2 = ([], zt_e2 c (zt_e3 a l3)) := by rw [zt_st_st (r := 2) (r' := 4) (by decide) W2 l2, s4]; exact st2
    have q1 : zt_st 1 W2 l2 = ([], zt_e2 c (zt_e3 a l3)) := by rw [zt_st_st (r := 1) (r' := 4) (by decide) W2 l2, s4]; exact st1
    have cfe : zt_cf true W2 true t'.1 = decide (t'.1 = 24 ∨ t'.1 = 25 ∨ t'.1 = 15) := by
      unfold zt_cf
      rw [if_neg nn', br2, if_neg (by omega), if_neg (by decide), if_pos rfl]
    have k9 := (zt_tk9 E'.2.2.2.2.2.2).2.2.2.2.2.2.2.2.2.2.2.2.2.2.2.2.2
    have l3l := zt_e3_l a l3
    have l2l := zt_e2_l c (zt_e3 a l3)
    have fin : ∀ ν1, zt_g b μ0 ν1 → zt_E ν1 b true f len 0 (o0 ++ zt_e2 c (zt_e3 a l3)) t' → t'.1 ≠ 25 → ∀ y0 : Int, ((y0 = 1 ∧ t'.1 = 24) ∨ (y0 = 0 ∧ t'.1 ≠ 24)) → zk_K 183 93 [.inr (.inr (.inl 60)), .inl 0, .inl y0, .inr (.inr (.inr 0)), .inr (.inr (.inr 0)), .inl y0] [] ν1 (zk_RI B) := fun ν1 z1 E1 n25 y0 hy => by
      refine t_Mod_either_93 ⟨fun q => absurd rfl q, fun _ => ⟨fun e => ⟨fun _ => ?_, fun q => absurd rfl q⟩, fun e => ⟨fun q => absurd q (by decide), fun _ => ?_⟩⟩⟩
      · refine t_Mod_either_6 ⟨fun _ => hT _ t' ν1 ?_ z1 E1 tf', fun q => absurd rfl q⟩
        by_cases e15 : t'.1 = 15
        · have cf : zt_cf true W2 true t'.1 = true := by
            rw [cfe]
            exact decide_eq_true (by omega)
          rw [if_pos e15, zt_law, if_neg (by rw [cf]; decide), if_neg (by omega), if_pos e15, e15, show zt_rk 15 = 1 from rfl, q1]
        · rw [if_neg e15, zt_law, if_pos]
          rw [cfe]
          exact decide_eq_false (by omega)
      · have e24 : t'.1 = 24 := by omega
        have y1 : y0 = 1 := by omega
        subst y1
        have cf : zt_cf true W2 true t'.1 = true := by
          rw [cfe]
          exact decide_eq_true (by omega)
        have le2 : zt_law (zt_tok f len) true (m + 1) false W2 true l2 t' = zt_law (zt_tok f len) true m true (zt_ee false true) false (zt_e2 c (zt_e3 a l3)) (zt_tok f len t'.2.2.2) := by
          rw [zt_law, if_neg (by rw [cf]; decide), if_neg (by omega), if_neg (by omega), e24, show zt_rk 24 = 2 from rfl, q2]
          rfl
        rw [le2] at hF hT
        have I3 := (zt_sgn I2 cf).2.2.2 (by omega) (by omega)
        rw [e24, show zt_rk 24 = 2 from rfl, q2] at I3
        have nx := zt_tok_a (f := f) tf' (by omega)
        refine sp_nextE hb E1 tf' (fun ν2 z2 E2 => ?_)
        exact ih m false true _ _ ν2 (z1.tr z2) E2 I3 nx.1 (by show o0.length + (zt_e2 c (zt_e3 a l3)).length + 1 ≤ _; omega) (by omega) (by omega) hF hT
    have tail : ∀ ν1, zt_g b μ0 ν1 → zt_E ν1 b true f len 0 (o0 ++ zt_e3 a l3) t' → zk_C 165 [.inl 97, .inl 110, .inl 100] ν1 (zk_RL fun r4 μ3 => zk_C 169 [.inr (.inr (.inl 60)), .inr (.inl r4)] μ3 (zk_RI fun r6 μ5 => (¬ (μ5 60 9) = 2 → (zk_K 183 73 [.inr (.inr (.inl 60)), .inl r6, .inl (if c then 1 else 0), .inr (.inr (.inr 0)), .inr (.inr (.inr 0)), .inr (.inr (.inr 0))] [.inl 0] μ5 (zk_RI B))) ∧ ((μ5 60 9) = 2 → ((¬ (zk_cmp (μ5 60 11) 28530) = 0 → (zk_K 183 73 [.inr (.inr (.inl 60)), .inl r6, .inl (if c then 1 else 0), .inr (.inr (.inr 0)), .inr (.inr (.inr 0)), .inr (.inr (.inr 0))] [.inl 0] μ5 (zk_RI B))) ∧ ((zk_cmp (μ5 60 11) 28530) = 0 → (zk_K 183 73 [.inr (.inr (.inl 60)), .inl r6, .inl (if c then 1 else 0), .inr (.inr (.inr 0)), .inr (.inr (.inr 0)), .inr (.inr (.inr 0))] [.inl 1] μ5 (zk_RI B))))))) := fun ν1 z1 E1 => by
      have R1 := E1.2.2.2.2
      refine sp_w3 (r := zt_pk (zt_ws.getD (25 - 16) [])) (by decide +kernel) (sp_isW R1 (by decide) rfl (fun e25 => ?_) (fun n25 => ?_))
      · have cf : zt_cf true W2 true t'.1 = true := by
          rw [cfe]
          exact decide_eq_true (by omega)
        have le2 : zt_law (zt_tok f len) true (m + 1) false W2 true l2 t' = zt_law (zt_tok f len) true m true (zt_ee true c) false (zt_e3 a l3) (zt_tok f len t'.2.2.2) := by
          rw [zt_law, if_neg (by rw [cf]; decide), if_neg (by omega), if_neg (by omega), e25, show zt_rk 25 = 3 from rfl, q3]
          cases c <;> rfl
        rw [le2] at hF hT
        have I3 := (zt_sgn I2 cf).2.2.2 (by omega) (by omega)
        rw [e25, show zt_rk 25 = 3 from rfl, q3] at I3
        have I3 : zt_I true true (zt_ee true c) false (zt_e3 a l3) := by cases c <;> exact I3
        have nx := zt_tok_a (f := f) tf' (by omega)
        have wl3 := (zt_ee_f true c l3).2.2.2.2.2
        have wl4 := (zt_ee_f a c l3).2.2.2.2.2
        have go : ∀ y0 : Int, zk_K 183 73 [.inr (.inr (.inl 60)), .inl 1, .inl (if c then 1 else 0), .inr (.inr (.inr 0)), .inr (.inr (.inr 0)), .inr (.inr (.inr 0))] [.inl y0] ν1 (zk_RI B) := fun y0 => by
          refine t_Mod_either_73 ⟨fun _ => t_Mod_either_93 ⟨fun _ => ⟨fun q => absurd q (by decide), fun _ => sp_nextE hb E1 tf' (fun ν2 z2 E2 => ?_)⟩, fun q => absurd q (by decide)⟩, fun q => absurd q (by decide)⟩
          exact ih m true c _ _ ν2 (z1.tr z2) E2 I3 nx.1 (by rw [wl3, if_pos rfl]; omega) (by omega) (by omega) hF hT
        exact ⟨fun _ => go 0, fun _ => ⟨fun _ => go 0, fun _ => go 1⟩⟩
      · have go : ∀ y0 : Int, ((y0 = 1 ∧ t'.1 = 24) ∨ (y0 = 0 ∧ t'.1 ≠ 24)) → zk_K 183 73 [.inr (.inr (.inl 60)), .inl 0, .inl (if c then 1 else 0), .inr (.inr (.inr 0)), .inr (.inr (.inr 0)), .inr (.inr (.inr 0))] [.inl y0] ν1 (zk_RI B) := fun y0 hy => by
          refine t_Mod_either_73 ⟨fun q => absurd rfl q, fun _ => ⟨fun e => ?_, fun e => ?_⟩⟩
          · have ec : c = false := by
              cases c
              · rfl
              · exact absurd e (by decide)
            refine fin ν1 z1 ?_ n25 y0 hy
            rw [ec]
            exact E1
          · have ec : c = true := by
              cases c
              · exact absurd rfl e
              · rfl
            have lt3 : (if a then 1 else 0) ≤ 1 := by
              cases a <;> decide
            refine sp_emitE hbb E1 (by rw [List.length_append]; omega) (fun ν2 z2 E2 => fin ν2 (z1.tr z2) ?_ n25 y0 hy)
            rw [ec]
            rw [List.append_assoc] at E2
            exact E2
        refine ⟨fun q => go 0 (Or.inr ⟨rfl, fun e => q (((zt_tk9 R1.2.2).2.2.2.2.2.2.2.2.2.2.2.2.2.2.2.2.2) (by omega))⟩), fun q => ?_⟩
        rw [zt_isW (c := 24) R1 (by decide) (by decide +kernel) q]
        exact ⟨fun e => go 0 (Or.inr ⟨rfl, e⟩), fun e => go 1 (Or.inl ⟨rfl, e⟩)⟩
    have la1 : (if a then 1 else 0) ≤ (zt_ee a c).length := by
      rw [wl]
      omega
    refine ⟨fun e => ?_, fun e => ?_⟩
    · have ea : a = false := by
        cases a
        · rfl
        · exact absurd e (by decide)
      refine tail ν' z' ?_
      rw [ea]
      exact E'
    · have ea : a = true := by
        cases a
        · exact absurd rfl e
        · rfl
      refine sp_emitE hbb E' (by rw [List.length_append]; omega) (fun ν2 z2 E2 => tail ν2 (z'.tr z2) ?_)
      rw [ea]
      rw [List.append_assoc] at E2
      exact E2
theorem sp_either {o0 : List (Int × Int)} {μ0 : zk_M} {n : Nat} (hb : zt_by f len) (hbb : b ≤ 2040) (hz : zt_g b μ0 μ) (hS : zt_E μ b true f len 0 o0 t) (ht : zt_tf len t) (hl : o0.length ≤ t.2.2.1) (hf : len + 1 ≤ t.2.2.1 + n) (hF : (zt_law (zt_tok f len) true n true [] false [] t).1 ≠ 0 → ∀ ν', zt_g b μ0 ν' → ν' 60 8 = ((zt_law (zt_tok f len) true n true [] false [] t).2.1 : Int) → B (zt_law (zt_tok f len) true n true [] false [] t).1 ν') (hT : ∀ (l' : List (Int × Int)) (t' : zt_T) (ν' : zk_M), zt_law (zt_tok f len) true n true [] false [] t = (if t'.1 = 15 then (0, 0, l', zt_tok f len t'.2.2.2) else zt_bad 1 t') → zt_g b μ0 ν' → zt_E ν' b true f len 0 (o0 ++ l') t' → zt_tf len t' → B 0 ν') : zk_C 183 [.inr (.inr (.inl 60))] μ (zk_RI B) := by
  refine c_Mod_either (sp_eitherK hb hbb (len + 1) n false false [] t μ hz ?_ (zt_I_0 true) ht (by show o0.length + 0 + 0 ≤ _; omega) hf (by omega) hF hT)
  rw [List.append_nil]
  exact hS
end
