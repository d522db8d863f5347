/-! the reference reads a text *-/
section
variable {μ : zk_M} {BV : zk_M → Prop} {B : Int → zk_M → Prop} {f : Nat → Int} {len b : Nat}
theorem sp_clause {X : zt_X} {t : zt_T} {n : Nat} (hb : zt_by f len) (hbb : b ≤ 2040) (hS : zt_RS μ b X f len t) (ht : zt_tf len t) (h0 : t.1 ≠ 0) (hl : X.2.1.length ≤ t.2.2.1) (h24 : X.1.length ≤ 24) (hF : (zt_text (zt_tok f len) (n + 1) X t).1 ≠ 0 → ∀ ν, zt_u b μ ν → ν 60 8 = ((zt_text (zt_tok f len) (n + 1) X t).2.1 : Int) → B (zt_text (zt_tok f len) (n + 1) X t).1 ν) (hT : ∀ (X' : zt_X) (t' : zt_T) ν, zt_text (zt_tok f len) (n + 1) X t = zt_text (zt_tok f len) n X' t' → zt_u b μ ν → zt_RS ν b X' f len t' → zt_tf len t' → t.2.2.1 < t'.2.2.1 → X'.2.1.length ≤ t'.2.2.1 → X'.1.length ≤ 24 → B 0 ν) : zk_C 189 [.inr (.inr (.inl 60))] μ (zk_RI B) := by
  have hS0 := hS
  obtain ⟨XR, XG, h18, hR0, hR⟩ := hS
  have h12 := XR.1.1
  have h63 := XR.2.1
  have nx := zt_tok_a (f := f) ht h0
  rw [zt_text, if_neg h0] at hF hT
  refine c_Mod_clause (sp_sortOf hR ?_)
  rw [h12, h63]
  by_cases hs : t.1 = 31 ∨ (16 ≤ t.1 ∧ t.1 ≤ 21)
  · by_cases hw : t.1 = 16 ∨ t.1 = 17
    · obtain ⟨g, hg⟩ : ∃ g, (t.1 = 16 ∧ g = false) ∨ (t.1 = 17 ∧ g = true) := by
        rcases hw with e | e
        · exact ⟨false, Or.inl ⟨e, rfl⟩⟩
        · exact ⟨true, Or.inr ⟨e, rfl⟩⟩
      have hgd : g = decide (t.1 = 17) := by
        rcases hg with ⟨e, rfl⟩ | ⟨e, rfl⟩ <;> rw [e] <;> rfl
      have sg : zt_so t.1 = (if g then 1 else 0) := by
        rcases hg with ⟨e, rfl⟩ | ⟨e, rfl⟩ <;> rw [e] <;> rfl
      have s01 : 0 ≤ zt_so t.1 ∧ zt_so t.1 < 2 := by
        rw [sg]
        cases g <;> decide
      have bt := zt_bits (X.2.2 false).isSome (X.2.2 true).isSome
      have XG' : μ 60 21 = (if (X.2.2 false).isSome then 1 else 0) + (if (X.2.2 true).isSome then 2 else 0) := XG
      have bit : zk_and (zk_shr (μ 60 21) (zt_so t.1)) 1 = (if (X.2.2 g).isSome then 1 else 0) := by
        rw [sg, XG']
        cases g
        · exact bt.1
        · exact bt.2.1
      refine ⟨fun _ => ⟨fun q => by omega, fun _ => ⟨fun nb => ⟨by omega, fun n24 => ⟨fun q => by omega, fun _ => ?_⟩, fun e24 => ?_⟩, fun eb => ?_⟩⟩, fun q => by omega⟩
      · have ns : (X.2.2 g).isSome = false := by
          cases q : (X.2.2 g).isSome
          · rfl
          · rw [q] at bit
            exact absurd bit nb
        have ck : ¬ zt_ck X t.1 ≠ 0 := by
          unfold zt_ck
          rw [if_neg (fun q => q hs), if_neg, if_neg]
          · exact fun q => q rfl
          · omega
          · rcases hg with ⟨e, rfl⟩ | ⟨e, rfl⟩
            · rintro (q | q)
              · rw [ns] at q
                exact absurd q.2 (by decide)
              · omega
            · rintro (q | q)
              · omega
              · rw [ns] at q
                exact absurd q.2 (by decide)
        rw [if_neg ck, if_pos hw] at hF hT
        rw [← hgd] at hF hT
        have n21 : ∀ i : Int, i ≠ 21 → zk_set μ 60 21 (zk_or (μ 60 21) (zk_shl 1 (zt_so t.1))) 60 i = μ 60 i := fun i hi => zk_set_n hi
        have u21 : zt_u b μ (zk_set μ 60 21 (zk_or (μ 60 21) (zk_shl 1 (zt_so t.1)))) := zt_u_60 b μ (by decide) _
        have o63 : zk_set μ 60 21 (zk_or (μ 60 21) (zk_shl 1 (zt_so t.1))) 63 = μ 63 := zk_set_o (by decide)
        have N24 : X.1.length < 24 := (zt_ck_0 ck).2.1
        refine sp_66l (g := g) hb hbb hg ?_ (fun l => ?_) (by rw [n21 18 (by decide)]; exact h18) (hR0.u u21) (hR.cg (fun i h1 h2 => n21 i (by omega))) N24 h0 ht hl (fun e ν z e8 => ?_) (fun e ν z S => ?_)
        · unfold zt_XR
          rw [o63]
          exact ⟨XR.1.cg (n21 12 (by decide)) (n21 14 (by decide)) o63, XR.2⟩
        · unfold zt_XG
          rw [zk_set_s, sg, XG']
          rcases hg with ⟨e, rfl⟩ | ⟨e, rfl⟩
          · rw [e]
            exact bt.2.2.1
          · rw [e]
            exact bt.2.2.2
        · rw [if_pos e] at hF
          exact hF e ν (u21.tr z) e8
        · rw [if_neg (fun q => q e)] at hT
          have k := zt_law_ok (g := g) 301 true [] false [] (zt_tok f len t.2.2.2) nx.1 (zt_I_0 _) e
          refine hT _ _ ν rfl (u21.tr z) S k.1 (by omega) ?_ ?_
          · show (X.2.1 ++ _).length ≤ _
            rw [List.length_append]
            exact k.2.2.1 X.2.1.length (by show X.2.1.length + 0 + 0 ≤ _; omega)
          · show (X.1 ++ [_]).length ≤ 24
            rw [List.length_append, List.length_singleton]
            omega
      · have ns : (X.2.2 g).isSome = false := by
          cases q : (X.2.2 g).isSome
          · rfl
          · rw [q] at bit
            exact absurd bit nb
        have ck : zt_ck X t.1 = 6 := by
          unfold zt_ck
          rw [if_neg (fun q => q hs), if_neg, if_pos (by omega)]
          rcases hg with ⟨e, rfl⟩ | ⟨e, rfl⟩
          · rintro (q | q)
            · rw [ns] at q
              exact absurd q.2 (by decide)
            · omega
          · rintro (q | q)
            · omega
            · rw [ns] at q
              exact absurd q.2 (by decide)
        rw [ck, if_pos (by decide)] at hF
        exact hF (show ¬ (6 : Int) = 0 by decide) μ (zt_u.rf _ _) hR.1
      · have ns : (X.2.2 g).isSome = true := by
          cases q : (X.2.2 g).isSome
          · rw [q] at bit
            exact absurd (bit.symm.trans eb) (by decide)
          · rfl
        have ck : zt_ck X t.1 = 4 := by
          unfold zt_ck
          rw [if_neg (fun q => q hs), if_pos]
          rcases hg with ⟨e, rfl⟩ | ⟨e, rfl⟩
          · exact Or.inl ⟨e, ns⟩
          · exact Or.inr ⟨e, ns⟩
        rw [ck, if_pos (by decide)] at hF
        exact hF (show ¬ (4 : Int) = 0 by decide) μ (zt_u.rf _ _) hR.1
    · have hd : t.1 = 18 ∨ t.1 = 31 ∨ t.1 = 19 ∨ t.1 = 20 ∨ t.1 = 21 := by omega
      have s2 : 2 ≤ zt_so t.1 := by rcases hd with e | e | e | e | e <;> rw [e] <;> decide
      have nl : ¬ ((t.1 = 16 ∧ (X.2.2 false).isSome = true) ∨ (t.1 = 17 ∧ (X.2.2 true).isSome = true)) := by
        rintro (q | q)
        · exact hw (Or.inl q.1)
        · exact hw (Or.inr q.1)
      refine ⟨fun _ => ⟨fun _ => ⟨by omega, fun n24 => ⟨fun _ => ?_, fun q => by omega⟩, fun e24 => ?_⟩, fun q => by omega⟩, fun q => by omega⟩
      · have ck : ¬ zt_ck X t.1 ≠ 0 := by
          unfold zt_ck
          rw [if_neg (fun q => q hs), if_neg nl, if_neg (by omega)]
          exact fun q => q rfl
        rw [if_neg ck, if_neg hw] at hF hT
        refine sp_66d hb hbb hd hS0 (by omega) ht (fun e ν z e8 => ?_) (fun e ν z S => ?_)
        · rw [if_pos e] at hF
          exact hF e ν z e8
        · rw [if_neg (fun q => q e)] at hT
          have k := zt_deed_t nx.1 e
          refine hT _ _ ν rfl z S k.1 (by omega) (by show X.2.1.length ≤ _; omega) ?_
          show (X.1 ++ [_]).length ≤ 24
          rw [List.length_append, List.length_singleton]
          omega
      · have ck : zt_ck X t.1 = 6 := by
          unfold zt_ck
          rw [if_neg (fun q => q hs), if_neg nl, if_pos (by omega)]
        rw [ck, if_pos (by decide)] at hF
        exact hF (show ¬ (6 : Int) = 0 by decide) μ (zt_u.rf _ _) hR.1
  · have e : zt_so t.1 = -1 := by
      unfold zt_so
      rw [if_neg (by omega), if_neg (by omega), if_neg (by omega), if_neg (by omega), if_neg (by omega), if_neg (by omega), if_neg (by omega)]
    have ck : zt_ck X t.1 = 1 := by
      unfold zt_ck
      rw [if_pos hs]
    rw [e]
    refine ⟨fun q => absurd q (by decide), fun _ => ?_⟩
    rw [ck, if_pos (by decide)] at hF
    exact hF (show ¬ (1 : Int) = 0 by decide) μ (zt_u.rf _ _) hR.1
theorem sp_textR {μ0 : zk_M} (hb : zt_by f len) (hbb : b ≤ 2040) : ∀ (n : Nat) (X : zt_X) (t : zt_T) (ν : zk_M), zt_u b μ0 ν → zt_RS ν b X f len t → zt_tf len t → X.2.1.length ≤ t.2.2.1 → X.1.length ≤ 24 → len + 1 ≤ t.2.2.1 + n → ((zt_text (zt_tok f len) n X t).1 ≠ 0 → ∀ ν', zt_u b μ0 ν' → ν' 60 8 = ((zt_text (zt_tok f len) n X t).2.1 : Int) → B (zt_text (zt_tok f len) n X t).1 ν') → ((zt_text (zt_tok f len) n X t).1 = 0 → ∀ ν', zt_u b μ0 ν' → zt_XR ν' b (zt_text (zt_tok f len) n X t).2.2 → B 0 ν') → zk_K 190 48 [.inr (.inr (.inl 60)), .inr (.inr (.inr 0))] [] ν (zk_RI B) := by
  intro n
  induction n with
  | zero =>
    intro X t ν _ _ ht _ _ hf
    have := ht.1
    omega
  | succ n ih =>
    intro X t ν hz hS ht hl h24 hf hF hT
    have k0 := (zt_tk9 hS.2.2.2.2.2.2).2.1
    refine t_Mod_readText_48 ⟨fun e => ?_, fun e => ?_⟩
    · rw [zt_text, if_pos (k0.1 e)] at hT
      exact hT rfl ν hz hS.1
    · exact sp_clause (n := n) hb hbb hS ht (fun q => e (k0.2 q)) hl h24 (fun e ν' z e8 => ⟨fun q => absurd q e, fun _ => hF e ν' (hz.tr z) e8⟩) (fun X' t' ν' le z S tf lt ln l24 => ⟨fun _ => ih X' t' ν' (hz.tr z) S tf ln l24 (by omega) (by rw [← le]; exact hF) (by rw [← le]; exact hT), fun q => absurd rfl q⟩)
theorem sp_readText {tt : Nat} (hb : zt_by f len) (htt : tt < 4) (h3 : μ 61 3 = (tt : Int)) (hR0 : zt_R0 μ f len) (hF : (zt_TX f len).1 ≠ 0 → ∀ ν, zt_u (680 * tt) μ ν → ν 60 8 = ((zt_TX f len).2.1 : Int) → B (zt_TX f len).1 ν) (hT : (zt_TX f len).1 = 0 → ∀ ν, zt_u (680 * tt) μ ν → zt_XR ν (680 * tt) (zt_TX f len).2.2 → B 0 ν) : zk_C 190 [.inr (.inr (.inl 60))] μ (zk_RI B) := by
  have hlen := hb.1
  refine c_Mod_readText ?_
  rw [h3, show (680 : Int) * (tt : Int) = ((680 * tt : Nat) : Int) by omega]
  obtain ⟨b, eb⟩ : ∃ b, b = 680 * tt := ⟨_, rfl⟩
  rw [← eb] at hF hT ⊢
  refine ⟨by omega, by omega, ?_⟩
  have u0 : zt_u b μ (zk_set (zk_set (zk_set (zk_set (zk_set (zk_set μ 60 12 (b : Int)) 63 (b : Int) 0) 60 14 0) 60 18 0) 60 21 0) 60 7 0) := (((((zt_u_60 b μ (by decide) _).tr (zt_u_63 b _ (Int.le_refl _) _)).tr (zt_u_60 b _ (by decide) _)).tr (zt_u_60 b _ (by decide) _)).tr (zt_u_60 b _ (by decide) _)).tr (zt_u_60 b _ (by decide) _)
  have a7 : (zk_set (zk_set (zk_set (zk_set (zk_set (zk_set μ 60 12 (b : Int)) 63 (b : Int) 0) 60 14 0) 60 18 0) 60 21 0) 60 7 0) 60 7 = 0 := zk_set_s _ _ _ _
  have a21 : (zk_set (zk_set (zk_set (zk_set (zk_set (zk_set μ 60 12 (b : Int)) 63 (b : Int) 0) 60 14 0) 60 18 0) 60 21 0) 60 7 0) 60 21 = 0 := by rw [zk_set_n (by decide), zk_set_s]
  have a18 : (zk_set (zk_set (zk_set (zk_set (zk_set (zk_set μ 60 12 (b : Int)) 63 (b : Int) 0) 60 14 0) 60 18 0) 60 21 0) 60 7 0) 60 18 = 0 := by rw [zk_set_n (by decide), zk_set_n (by decide), zk_set_s]
  have a14 : (zk_set (zk_set (zk_set (zk_set (zk_set (zk_set μ 60 12 (b : Int)) 63 (b : Int) 0) 60 14 0) 60 18 0) 60 21 0) 60 7 0) 60 14 = 0 := by rw [zk_set_n (by decide), zk_set_n (by decide), zk_set_n (by decide), zk_set_s]
  have a12 : (zk_set (zk_set (zk_set (zk_set (zk_set (zk_set μ 60 12 (b : Int)) 63 (b : Int) 0) 60 14 0) 60 18 0) 60 21 0) 60 7 0) 60 12 = (b : Int) := by rw [zk_set_n (by decide), zk_set_n (by decide), zk_set_n (by decide), zk_set_n (by decide), zk_set_o (by decide), zk_set_s]
  have a63 : (zk_set (zk_set (zk_set (zk_set (zk_set (zk_set μ 60 12 (b : Int)) 63 (b : Int) 0) 60 14 0) 60 18 0) 60 21 0) 60 7 0) 63 (b : Int) = 0 := by rw [zk_set_o (by decide), zk_set_o (by decide), zk_set_o (by decide), zk_set_o (by decide), zk_set_s]
  generalize zk_set (zk_set (zk_set (zk_set (zk_set (zk_set μ 60 12 (b : Int)) 63 (b : Int) 0) 60 14 0) 60 18 0) 60 21 0) 60 7 0 = μ1 at u0 a7 a21 a18 a14 a12 a63 ⊢
  refine sp_nextTok hb (n := 0) (hR0.u u0) (Nat.zero_le _) a7 (fun ν z R => ?_)
  refine sp_textR hb (b := b) (μ0 := μ) (by omega) 301 zt_X0 (zt_tok f len 0) ν (u0.tr (z.g (b := b)).u) ⟨⟨⟨by rw [z.2 12 (by decide)]; exact a12, by rw [z.2 14 (by decide)]; exact a14, fun i q hq => absurd hq (by simp [zt_X0])⟩, by rw [z.1 63 (by decide)]; exact a63, fun j q hq => absurd hq (by simp [zt_X0]), fun g L hL => absurd hL (by simp [zt_X0])⟩, ?_, by rw [z.2 18 (by decide)]; exact a18, (hR0.u u0).u (z.g (b := b)).u, R⟩ (zt_tok_f (f := f) (Nat.zero_le _)).1 (Nat.zero_le _) (Nat.zero_le _) (by omega) hF hT
  unfold zt_XG
  rw [z.2 21 (by decide), a21]
  rfl
end
