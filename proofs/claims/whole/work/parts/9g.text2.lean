/-! the class reads a text *-/
def zt_XF (ν : zk_M) (X : zt_X) : Prop := (ν 44 2 ≠ 0 ↔ (X.2.2 false).isSome = true) ∧ (ν 44 3 ≠ 0 ↔ (X.2.2 true).isSome = true)
section
variable {μ : zk_M} {BV : zk_M → Prop} {B : Int → zk_M → Prop} {f : Nat → Int} {len k : Nat} {t : zt_T}
theorem zt_tok_a (ht : zt_tf len t) (h : t.1 ≠ 0) : zt_tf len (zt_tok f len t.2.2.2) ∧ t.2.2.1 < (zt_tok f len t.2.2.2).2.2.1 := by
  have e := zt_tok_f (f := f) ht.2.1
  have e2 := ht.2.2.2.1 h
  exact ⟨e.1, by omega⟩
theorem zt_num_2 {lo hi : Int} (h : ¬ zt_num lo hi t ≠ 0) : t.1 ≠ 0 := by
  unfold zt_num at h
  intro q
  rw [if_pos (by omega)] at h
  exact h (by decide)
theorem zt_semi_t {a b c : Int} (ht : zt_tf len t) (h : (zt_semi (zt_tok f len) a b c t).1 = 0) : zt_tf len (zt_semi (zt_tok f len) a b c t).2.2.2 ∧ t.2.2.1 < (zt_semi (zt_tok f len) a b c t).2.2.2.2.2.1 := by
  unfold zt_semi at *
  split at h
  · exact absurd h (show ¬ (1 : Int) = 0 by decide)
  · rename_i q
    rw [if_neg q]
    exact zt_tok_a ht (by omega)
theorem zt_deed5_t {a b : Int} (ht : zt_tf len t) (h : (zt_deed5 (zt_tok f len) a b t).1 = 0) : zt_tf len (zt_deed5 (zt_tok f len) a b t).2.2.2 ∧ t.2.2.1 < (zt_deed5 (zt_tok f len) a b t).2.2.2.2.2.1 := by
  unfold zt_deed5 at *
  split at h
  · rename_i q
    exact absurd h q
  · rename_i q
    rw [if_neg q]
    have e := zt_tok_a (f := f) ht (zt_num_2 q)
    have e2 := zt_semi_t e.1 h
    exact ⟨e2.1, by omega⟩
theorem zt_deed4_t {a b : Int} (ht : zt_tf len t) (h : (zt_deed4 (zt_tok f len) a b t).1 = 0) : zt_tf len (zt_deed4 (zt_tok f len) a b t).2.2.2 ∧ t.2.2.1 < (zt_deed4 (zt_tok f len) a b t).2.2.2.2.2.1 := by
  unfold zt_deed4 at *
  split at h
  · exact absurd h (show ¬ (1 : Int) = 0 by decide)
  · rename_i q
    rw [if_neg q]
    have e := zt_tok_a (f := f) ht (by omega)
    have e2 := zt_deed5_t e.1 h
    exact ⟨e2.1, by omega⟩
theorem zt_deed3_t {w : Nat} {a : Int} (ht : zt_tf len t) (h : (zt_deed3 (zt_tok f len) w a t).1 = 0) : zt_tf len (zt_deed3 (zt_tok f len) w a t).2.2.2 ∧ t.2.2.1 < (zt_deed3 (zt_tok f len) w a t).2.2.2.2.2.1 := by
  unfold zt_deed3 at *
  by_cases q : zt_num 0 5 t ≠ 0
  · rw [if_pos q] at h
    exact absurd h q
  · rw [if_neg q] at h ⊢
    have e := zt_tok_a (f := f) ht (zt_num_2 q)
    by_cases q2 : w = 19
    · rw [if_pos q2] at h ⊢
      have e2 := zt_deed4_t e.1 h
      exact ⟨e2.1, by omega⟩
    · rw [if_neg q2] at h ⊢
      have e2 := zt_semi_t e.1 h
      exact ⟨e2.1, by omega⟩
theorem zt_deed2_t {w : Nat} {a : Int} (ht : zt_tf len t) (h : (zt_deed2 (zt_tok f len) w a t).1 = 0) : zt_tf len (zt_deed2 (zt_tok f len) w a t).2.2.2 ∧ t.2.2.1 < (zt_deed2 (zt_tok f len) w a t).2.2.2.2.2.1 := by
  unfold zt_deed2 at *
  split at h
  · exact absurd h (show ¬ (1 : Int) = 0 by decide)
  · rename_i q
    rw [if_neg q]
    have e := zt_tok_a (f := f) ht (by omega)
    have e2 := zt_deed3_t e.1 h
    exact ⟨e2.1, by omega⟩
theorem zt_deed_t {w : Nat} (ht : zt_tf len t) (h : (zt_deed (zt_tok f len) w t).1 = 0) : zt_tf len (zt_deed (zt_tok f len) w t).2.2.2 ∧ t.2.2.1 < (zt_deed (zt_tok f len) w t).2.2.2.2.2.1 := by
  unfold zt_deed at *
  by_cases q20 : w = 20
  · rw [if_pos q20] at h ⊢
    by_cases q : zt_num 0 29 t ≠ 0
    · rw [if_pos q] at h
      exact absurd h q
    · rw [if_neg q] at h ⊢
      have e := zt_tok_a (f := f) ht (zt_num_2 q)
      have e2 := zt_semi_t e.1 h
      exact ⟨e2.1, by omega⟩
  · rw [if_neg q20] at h ⊢
    by_cases q21 : w = 21
    · rw [if_pos q21] at h ⊢
      by_cases q : zt_num 1 99 t ≠ 0
      · rw [if_pos q] at h
        exact absurd h q
      · rw [if_neg q] at h ⊢
        have e := zt_tok_a (f := f) ht (zt_num_2 q)
        have e2 := zt_semi_t e.1 h
        exact ⟨e2.1, by omega⟩
    · rw [if_neg q21] at h ⊢
      by_cases q : zt_num 0 5 t ≠ 0
      · rw [if_pos q] at h
        exact absurd h q
      · rw [if_neg q] at h ⊢
        have e := zt_tok_a (f := f) ht (zt_num_2 q)
        have e2 := zt_deed2_t e.1 h
        exact ⟨e2.1, by omega⟩
theorem sp_78 {w : Nat} (hB : ∀ ν, zq [44] μ ν → (∀ i : Int, i ≠ 2 → i ≠ 3 → ν 44 i = μ 44 i) → (ν 44 2 ≠ 0 ↔ μ 44 2 ≠ 0 ∨ w = 16) → (ν 44 3 ≠ 0 ↔ μ 44 3 ≠ 0 ∨ w = 17) → BV ν) : zk_K 44 78 [.inr (.inr (.inl 44)), .inr (.inr (.inr 0)), .inr (.inr (.inr 0)), .inl (w : Int)] [] μ (zk_RV BV) := by
  have go : ∀ a b : Int, (a ≠ 0 ↔ μ 44 2 ≠ 0 ∨ w = 16) → (b ≠ 0 ↔ μ 44 3 ≠ 0 ∨ w = 17) → BV (zk_set (zk_set μ 44 2 a) 44 3 b) := fun a b ha hb => hB _ (((zq.rf _ _).set (by simp) _ _).set (by simp) _ _) (fun i h2 h3 => by rw [zk_set_n h3, zk_set_n h2]) (by rw [zk_set_n (by decide), zk_set_s]; exact ha) (by rw [zk_set_s]; exact hb)
  exact t_Rea_checkStart_78 ⟨fun h2 => ⟨fun h3 => go 1 1 (by omega) (by omega), fun h3 => ⟨fun q => go 1 0 (by omega) (by omega), fun q => go 1 1 (by omega) (by omega)⟩⟩, fun h2 => ⟨fun q => ⟨fun h3 => go 0 1 (by omega) (by omega), fun h3 => ⟨fun q2 => go 0 0 (by omega) (by omega), fun q2 => go 0 1 (by omega) (by omega)⟩⟩, fun q => ⟨fun h3 => go 1 1 (by omega) (by omega), fun h3 => ⟨fun q2 => go 1 0 (by omega) (by omega), fun q2 => go 1 1 (by omega) (by omega)⟩⟩⟩⟩
theorem sp_chk {X : zt_X} {r : Int} (ha : zt_at μ f len t) (hx : zt_XF μ X) (hr : r = 0 ↔ X.1.length < 24) (hF : zt_ck X t.1 ≠ 0 → ∀ ν, zq [44] μ ν → ν 44 0 = zt_ck X t.1 → ν 44 1 = (t.2.2.1 : Int) → BV ν) (hT : zt_ck X t.1 = 0 → ∀ ν, zq [44] μ ν → (∀ i : Int, i ≠ 2 → i ≠ 3 → ν 44 i = μ 44 i) → (ν 44 2 ≠ 0 ↔ (X.2.2 false).isSome = true ∨ t.1 = 16) → (ν 44 3 ≠ 0 ↔ (X.2.2 true).isSome = true ∨ t.1 = 17) → BV ν) : zk_C 44 [.inr (.inr (.inl 44)), .inr (.inr (.inl 42)), .inl r] μ (zk_RV BV) := by
  have h2 : μ 42 2 = (t.1 : Int) := ha.2.2.2.1
  have bl : ∀ kd : Int, zt_ck X t.1 = kd → kd ≠ 0 → zk_C 43 [.inr (.inr (.inl 44)), .inr (.inr (.inl 42)), .inl kd] μ (zk_RV fun μ1 => zk_K 44 78 [.inr (.inr (.inl 44)), .inr (.inr (.inr 0)), .inr (.inr (.inr 0)), .inl (t.1 : Int)] [] μ1 (zk_RV BV)) := fun kd e n => by
    refine sp_blame (k := 26) ha (Or.inl rfl) (fun ν _ z e0 e1 _ => sp_78 (fun ν2 y yi _ _ => hF (by rw [e]; exact n) ν2 (z.tr y) (by rw [yi 0 (by decide) (by decide), e0, e]) (by rw [yi 1 (by decide) (by decide), e1])))
  have k78 : zt_ck X t.1 = 0 → zk_K 44 78 [.inr (.inr (.inl 44)), .inr (.inr (.inr 0)), .inr (.inr (.inr 0)), .inl (t.1 : Int)] [] μ (zk_RV BV) := fun e => sp_78 (fun ν y yi y2 y3 => hT e ν y yi (y2.trans (or_congr hx.1 Iff.rfl)) (y3.trans (or_congr hx.2 Iff.rfl)))
  have full : (t.1 = 31 ∨ (16 ≤ t.1 ∧ t.1 ≤ 21)) → ¬ ((t.1 = 16 ∧ (X.2.2 false).isSome = true) ∨ (t.1 = 17 ∧ (X.2.2 true).isSome = true)) → ((r = 0 → zk_K 44 78 [.inr (.inr (.inl 44)), .inr (.inr (.inr 0)), .inr (.inr (.inr 0)), .inl (t.1 : Int)] [] μ (zk_RV BV)) ∧ (¬ r = 0 → zk_C 43 [.inr (.inr (.inl 44)), .inr (.inr (.inl 42)), .inl 6] μ (zk_RV fun μ1 => zk_K 44 78 [.inr (.inr (.inl 44)), .inr (.inr (.inr 0)), .inr (.inr (.inr 0)), .inl (t.1 : Int)] [] μ1 (zk_RV BV)))) := fun q1 q2 => by
    refine ⟨fun q => k78 ?_, fun q => bl 6 ?_ (by decide)⟩
    · have := hr.1 q
      unfold zt_ck
      rw [if_neg (fun h => h q1), if_neg q2, if_neg (by omega)]
    · have : ¬ X.1.length < 24 := fun h => q (hr.2 h)
      unfold zt_ck
      rw [if_neg (fun h => h q1), if_neg q2, if_pos (by omega)]
  have k45 : (t.1 = 31 ∨ (16 ≤ t.1 ∧ t.1 ≤ 21)) → ¬ (t.1 = 16 ∧ (X.2.2 false).isSome = true) → zk_K 44 45 [.inr (.inr (.inl 44)), .inr (.inr (.inl 42)), .inl r, .inl (t.1 : Int)] [] μ (zk_RV BV) := fun q1 q2 => by
    refine t_Rea_checkStart_45 ⟨fun n17 => full q1 (fun h => ?_), fun e17 => ⟨fun e3 => full q1 (fun h => ?_), fun n3 => bl 4 ?_ (by decide)⟩⟩
    · rcases h with h | h
      · exact q2 h
      · omega
    · rcases h with h | h
      · exact q2 h
      · exact (hx.2.2 h.2) e3
    · unfold zt_ck
      rw [if_neg (fun h => h q1), if_pos (Or.inr ⟨by omega, hx.2.1 n3⟩)]
  have both : (t.1 = 31 ∨ (16 ≤ t.1 ∧ t.1 ≤ 21)) → (¬ (t.1 : Int) = 16 → zk_K 44 45 [.inr (.inr (.inl 44)), .inr (.inr (.inl 42)), .inl r, .inl (t.1 : Int)] [] μ (zk_RV BV)) ∧ ((t.1 : Int) = 16 → ((¬ (μ 44 2) = 0 → zk_C 43 [.inr (.inr (.inl 44)), .inr (.inr (.inl 42)), .inl 4] μ (zk_RV fun μ1 => zk_K 44 78 [.inr (.inr (.inl 44)), .inr (.inr (.inr 0)), .inr (.inr (.inr 0)), .inl (t.1 : Int)] [] μ1 (zk_RV BV))) ∧ ((μ 44 2) = 0 → zk_K 44 45 [.inr (.inr (.inl 44)), .inr (.inr (.inl 42)), .inl r, .inl (t.1 : Int)] [] μ (zk_RV BV)))) := fun q1 => by
    refine ⟨fun n16 => k45 q1 (fun h => n16 (by omega)), fun e16 => ⟨fun n2 => bl 4 ?_ (by decide), fun e2 => k45 q1 (fun h => (hx.1.2 h.2) e2)⟩⟩
    unfold zt_ck
    rw [if_neg (fun h => h q1), if_pos (Or.inl ⟨by omega, hx.1.1 n2⟩)]
  have b1 : ¬ (t.1 = 31 ∨ (16 ≤ t.1 ∧ t.1 ≤ 21)) → zt_ck X t.1 = 1 := fun q => by
    unfold zt_ck
    rw [if_pos q]
  refine c_Rea_checkStart ?_
  rw [h2]
  exact ⟨fun q => both (by omega), fun q => ⟨fun q2 => bl 1 (b1 (by omega)) (by decide), fun q2 => ⟨fun q3 => both (by omega), fun q3 => bl 1 (b1 (by omega)) (by decide)⟩⟩⟩
theorem zt_xl_s {X : zt_X} {w : Nat} {l : List (Int × Int)} (hw : w = 16 ∨ w = 17) : (((zt_xl X w l).2.2 false).isSome = true ↔ (X.2.2 false).isSome = true ∨ w = 16) ∧ (((zt_xl X w l).2.2 true).isSome = true ↔ (X.2.2 true).isSome = true ∨ w = 17) := by
  rcases hw with rfl | rfl <;> simp [zt_xl]
theorem sp_textK (hb : zt_by f len) (hk : k = 26 ∨ k = 30 ∨ k = 34 ∨ k = 38) {μ0 : zk_M} : ∀ (n : Nat) (X : zt_X) (t : zt_T) (ν : zk_M) (x3 : Int), n ≤ 301 → x3 = 301 - (n : Int) → zt_xf k μ0 ν → zt_at ν f len t → zt_tf len t → zt_XK ν k X → zt_XF ν X → X.2.1.length ≤ t.2.2.1 → len + 1 ≤ t.2.2.1 + n → ((zt_text (zt_tok f len) n X t).1 ≠ 0 → ∀ ν', zt_xf k μ0 ν' → ν' 44 0 = (zt_text (zt_tok f len) n X t).1 → ν' 44 1 = ((zt_text (zt_tok f len) n X t).2.1 : Int) → BV ν') → ((zt_text (zt_tok f len) n X t).1 = 0 → ∀ ν', zt_xf k μ0 ν' → ν' 44 0 = 0 → ν' 44 1 = -1 → zt_XK ν' k (zt_text (zt_tok f len) n X t).2.2 → BV ν') → zk_K 42 30 [.inr (.inr (.inl 44)), .inr (.inr (.inl 42)), .inr (.inr (.inl k)), .inl x3, .inr (.inr (.inr 0))] [] ν (zk_RV BV) := by
  have hlen := hb.1
  have ex30 : ∀ (x3 : Int) (ν : zk_M), ν 44 0 ≠ 0 → BV ν → zk_K 42 30 [.inr (.inr (.inl 44)), .inr (.inr (.inl 42)), .inr (.inr (.inl k)), .inl x3, .inr (.inr (.inr 0))] [] ν (zk_RV BV) := fun x3 ν n h => t_Rea_read_30 hk ⟨fun _ => h, fun _ => ⟨fun _ => h, fun q => absurd q n⟩⟩
  have ex77 : ∀ (x3 x4 : Int) (ν : zk_M), -1 ≤ x3 → x3 ≤ 301 → ν 44 0 ≠ 0 → BV ν → zk_K 42 77 [.inr (.inr (.inl 44)), .inr (.inr (.inl 42)), .inr (.inr (.inl k)), .inl x3, .inl x4] [] ν (zk_RV BV) := fun x3 x4 ν a b n h => t_Rea_read_77 hk ⟨fun _ => ⟨fun _ => ⟨⟨by omega, by omega⟩, ex30 _ ν n h⟩, fun q => absurd q n⟩, fun q => absurd q n⟩
  intro n
  induction n with
  | zero =>
    intro X t ν x3 _ _ _ _ ht _ _ _ hf
    have := ht.1
    omega
  | succ n ih =>
    intro X t ν x3 hn hx hz ha ht hX hS hl hf hF hT
    have h2 : ν 42 2 = (t.1 : Int) := ha.2.2.2.1
    rw [zt_text] at hF hT
    refine t_Rea_read_30 hk ⟨fun q => by omega, fun _ => ⟨fun q => absurd ha.1 q, fun _ => ⟨fun e0 => ?_, fun e0 => ?_⟩⟩⟩
    · rw [if_pos (by omega)] at hT
      exact hT rfl ν hz ha.1 ha.2.1 hX
    · have n0 : t.1 ≠ 0 := by omega
      rw [if_neg n0] at hF hT
      rw [h2]
      have chk : ∀ r : Int, (r = 0 ↔ X.1.length < 24) → zk_C 44 [.inr (.inr (.inl 44)), .inr (.inr (.inl 42)), .inl r] ν (zk_RV fun μ5 => (¬ (μ5 44 0) = 0 → (zk_K 42 77 [.inr (.inr (.inl 44)), .inr (.inr (.inl 42)), .inr (.inr (.inl k)), .inl x3, .inl (t.1 : Int)] [] μ5 (zk_RV BV))) ∧ ((μ5 44 0) = 0 → (zk_C 107 [.inr (.inr (.inl 42))] μ5 (zk_RV fun μ6 => zk_K 42 77 [.inr (.inr (.inl 44)), .inr (.inr (.inl 42)), .inr (.inr (.inl k)), .inl x3, .inl (t.1 : Int)] [] μ6 (zk_RV BV))))) := fun r hr => by
        refine sp_chk ha hS hr (fun e ν1 z e1 e2 => ?_) (fun e ν1 z zi z2 z3 => ?_)
        · rw [if_pos e] at hF
          exact ⟨fun q => ex77 _ _ ν1 (by omega) (by omega) q (hF e ν1 (hz.tr ⟨z.up (by simp), by rw [z 42 (by simp)]⟩) e1 e2), fun q => absurd (e1.symm.trans q) e⟩
        · rw [if_neg (fun q => q e)] at hF hT
          have a1 : zt_at ν1 f len t := ha.cg (z 42 (by simp)) (z 43 (by simp)) (zi 0 (by decide) (by decide)) (zi 1 (by decide) (by decide))
          refine ⟨fun q => absurd a1.1 q, fun _ => sp_adv hb a1 ht n0 (fun ν2 y a2 t2 lt => ?_)⟩
          have ck : (t.1 = 31 ∨ (16 ≤ t.1 ∧ t.1 ≤ 21)) ∧ X.1.length < 24 := by
            unfold zt_ck at e
            refine ⟨?_, ?_⟩
            · by_cases c : t.1 = 31 ∨ (16 ≤ t.1 ∧ t.1 ≤ 21)
              · exact c
              · rw [if_pos c] at e
                exact absurd e (by decide)
            · by_cases c : 24 ≤ X.1.length
              · rw [if_pos c] at e
                split at e
                · exact absurd e (by decide)
                · split at e
                  · exact absurd e (by decide)
                  · exact absurd e (by decide)
              · omega
          have zz : zt_xf k ν ν2 := ⟨(z.up (by simp)).tr (y.1.up (by simp)), by rw [y.2.2, z 42 (by simp)]⟩
          have X2 : zt_XK ν2 k X := by
            unfold zt_XK
            rw [y.1 k (by simp; omega), y.1 (k + 1) (by simp; omega), y.1 (k + 2) (by simp; omega), z k (by simp; omega), z (k + 1) (by simp; omega), z (k + 2) (by simp; omega)]
            exact hX
          have s2 : ν2 44 2 ≠ 0 ↔ (X.2.2 false).isSome = true ∨ t.1 = 16 := by rw [y.2.1 2 (by decide)]; exact z2
          have s3 : ν2 44 3 ≠ 0 ↔ (X.2.2 true).isSome = true ∨ t.1 = 17 := by rw [y.2.1 3 (by decide)]; exact z3
          by_cases hw : t.1 = 16 ∨ t.1 = 17
          · rw [if_pos hw] at hF hT
            have L : zk_C 48 [.inr (.inr (.inl 44)), .inr (.inr (.inl 42)), .inr (.inr (.inl k)), .inl (t.1 : Int)] ν2 (zk_RV fun μ8 => ((-2147483648 : Int) ≤ (x3 + 1) ∧ ((x3 + 1) : Int) ≤ 2147483647) ∧ (zk_K 42 30 [.inr (.inr (.inl 44)), .inr (.inr (.inl 42)), .inr (.inr (.inl k)), .inl (x3 + 1), .inr (.inr (.inr 0))] [] μ8 (zk_RV BV))) := by
              refine sp_lawC hb hk hw X2 ck.2 a2 t2 (by omega) (fun e ν' z' e0 e1 => ⟨⟨by omega, by omega⟩, ex30 _ ν' (by rw [e0]; exact e) ?_⟩) (fun e ν' z' a' t' X' f2 f3 l' lt' => ⟨⟨by omega, by omega⟩, ?_⟩)
              · rw [if_pos e] at hF
                exact hF e ν' (hz.tr (zz.tr z')) e0 e1
              · rw [if_neg (fun q => q e)] at hF hT
                have xs := zt_xl_s (X := X) (l := (zt_law (zt_tok f len) (decide (t.1 = 17)) 301 true [] false [] (zt_tok f len t.2.2.2)).2.2.1) hw
                exact ih _ _ ν' (x3 + 1) (by omega) (by omega) (hz.tr (zz.tr z')) a' t' X' ⟨by rw [f2]; exact s2.trans xs.1.symm, by rw [f3]; exact s3.trans xs.2.symm⟩ l' (by omega) hF hT
            exact t_Rea_read_77 hk ⟨fun q => absurd a2.1 q, fun _ => ⟨fun _ => L, fun n16 => ⟨fun n17 => by omega, fun _ => L⟩⟩⟩
          · rw [if_neg hw] at hF hT
            have D : zk_C 45 [.inr (.inr (.inl 44)), .inr (.inr (.inl 42)), .inr (.inr (.inl k)), .inl (t.1 : Int)] ν2 (zk_RV fun μ8 => ((-2147483648 : Int) ≤ (x3 + 1) ∧ ((x3 + 1) : Int) ≤ 2147483647) ∧ (zk_K 42 30 [.inr (.inr (.inl 44)), .inr (.inr (.inl 42)), .inr (.inr (.inl k)), .inl (x3 + 1), .inr (.inr (.inr 0))] [] μ8 (zk_RV BV))) := by
              refine sp_readDeed (w := t.1) (n := X.1.length) hb hk X2.1 ck.2 a2 t2 ⟨fun e ν' z' e0 e1 => ⟨⟨by omega, by omega⟩, ex30 _ ν' (by rw [e0]; exact e) ?_⟩, fun e ν' z' a' t' k0 kp p1 p2 p3 p4 => ⟨⟨by omega, by omega⟩, ?_⟩⟩
              · rw [if_pos e] at hF
                exact hF e ν' (hz.tr (zz.tr ⟨z'.1.up (by simp), z'.2.2.2⟩)) e0 e1
              · rw [if_neg (fun q => q e)] at hF hT
                have lt' := (zt_deed_t t2 e).2
                refine ih _ _ ν' (x3 + 1) (by omega) (by omega) (hz.tr (zz.tr ⟨z'.1.up (by simp), z'.2.2.2⟩)) a' t' ⟨?_, fun j q hq => ?_, ?_, ?_, ?_, ?_, ?_, ?_⟩ ⟨?_, ?_⟩ ?_ (by omega) hF hT
                · rw [k0]
                  show _ = (((X.1 ++ [_]).length : Nat) : Int)
                  rw [List.length_append, List.length_singleton]
                  rfl
                · rcases zt_snoc hq with ⟨h1, h2⟩ | ⟨rfl, rfl⟩
                  · rw [kp _ (by omega), kp _ (by omega), kp _ (by omega), kp _ (by omega)]
                    exact X2.2.1 j q h2
                  · exact ⟨p1, p2, p3, p4⟩
                · rw [z'.2.1 3 (by decide)]; exact X2.2.2.1
                · rw [z'.1 (k + 2) (by simp; omega)]; exact X2.2.2.2.1
                · rw [z'.2.1 4 (by decide)]; exact X2.2.2.2.2.1
                · rw [z'.2.1 5 (by decide)]; exact X2.2.2.2.2.2.1
                · rw [z'.2.1 6 (by decide)]; exact X2.2.2.2.2.2.2.1
                · rw [z'.2.1 7 (by decide)]; exact X2.2.2.2.2.2.2.2
                · rw [z'.2.2.1 2 (by decide)]
                  exact s2.trans ⟨fun h => h.elim id (fun q => by omega), Or.inl⟩
                · rw [z'.2.2.1 3 (by decide)]
                  exact s3.trans ⟨fun h => h.elim id (fun q => by omega), Or.inl⟩
                · show X.2.1.length ≤ _
                  omega
            exact t_Rea_read_77 hk ⟨fun q => absurd a2.1 q, fun _ => ⟨fun e16 => by omega, fun n16 => ⟨fun n17 => ⟨fun q => absurd a2.1 q, fun _ => D⟩, fun e17 => by omega⟩⟩⟩
      exact c_Scr_isFull hk ⟨fun q => chk 0 (by have := hX.1; omega), fun q => chk 1 (by have := hX.1; omega)⟩
end
