/-! the reference reads a sum: the loop *-/
theorem zt_st_le (r : Nat) : ∀ (W : List Nat) (l : List (Int × Int)), (zt_st r W l).1.length ≤ W.length
  | [], _ => Nat.le_refl _
  | s :: W, l => by
    rw [zt_st]
    split
    · exact Nat.le_trans (zt_st_le r W _) (Nat.le_succ _)
    · exact Nat.le_refl _
section
variable {BV : zk_M → Prop} {B : Int → zk_M → Prop} {f : Nat → Int} {len b : Nat} {g cmp : Bool}
theorem sp_sumK {D : List Nat} {o0 : List (Int × Int)} {μ0 : zk_M} (hb : zt_by f len) (hbb : b ≤ 2040) (hD : ∀ s D', D = s :: D' → zt_rk s < 6) (hD0 : zt_br D = 0) : ∀ (n : Nat) (due : Bool) (A : List Nat) (l : List (Int × Int)) (t : zt_T) (ν : zk_M), zt_g b μ0 ν → zt_S ν b g f len A (zt_op D) (o0 ++ l) t → ν 60 19 = (if due then 0 else 1) → zt_ar A → (due = false → ∀ A', A ≠ 32 :: A') → zt_I g due (A ++ D) cmp l → zt_tf len t → o0.length + l.length + A.length + D.length ≤ t.2.2.1 → len + 1 ≤ t.2.2.1 + n → (due = true → g = true → zt_ask (A ++ D) = true → t.1 ≠ 26) → ((zt_law (zt_tok f len) g n due (A ++ D) cmp l t).1 ≠ 0 → ∀ ν', zt_g b μ0 ν' → ν' 60 8 = ((zt_law (zt_tok f len) g n due (A ++ D) cmp l t).2.1 : Int) → B (zt_law (zt_tok f len) g n due (A ++ D) cmp l t).1 ν') → (∀ (n' : Nat) (l' : List (Int × Int)) (t' : zt_T) (ν' : zk_M), zt_law (zt_tok f len) g n due (A ++ D) cmp l t = zt_law (zt_tok f len) g n' false D cmp l' t' → zt_g b μ0 ν' → zt_S ν' b g f len [] (zt_op D) (o0 ++ l') t' → zt_I g false D cmp l' → zt_tf len t' → o0.length + l'.length + D.length ≤ t'.2.2.1 → len + 1 ≤ t'.2.2.1 + n' → ¬ (9 ≤ t'.1 ∧ t'.1 ≤ 12) → t.2.2.1 ≤ t'.2.2.1 → B 0 ν') → zk_K 180 10 [.inr (.inr (.inl 60)), .inr (.inr (.inr 0))] [] ν (zk_RI B) := by
  have hlen := hb.1
  have hD8 : ∀ s D', D = s :: D' → zt_rk s < 8 := fun s D' e => by have := hD s D' e; omega
  have hD7 : ∀ s D', D = s :: D' → zt_rk s < 7 := fun s D' e => by have := hD s D' e; omega
  intro n
  induction n with
  | zero =>
    intro due A l t ν _ _ _ _ _ _ ht _ hf
    have := ht.1
    omega
  | succ n ih =>
    intro due A l t ν hz hS h19 ha h32 hI ht hl hf h26 hF hT
    have hS0 := hS
    obtain ⟨hP, hM, h18, h20, hR0, hR⟩ := hS
    obtain ⟨k, k0, k1, k2, k3, k4, k5, k6, k7, k8, c3, c4, c5, c6, c7, c8, k9⟩ := zt_tk9 hR.2.2
    have hAl : (A ++ D).length ≤ 29 := zt_I_len hI
    rw [List.length_append] at hAl
    have hop : zt_op (A ++ D) ≤ 8 := hI.2.1
    rw [zt_op_app] at hop
    have hwA : zt_wok A := zt_wok_l hI.1
    have R8 : ν 60 8 = (t.2.2.1 : Int) := hR.1
    have htl := ht.1
    have oln : (o0 ++ l).length = o0.length + l.length := List.length_append
    cases due with
    | true =>
      have h19 : ν 60 19 = 0 := h19
      rw [zt_law] at hF hT
      have val : ∀ q : Int × Int, ((q.1 = 0 ∧ 0 ≤ q.2 ∧ q.2 ≤ 9999) ∨ (q.1 = 1 ∧ 0 ≤ q.2 ∧ q.2 ≤ 4 ∧ (g = false → q.2 < 4))) → t.1 ≠ 0 → zt_law (zt_tok f len) g (n + 1) true (A ++ D) cmp l t = zt_law (zt_tok f len) g n false (A ++ D) cmp (l ++ [q]) (zt_tok f len t.2.2.2) → zk_C 170 [.inr (.inr (.inl 60)), .inl q.1, .inl q.2] ν (zk_RV fun μ18 => zk_C 164 [.inr (.inr (.inl 60))] μ18 (zk_RV fun μ19 => zk_C 172 [.inr (.inr (.inl 60))] μ19 (zk_RV fun μ20 => ((0 : Int) = 0 → zk_K 180 10 [.inr (.inr (.inl 60)), .inr (.inr (.inr 0))] [] μ20 (zk_RI B)) ∧ (¬ (0 : Int) = 0 → B 0 μ20)))) := fun q hq n0 e => by
        have nx := zt_tok_a (f := f) ht n0
        rw [zt_law] at e
        rw [e] at hF hT
        refine sp_emitS hbb hS0 (by omega) (fun ν1 z1 _ S1 => sp_nextS hb S1 ht (fun ν2 z2 _ S2 => sp_wholeS hbb S2 ha (by omega) (by omega) (by omega) (by rw [List.length_append, List.length_singleton]; omega) (fun ν3 z3 e19 S3 => ⟨fun _ => ?_, fun q => absurd rfl q⟩)))
        have so := zt_st_o 8 o0 A (l ++ [q])
        rw [List.append_assoc, so.1, so.2] at S3
        have I1 := zt_I_st (r := 8) (by decide) (zt_I_v hI hq)
        have ln := zt_st_ln 8 A (l ++ [q])
        rw [List.length_append, List.length_singleton] at ln
        rw [zt_law_8 (A ++ D) (l ++ [q]), zt_st_D hD8] at hF hT
        rw [zt_st_D hD8] at I1
        exact ih false _ _ _ ν3 (hz.tr (z1.tr (z2.tr z3))) S3 e19 (fun s hs => ha s (zt_st_m 8 A _ s hs)) (fun _ A' e => absurd (zt_st_hd 8 A _ 32 A' e) (by decide)) I1 nx.1 (by omega) (by omega) (fun q => absurd q (by decide)) hF (fun n' l' t' ν' e z S I tf h1 h2 h3 h4 => hT n' l' t' ν' e z S I tf h1 h2 h3 (by omega))
      have opn : ∀ s : Nat, (s = 13 ∨ s = 32 ∨ (s = 26 ∧ g = true ∧ zt_ask (A ++ D) = true)) → (s = 13 ∨ s = 32) → t.1 ≠ 0 → ¬ 8 ≤ zt_op (A ++ D) → zt_law (zt_tok f len) g (n + 1) true (A ++ D) cmp l t = zt_law (zt_tok f len) g n true (s :: (A ++ D)) cmp l (zt_tok f len t.2.2.2) → zk_C 171 [.inr (.inr (.inl 60)), .inl (zt_ro s)] (zk_set ν 60 18 (ν 60 18 + 1)) (zk_RV fun μ3 => zk_C 164 [.inr (.inr (.inl 60))] μ3 (zk_RV fun μ4 => ((0 : Int) = 0 → zk_K 180 10 [.inr (.inr (.inl 60)), .inr (.inr (.inr 0))] [] μ4 (zk_RI B)) ∧ (¬ (0 : Int) = 0 → B 0 μ4))) := fun s hs0 hs n0 h8 e => by
        have nx := zt_tok_a (f := f) ht n0
        rw [zt_law] at e
        rw [e] at hF hT
        have n1 : ∀ i : Int, i ≠ 18 → zk_set ν 60 18 (ν 60 18 + 1) 60 i = ν 60 i := fun i hi => zk_set_n hi
        have g1 : zt_g b ν (zk_set ν 60 18 (ν 60 18 + 1)) := zt_g_60 b ν (by omega) _
        refine sp_pushM (b := b) (hP.cg (n1 17 (by decide)) (zk_set_o (by decide))) (by omega) (fun ν1 z1 y1 e63 e64 P1 => ?_)
        have S1 : zt_S ν1 b g f len (s :: A) (zt_op D) (o0 ++ l) t := ⟨P1, hM.cg (by rw [y1 12 (by decide), n1 12 (by decide)]) (by rw [y1 14 (by decide), n1 14 (by decide)]) (by rw [e63, zk_set_o (by decide)]), by rw [y1 18 (by decide), zk_set_s, h18, zt_op, if_pos (by omega)]; omega, by rw [y1 20 (by decide), n1 20 (by decide)]; exact h20, hR0.g (g1.tr z1), hR.cg (fun i h1 h2 => by rw [y1 i (by omega), n1 i (by omega)])⟩
        refine sp_nextS hb S1 ht (fun ν2 z2 e19 S2 => ⟨fun _ => ?_, fun q => absurd rfl q⟩)
        refine ih true (s :: A) l _ ν2 (hz.tr (g1.tr (z1.tr z2))) S2 (by rw [e19, y1 19 (by decide), n1 19 (by decide)]; exact h19) (fun x hx => ?_) (fun q => absurd q (by decide)) (zt_I_o hI hs0 h8) nx.1 (by rw [List.length_cons]; omega) (by omega) (fun _ _ q => ?_) hF (fun n' l' t' ν' e z S I tf h1 h2 h3 h4 => hT n' l' t' ν' e z S I tf h1 h2 h3 (by omega))
        · rcases List.mem_cons.mp hx with e | e
          · omega
          · exact ha x e
        · have q : decide (s = 24 ∨ s = 25 ∨ s = 26) = true := q
          have := of_decide_eq_true q
          omega
      refine t_Mod_summed_10 ⟨fun _ => ⟨fun _ => c_Mod_beginOne ⟨fun q1 => sp_name hR ?_, fun q1 => ?_⟩, fun q => absurd h19 q⟩, fun q => absurd h19 q⟩
      · have n2 : t.1 ≠ 2 := fun e => q1 (k1.2 e)
        rw [if_neg n2] at hF hT
        by_cases hn : 27 ≤ t.1 ∧ t.1 ≤ 31
        · rw [if_pos hn]
          rw [if_pos hn] at hF hT
          refine ⟨fun q => by omega, fun _ => sp_name hR ?_⟩
          rw [if_pos hn]
          have good : ¬ (t.1 = 31 ∧ g = false) → ∀ q : Int, q = 0 → ((q = 0 → zk_C 174 [.inr (.inr (.inl 60))] ν (zk_RI fun r14 μ13 => zk_C 170 [.inr (.inr (.inl 60)), .inl 1, .inl r14] μ13 (zk_RV fun μ15 => zk_C 164 [.inr (.inr (.inl 60))] μ15 (zk_RV fun μ16 => zk_C 172 [.inr (.inr (.inl 60))] μ16 (zk_RV fun μ17 => ((0 : Int) = 0 → zk_K 180 10 [.inr (.inr (.inl 60)), .inr (.inr (.inr 0))] [] μ17 (zk_RI B)) ∧ (¬ (0 : Int) = 0 → B 0 μ17)))))) ∧ (¬ q = 0 → ((5 : Int) = 0 → zk_K 180 10 [.inr (.inr (.inl 60)), .inr (.inr (.inr 0))] [] ν (zk_RI B)) ∧ (¬ (5 : Int) = 0 → B 5 ν))) := fun hg q hq => by
            refine ⟨fun _ => sp_name hR ?_, fun q2 => absurd hq q2⟩
            rw [if_pos hn]
            exact val (1, (t.1 : Int) - 27) (Or.inr ⟨rfl, by show 0 ≤ (t.1 : Int) - 27; omega, by show (t.1 : Int) - 27 ≤ 4; omega, fun hg' => by show (t.1 : Int) - 27 < 4; have : t.1 ≠ 31 := fun e => hg ⟨e, hg'⟩; omega⟩) (by omega) (by rw [zt_law, if_neg n2, if_pos hn, if_neg hg])
          refine c_Mod_isBarred ⟨fun n4 => good (fun e => by omega) 0 rfl, fun e4 => ⟨fun n20 => good (fun e => ?_) 0 rfl, fun e20 => ⟨fun q => absurd q (by decide), fun _ => ⟨fun q => absurd q (by decide), fun _ => ?_⟩⟩⟩⟩
          · rw [h20, e.2] at n20
            exact n20 rfl
          · have hg : g = false := by
              cases g
              · rfl
              · rw [h20] at e20
                exact absurd e20 (by decide)
            rw [if_pos ⟨by omega, hg⟩] at hF
            exact hF (show ¬ (5 : Int) = 0 by decide) ν hz R8
        · rw [if_neg hn]
          rw [if_neg hn] at hF hT
          refine ⟨fun _ => ⟨fun n40 => ⟨fun n45 => ⟨fun q => absurd rfl q, fun _ => ⟨fun q => absurd q (by decide), fun _ => ?_⟩⟩, fun e45 => ⟨fun _ => ⟨fun n8 => ⟨by omega, ?_⟩, fun e8 => ⟨fun q => absurd q (by decide), fun _ => ?_⟩⟩, fun q => absurd q (by decide)⟩⟩, fun e40 => ⟨fun _ => ⟨fun n8 => ⟨by omega, ?_⟩, fun e8 => ⟨fun q => absurd q (by decide), fun _ => ?_⟩⟩, fun q => absurd q (by decide)⟩⟩, fun q => by omega⟩
          · rw [if_neg (show ¬ (t.1 = 13 ∨ t.1 = 10 ∨ (t.1 = 26 ∧ g = true ∧ zt_ask (A ++ D) = true)) from ?_)] at hF
            · exact hF (show ¬ (1 : Int) = 0 by decide) ν hz R8
            · rintro (e | e | e)
              · exact n40 (k2.2 e)
              · exact n45 (k3.2 e)
              · exact h26 rfl e.2.1 e.2.2 e.1
          · have e := k3.1 e45
            have hw : t.1 = 13 ∨ t.1 = 10 ∨ (t.1 = 26 ∧ g = true ∧ zt_ask (A ++ D) = true) := Or.inr (Or.inl e)
            have h8 : ¬ 8 ≤ zt_op (A ++ D) := by
              rw [zt_op_app]
              omega
            exact opn 32 (Or.inr (Or.inl rfl)) (Or.inr rfl) (by omega) h8 (by rw [zt_law, if_neg n2, if_neg hn, if_pos hw, if_neg h8, if_pos e])
          · have e := k3.1 e45
            have h8 : 8 ≤ zt_op (A ++ D) := by
              rw [zt_op_app]
              omega
            rw [if_pos (Or.inr (Or.inl e)), if_pos h8] at hF
            exact hF (show ¬ (3 : Int) = 0 by decide) ν hz R8
          · have e := k2.1 e40
            have hw : t.1 = 13 ∨ t.1 = 10 ∨ (t.1 = 26 ∧ g = true ∧ zt_ask (A ++ D) = true) := Or.inl e
            have h8 : ¬ 8 ≤ zt_op (A ++ D) := by
              rw [zt_op_app]
              omega
            exact opn 13 (Or.inl rfl) (Or.inl rfl) (by omega) h8 (by rw [zt_law, if_neg n2, if_neg hn, if_pos hw, if_neg h8, if_neg (by omega), e])
          · have e := k2.1 e40
            have h8 : 8 ≤ zt_op (A ++ D) := by
              rw [zt_op_app]
              omega
            rw [if_pos (Or.inl e), if_pos h8] at hF
            exact hF (show ¬ (3 : Int) = 0 by decide) ν hz R8
      · have e2 := k1.1 q1
        have rt : 0 ≤ ν 60 10 ∧ t.2.1 = min (ν 60 10) 10000 := by
          rcases hR.2.2 with h | h | h | h | h
          · omega
          · exact ⟨h.2.2.1, h.2.2.2.2⟩
          · omega
          · omega
          · omega
        rw [if_pos e2] at hF hT
        refine ⟨fun q => ?_, fun q => ⟨fun q => absurd q (by decide), fun _ => ?_⟩⟩
        · have e3 : ν 60 10 = t.2.1 := by omega
          rw [e3]
          rw [e3] at q rt
          exact val (0, t.2.1) (Or.inl ⟨rfl, rt.1, q⟩) (by omega) (by rw [zt_law, if_pos e2, if_neg (by omega)])
        · rw [if_pos (by omega)] at hF
          exact hF (show ¬ (2 : Int) = 0 by decide) ν hz R8
    | false =>
      have h19 : ν 60 19 = 1 := h19
      have h32 := h32 rfl
      refine t_Mod_summed_10 ⟨fun q => absurd (h19.symm.trans q) (by decide), fun _ => sp_goesOn hP hR ha (by omega) ?_⟩
      by_cases hg : (9 ≤ t.1 ∧ t.1 ≤ 12) ∨ (t.1 = 14 ∧ 0 < zt_br A)
      · rw [if_pos hg]
        have cf : zt_cf g (A ++ D) cmp t.1 = true := by
          unfold zt_cf
          by_cases q : 9 ≤ t.1 ∧ t.1 ≤ 12
          · rw [if_pos q]
          · rw [if_neg q, if_pos (by rw [zt_br_app]; omega)]
            exact decide_eq_true (by omega)
        have n0 : t.1 ≠ 0 := by omega
        have nx := zt_tok_a (f := f) ht n0
        obtain ⟨s1, s14, _, so⟩ := zt_sgn hI cf
        have opr : ∀ (x : Int) (r s : Nat) (BV : zk_M → Prop), ((x = 3 ∧ r = 6) ∨ (x = 5 ∧ r = 7)) → t.1 = s → zt_rk s = r → (9 ≤ s ∧ s ≤ 12) → (∀ μ1, zk_C 171 [.inr (.inr (.inl 60)), .inl (zt_ro s)] μ1 (zk_RV fun μ2 => zk_C 164 [.inr (.inr (.inl 60))] (zk_set μ2 60 19 0) (zk_RV fun μ3 => ((0 : Int) = 0 → zk_K 180 10 [.inr (.inr (.inl 60)), .inr (.inr (.inr 0))] [] μ3 (zk_RI B)) ∧ (¬ (0 : Int) = 0 → B 0 μ3))) → BV μ1) → zk_C 173 [.inr (.inr (.inl 60)), .inl x] ν (zk_RV BV) := fun x r s BV hx hs hr hs2 hB => by
          have hDr : ∀ s D', D = s :: D' → zt_rk s < r := fun s D' e => by have := hD s D' e; omega
          have cm : zt_cm cmp s = cmp := by
            unfold zt_cm
            rw [if_neg (by omega), if_neg (by omega)]
          have le : zt_law (zt_tok f len) g (n + 1) false (A ++ D) cmp l t = zt_law (zt_tok f len) g n true ((s :: (zt_st r A l).1) ++ D) cmp (zt_st r A l).2 (zt_tok f len t.2.2.2) := by
            rw [zt_law, if_neg (by rw [cf]; decide), if_neg (by omega), if_neg (by omega), hs, hr, zt_st_D hDr, cm]
            rfl
          rw [le] at hF hT
          refine sp_settleS hbb hx hS0 ha hwA (by omega) h32 (by omega) (fun ν1 z1 e19 S1 => hB ν1 ?_)
          have sto := zt_st_o r o0 A l
          rw [sto.1, sto.2] at S1
          have ln := zt_st_ln r A l
          have le0 := zt_st_le r A l
          have I1 := so (by omega) (by omega)
          rw [hs, hr, zt_st_D hDr, cm] at I1
          obtain ⟨P1, M1, a18, a20, R01, R1⟩ := S1
          refine sp_pushM (b := b) (s := s) P1 (by omega) (fun ν2 z2 y2 e63 e64 P2 => ?_)
          have g3 : zt_g b ν2 (zk_set ν2 60 19 0) := zt_g_60 b ν2 (by omega) _
          have n3 : ∀ i : Int, i ≠ 19 → zk_set ν2 60 19 0 60 i = ν2 60 i := fun i hi => zk_set_n hi
          have S3 : zt_S (zk_set ν2 60 19 0) b g f len (s :: (zt_st r A l).1) (zt_op D) (o0 ++ (zt_st r A l).2) t := ⟨P2.cg (n3 17 (by decide)) (zk_set_o (by decide)), M1.cg (by rw [n3 12 (by decide), y2 12 (by decide)]) (by rw [n3 14 (by decide), y2 14 (by decide)]) (by rw [zk_set_o (by decide), e63]), by rw [n3 18 (by decide), y2 18 (by decide), a18, zt_op, if_neg (by omega)]; rfl, by rw [n3 20 (by decide), y2 20 (by decide)]; exact a20, R01.g (z2.tr g3), R1.cg (fun i h1 h2 => by rw [n3 i (by omega), y2 i (by omega)])⟩
          refine sp_nextS hb S3 ht (fun ν4 z4 e19' S4 => ⟨fun _ => ?_, fun q => absurd rfl q⟩)
          refine ih true (s :: (zt_st r A l).1) _ _ ν4 (hz.tr (z1.tr (z2.tr (g3.tr z4)))) S4 (by rw [e19']; exact zk_set_s _ _ _ _) (fun x hx => ?_) (fun q => absurd q (by decide)) I1 nx.1 (by rw [List.length_cons]; omega) (by omega) (fun _ _ q => ?_) hF (fun n' l' t' ν' e z S I tf h1 h2 h3 h4 => hT n' l' t' ν' e z S I tf h1 h2 h3 (by omega))
          · rcases List.mem_cons.mp hx with e | e
            · omega
            · exact ha x (zt_st_m r A l x e)
          · have q : decide (s = 24 ∨ s = 25 ∨ s = 26) = true := q
            have := of_decide_eq_true q
            omega
        refine ⟨fun q => absurd q (by decide), fun _ => ⟨fun q => absurd (h19.symm.trans q) (by decide), fun _ => c_Mod_behindOne ⟨fun e43 => ?_, fun n43 => ⟨fun n45 => ⟨fun e42 => ?_, fun n42 => ⟨fun n47 => ?_, fun e47 => ?_⟩⟩, fun e45 => ?_⟩⟩⟩⟩
        · exact opr 3 6 9 _ (Or.inl ⟨rfl, rfl⟩) (k4.1 e43) rfl (by decide) (fun μ1 h => ⟨fun q => absurd e43 q, fun _ => h⟩)
        · exact opr 5 7 11 _ (Or.inr ⟨rfl, rfl⟩) (k5.1 e42) rfl (by decide) (fun μ1 h => ⟨fun q => absurd e42 q, fun _ => h⟩)
        · have e14 : t.1 = 14 ∧ 0 < zt_br A := by
            have a9 : t.1 ≠ 9 := fun e => n43 (k4.2 e)
            have a10 : t.1 ≠ 10 := fun e => n45 (k3.2 e)
            have a11 : t.1 ≠ 11 := fun e => n42 (k5.2 e)
            have a12 : t.1 ≠ 12 := fun e => n47 (k6.2 e)
            omega
          have k14 : zt_rk t.1 = 1 := by
            rw [e14.1]
            rfl
          obtain ⟨st1, A', eA⟩ := zt_st_61 (D := D) l ha e14.2
          have le : zt_law (zt_tok f len) g (n + 1) false (A ++ D) cmp l t = zt_law (zt_tok f len) g n false ((zt_st 8 A' (zt_st 6 A l).2).1 ++ D) cmp (zt_st 8 A' (zt_st 6 A l).2).2 (zt_tok f len t.2.2.2) := by
            rw [zt_law, if_neg (by rw [cf]; decide), if_pos e14.1, k14, st1, eA]
            refine (zt_law_8 (A' ++ D) (zt_st 6 A l).2).trans ?_
            rw [zt_st_D hD8]
          rw [le] at hF hT
          obtain ⟨W', w1, w2⟩ := s14 e14.1
          rw [k14, st1, eA] at w1 w2
          have eW : A' ++ D = W' := (List.cons.inj w1).2
          rw [← eW] at w2
          have I1 := zt_I_st (r := 8) (by decide) w2
          rw [zt_st_D hD8] at I1
          have ln := zt_st_ln 6 A l
          have le0 := zt_st_le 6 A l
          have ln8 := zt_st_ln 8 A' (zt_st 6 A l).2
          rw [eA, List.length_cons] at ln le0
          have hw13 : 13 ∈ A := zt_br_mem.1 e14.2
          have arA : zt_ar A' := fun s hs => ha s (zt_st_m 6 A l s (by rw [eA]; exact List.mem_cons_of_mem _ hs))
          refine sp_settleS hbb (Or.inl ⟨rfl, rfl⟩) hS0 ha hwA (by omega) h32 (by omega) (fun ν1 z1 e19 S1 => ?_)
          have sto := zt_st_o 6 o0 A l
          rw [sto.1, sto.2, eA] at S1
          obtain ⟨P1, M1, a18, a20, R01, R1⟩ := S1
          have opA := zt_op_st (r := 6) (Or.inl rfl) l ha hwA h32
          rw [eA] at opA
          rw [zt_op, if_pos (by decide)] at a18 opA
          have t17 := (zt_P_top P1).1
          rw [t17, a18]
          refine ⟨by omega, by omega, ?_⟩
          have g2 : zt_g b ν1 (zk_set (zk_set ν1 60 17 ((A'.length : Int) + 1 - 1)) 60 18 (((zt_op A' + 1 : Nat) : Int) + (zt_op D : Int) - 1)) := (zt_g_60 b ν1 (by omega) _).tr (zt_g_60 b _ (by omega) _)
          have n2 : ∀ i : Int, i ≠ 17 → i ≠ 18 → zk_set (zk_set ν1 60 17 ((A'.length : Int) + 1 - 1)) 60 18 (((zt_op A' + 1 : Nat) : Int) + (zt_op D : Int) - 1) 60 i = ν1 60 i := fun i h1 h2 => by rw [zk_set_n h2, zk_set_n h1]
          have S2 : zt_S (zk_set (zk_set ν1 60 17 ((A'.length : Int) + 1 - 1)) 60 18 (((zt_op A' + 1 : Nat) : Int) + (zt_op D : Int) - 1)) b g f len A' (zt_op D) (o0 ++ (zt_st 6 A l).2) t := ⟨zt_P_pop P1 (by rw [zk_set_n (by decide), zk_set_s]; omega) (by rw [zk_set_o (by decide), zk_set_o (by decide)]), M1.cg (n2 12 (by decide) (by decide)) (n2 14 (by decide) (by decide)) (by rw [zk_set_o (by decide), zk_set_o (by decide)]), by rw [zk_set_s]; omega, by rw [n2 20 (by decide) (by decide)]; exact a20, R01.g g2, R1.cg (fun i h1 h2 => n2 i (by omega) (by omega))⟩
          refine sp_wholeS hbb S2 arA (by omega) (by omega) (by omega) (by rw [List.length_append]; omega) (fun ν3 z3 e19 S3 => sp_nextS hb S3 ht (fun ν4 z4 e19' S4 => ⟨fun _ => ?_, fun q => absurd rfl q⟩))
          have sto8 := zt_st_o 8 o0 A' (zt_st 6 A l).2
          rw [sto8.1, sto8.2] at S4
          exact ih false _ _ _ ν4 (hz.tr (z1.tr (g2.tr (z3.tr z4)))) S4 (by rw [e19']; exact e19) (fun s hs => arA s (zt_st_m 8 A' _ s hs)) (fun _ A'' e => absurd (zt_st_hd 8 A' _ 32 A'' e) (by decide)) I1 nx.1 (by omega) (by omega) (fun q => absurd q (by decide)) hF (fun n' l' t' ν' e z S I tf h1 h2 h3 h4 => hT n' l' t' ν' e z S I tf h1 h2 h3 (by omega))
        · exact opr 5 7 12 _ (Or.inr ⟨rfl, rfl⟩) (k6.1 e47) rfl (by decide) (fun μ1 h => ⟨fun _ => h, fun q => absurd q n42⟩)
        · exact opr 3 6 10 _ (Or.inl ⟨rfl, rfl⟩) (k3.1 e45) rfl (by decide) (fun μ1 h => ⟨fun _ => h, fun q => absurd q n43⟩)
      · rw [if_neg hg]
        refine ⟨fun _ => sp_settleS hbb (Or.inl ⟨rfl, rfl⟩) hS0 ha hwA (by omega) h32 (by omega) (fun ν1 z1 e19 S1 => ?_), fun q => absurd rfl q⟩
        have sto := zt_st_o 6 o0 A l
        rw [sto.1, sto.2] at S1
        have ln := zt_st_ln 6 A l
        by_cases h0 : zt_br A = 0
        · have e0 := zt_st_60 l ha h0
          rw [e0] at S1 ln
          have I1 := zt_I_st (r := 6) (by decide) hI
          rw [zt_st_D hD, e0] at I1
          have ln : (zt_st 6 A l).2.length + 0 = l.length + A.length := ln
          refine ⟨fun _ => hT (n + 1) _ t ν1 (zt_law_6 hD ha h0 (by omega)) (hz.tr z1) S1 I1 ht (by omega) (by omega) (by omega) (Nat.le_refl _), fun q => absurd ?_ q⟩
          rw [S1.1.1]
          decide
        · obtain ⟨_, A', eA⟩ := zt_st_61 (D := D) l ha (by omega)
          rw [eA] at S1
          have t17 := (zt_P_top S1.1).1
          refine ⟨fun q => by omega, fun _ => ?_⟩
          rw [zt_law, if_pos] at hF
          · exact hF (show ¬ (1 : Int) = 0 by decide) ν1 (hz.tr z1) S1.2.2.2.2.2.1
          · unfold zt_cf
            rw [if_neg (by omega), if_pos (by rw [zt_br_app]; omega)]
            exact decide_eq_false (by omega)
end
