/-! the reference reads a sum *-/
def zt_S (ν : zk_M) (b : Nat) (g : Bool) (f : Nat → Int) (len : Nat) (A : List Nat) (d : Nat) (o : List (Int × Int)) (t : zt_T) : Prop := zt_P ν A ∧ zt_M ν b o ∧ ν 60 18 = (zt_op A : Int) + d ∧ ν 60 20 = (if g then 1 else 0) ∧ zt_R0 ν f len ∧ zt_R ν t
theorem zt_R.cg {μ ν : zk_M} {t : zt_T} (h : zt_R μ t) (e : ∀ i : Int, 7 ≤ i → i ≤ 11 → ν 60 i = μ 60 i) : zt_R ν t := by
  unfold zt_R at *
  rw [e 7 (by decide) (by decide), e 8 (by decide) (by decide), e 9 (by decide) (by decide), e 10 (by decide) (by decide), e 11 (by decide) (by decide)]
  exact h
theorem zt_R0.g {μ ν : zk_M} {b : Nat} {f : Nat → Int} {len : Nat} (h : zt_R0 μ f len) (z : zt_g b μ ν) : zt_R0 ν f len := ⟨by rw [z.2.1 4 (by decide)]; exact h.1, fun i hi => by rw [z.1 64 (by decide)]; exact h.2 i hi⟩
theorem zt_br_mem : ∀ {A : List Nat}, 0 < zt_br A ↔ 13 ∈ A
  | [] => by simp [zt_br]
  | s :: A => by
    rw [zt_br, List.mem_cons, ← zt_br_mem (A := A)]
    split <;> omega
theorem zt_op_st {r : Nat} (hr : r = 6 ∨ r = 7) : ∀ {A : List Nat} (o : List (Int × Int)), zt_ar A → zt_wok A → (∀ A', A ≠ 32 :: A') → zt_op (zt_st r A o).1 = zt_op A
  | [], _, _, _, _ => rfl
  | s :: A, o, ha, hw, h => by
    rw [zt_st]
    split
    · rename_i q
      have hs := zt_ark (ha s List.mem_cons_self)
      have n32 : s ≠ 32 := fun e => h A (by rw [e])
      have e : 9 ≤ s ∧ s ≤ 12 ∧ zt_rk s ≤ 7 := by omega
      rw [zt_op_st hr _ (fun x hx => ha x (List.mem_cons_of_mem _ hx)) hw.1 (fun A' q => ?_), zt_op, if_neg (by omega)]
      · rfl
      · have hw2 := hw.2
        rw [q] at hw2
        unfold zt_adj at hw2
        have k32 : zt_rk 32 = 8 := by decide
        omega
    · rfl
section
variable {μ : zk_M} {BV : zk_M → Prop} {B : Int → zk_M → Prop} {f : Nat → Int} {len b d : Nat} {g cmp : Bool} {A : List Nat} {o : List (Int × Int)} {t : zt_T}
theorem sp_nextS (hb : zt_by f len) (h : zt_S μ b g f len A d o t) (ht : zt_tf len t) (hB : ∀ ν, zt_g b μ ν → ν 60 19 = μ 60 19 → zt_S ν b g f len A d o (zt_tok f len t.2.2.2) → BV ν) : zk_C 164 [.inr (.inr (.inl 60))] μ (zk_RV BV) := by
  obtain ⟨hP, hM, h18, h20, hR0, hR⟩ := h
  exact sp_nextTok hb hR0 ht.2.1 hR.2.1 (fun ν z r => hB ν z.g (z.2 19 (by decide)) ⟨hP.cg (z.2 17 (by decide)) (z.1 65 (by decide)), hM.cg (z.2 12 (by decide)) (z.2 14 (by decide)) (z.1 63 (by decide)), by rw [z.2 18 (by decide)]; exact h18, by rw [z.2 20 (by decide)]; exact h20, zt_R0_q hR0 z, r⟩)
theorem sp_emitS {x1 x2 : Int} (hbb : b ≤ 2040) (h : zt_S μ b g f len A d o t) (ho : o.length ≤ 301) (hB : ∀ ν, zt_g b μ ν → ν 60 19 = μ 60 19 → zt_S ν b g f len A d (o ++ [(x1, x2)]) t → BV ν) : zk_C 170 [.inr (.inr (.inl 60)), .inl x1, .inl x2] μ (zk_RV BV) := by
  obtain ⟨hP, hM, h18, h20, hR0, hR⟩ := h
  exact sp_emit hbb hM ho (fun ν z y e65 e64 M => hB ν z (y 19 (by decide)) ⟨hP.cg (y 17 (by decide)) e65, M, by rw [y 18 (by decide)]; exact h18, by rw [y 20 (by decide)]; exact h20, hR0.g z, hR.cg (fun i h1 h2 => y i (by omega))⟩)
theorem sp_wholeS (hbb : b ≤ 2040) (h : zt_S μ b g f len A d o t) (ha : zt_ar A) (hl : A.length ≤ 150) (hop : zt_op A ≤ 8) (hd : d ≤ 8) (ho : o.length + A.length ≤ 302) (hB : ∀ ν, zt_g b μ ν → ν 60 19 = 1 → zt_S ν b g f len (zt_st 8 A o).1 d (zt_st 8 A o).2 t → BV ν) : zk_C 172 [.inr (.inr (.inl 60))] μ (zk_RV BV) := by
  obtain ⟨hP, hM, h18, h20, hR0, hR⟩ := h
  have n : ∀ i : Int, i ≠ 19 → zk_set μ 60 19 1 60 i = μ 60 i := fun i hi => zk_set_n hi
  have g1 : zt_g b μ (zk_set μ 60 19 1) := zt_g_60 b μ (by omega) _
  refine c_Mod_whole (sp_wholeK (d := (d : Int)) hbb A o _ (hP.cg (n 17 (by decide)) (zk_set_o (by decide))) (hM.cg (n 12 (by decide)) (n 14 (by decide)) (zk_set_o (by decide))) ha hl hop (by omega) (by omega) ho (by rw [n 18 (by decide)]; exact h18) (fun ν z y e18 P M => ?_))
  exact hB ν (g1.tr z) (by rw [y 19 (by decide) (by decide) (by decide)]; exact zk_set_s _ _ _ _) ⟨P, M, e18, by rw [y 20 (by decide) (by decide) (by decide), n 20 (by decide)]; exact h20, hR0.g (g1.tr z), hR.cg (fun i h1 h2 => by rw [y i (by omega) (by omega) (by omega), n i (by omega)])⟩
theorem sp_settleS {x : Int} {r : Nat} (hbb : b ≤ 2040) (hx : (x = 3 ∧ r = 6) ∨ (x = 5 ∧ r = 7)) (h : zt_S μ b g f len A d o t) (ha : zt_ar A) (hw : zt_wok A) (hl : A.length ≤ 150) (h32 : ∀ A', A ≠ 32 :: A') (ho : o.length + A.length ≤ 302) (hB : ∀ ν, zt_g b μ ν → ν 60 19 = μ 60 19 → zt_S ν b g f len (zt_st r A o).1 d (zt_st r A o).2 t → BV ν) : zk_C 173 [.inr (.inr (.inl 60)), .inl x] μ (zk_RV BV) := by
  obtain ⟨hP, hM, h18, h20, hR0, hR⟩ := h
  refine c_Mod_settle (sp_settleM hbb hx A o μ hP hM ha hw hl h32 ho (fun ν z y P M => ?_))
  exact hB ν z (y 19 (by decide) (by decide)) ⟨P, M, by rw [y 18 (by decide) (by decide), zt_op_st (by omega) o ha hw h32]; exact h18, by rw [y 20 (by decide) (by decide)]; exact h20, hR0.g z, hR.cg (fun i h1 h2 => by rw [y i (by omega) (by omega)])⟩
theorem sp_hasParen (hP : zt_P μ A) (ha : zt_ar A) (hl : A.length ≤ 150) (hB : B (if 0 < zt_br A then 1 else 0) μ) : zk_C 177 [.inr (.inr (.inl 60))] μ (zk_RI B) := by
  have fin : ∀ r : Int, r = (if 0 < zt_br A then 1 else 0) → B r μ := fun r hr => by rw [hr]; exact hB
  have at_ : ∀ j : Nat, j < A.length → ∃ s, A[A.length - 1 - j]? = some s ∧ s ∈ A ∧ μ 65 (j : Int) = zt_ro s := fun j hj => by
    have hx : A.length - 1 - j < A.length := by omega
    refine ⟨A[A.length - 1 - j], List.getElem?_eq_getElem hx, List.getElem_mem _, ?_⟩
    rw [← hP.2 _ _ (List.getElem?_eq_getElem hx)]
    congr 1
    omega
  have lp : ∀ n, n ≤ A.length → ((∀ j : Nat, j < n → μ 65 (j : Int) ≠ 40) → zk_K 177 2 [.inr (.inr (.inl 60)), .inl (n : Int)] [] μ (zk_RI B)) := by
    refine zl_up (fun hn => ?_) (fun n hn ih hp => ?_)
    · refine t_Mod_hasParen_2 ⟨fun _ => fin 0 ?_, fun q => absurd (by rw [hP.1]; exact Int.le_refl _) q⟩
      rw [if_neg]
      intro h
      obtain ⟨i, hi⟩ := List.getElem?_of_mem (zt_br_mem.1 h)
      have hi' : i < A.length := (List.getElem?_eq_some_iff.1 hi).1
      have := hP.2 i 13 hi
      refine hn (A.length - 1 - i) (by omega) ?_
      rw [← show zt_ro 13 = 40 from rfl, ← this]
      congr 1
      omega
    · obtain ⟨s, h1, h2, h3⟩ := at_ n hn
      refine t_Mod_hasParen_2 ⟨fun q => by rw [hP.1] at q; omega, fun _ => ⟨by omega, fun q => ⟨by omega, ih (fun j hj => ?_)⟩, fun q => fin 1 ?_⟩⟩
      · by_cases e : j = n
        · rw [e]
          exact q
        · exact hp j (by omega)
      · rw [if_pos]
        have e : s = 13 := by
          rw [h3] at q
          rcases (show s = 13 ∨ s = 32 ∨ s = 9 ∨ s = 10 ∨ s = 11 ∨ s = 12 by have := ha s h2; omega) with e | e | e | e | e | e
          · exact e
          all_goals
            rw [e] at q
            exact absurd q (by decide)
        rw [e] at h2
        exact zt_br_mem.2 h2
  exact c_Mod_hasParen (lp 0 (Nat.zero_le _) (fun j hj => absurd hj (Nat.not_lt_zero _)))
theorem sp_goesOn (hP : zt_P μ A) (hR : zt_R μ t) (ha : zt_ar A) (hl : A.length ≤ 150) (hB : B (if (9 ≤ t.1 ∧ t.1 ≤ 12) ∨ (t.1 = 14 ∧ 0 < zt_br A) then 1 else 0) μ) : zk_C 178 [.inr (.inr (.inl 60))] μ (zk_RI B) := by
  obtain ⟨k, k0, k1, k2, k3, k4, k5, k6, k7, k8, c3, c4, c5, c6, c7, c8, k9⟩ := zt_tk9 hR.2.2
  have fin : ∀ r : Int, r = (if (9 ≤ t.1 ∧ t.1 ≤ 12) ∨ (t.1 = 14 ∧ 0 < zt_br A) then 1 else 0) → B r μ := fun r hr => by rw [hr]; exact hB
  refine c_Mod_goesOn ⟨fun q => fin 1 (by rw [if_pos]; have := k4.1 q; omega), fun q1 => ⟨fun q => fin 1 (by rw [if_pos]; have := k3.1 q; omega), fun q2 => ⟨fun q => fin 1 (by rw [if_pos]; have := k5.1 q; omega), fun q3 => ⟨fun q => fin 1 (by rw [if_pos]; have := k6.1 q; omega), fun q4 => ⟨fun q => fin 0 ?_, fun q => sp_hasParen hP ha hl ?_⟩⟩⟩⟩⟩
  · rw [if_neg]
    omega
  · have e := k7.1 q
    by_cases h : 0 < zt_br A
    · rw [if_pos h]
      exact ⟨fun q => absurd q (by decide), fun _ => fin 1 (by rw [if_pos (Or.inr ⟨e, h⟩)])⟩
    · rw [if_neg h]
      exact ⟨fun _ => fin 0 (by rw [if_neg (by omega)]), fun q => absurd rfl q⟩
end
