/-! the reference's work on a law *-/
theorem sp_workK {BV : zk_M → Prop} {nm : Int → Int} (hnm : ∀ i : Int, 0 ≤ i → i < 5 → -1000000 ≤ nm i ∧ nm i ≤ 1000000) {c b : Nat} (hc3 : c + 2 < 2720) (hb : b + 604 ≤ 2720) : ∀ (l : List (Int × Int)) (i : Nat) (μ : zk_M) (T V : List Int) (p : Nat × Nat), (∀ (j : Nat) (q : Int × Int), l[j]? = some q → μ 63 ((b : Int) + 2 * ((i : Int) + j)) = q.1 ∧ μ 63 ((b : Int) + 2 * ((i : Int) + j) + 1) = q.2) → i + l.length ≤ 302 → μ 63 ((c : Int) + 2) = ((i + l.length : Nat) : Int) → zx_ty l (T.length, V.length) = some p → T.length + V.length ≤ 32 → zv_ok (T, V) → zr (μ 67) V.length V → zr (μ 68) T.length T → (∀ n : Int, 0 ≤ n → n < 5 → μ 66 n = nm n) → (∀ μ', zq [67, 68] μ μ' → zr (μ' 67) (zv_run nm l (T, V)).2.length (zv_run nm l (T, V)).2 → zr (μ' 68) (zv_run nm l (T, V)).1.length (zv_run nm l (T, V)).1 → p = ((zv_run nm l (T, V)).1.length, (zv_run nm l (T, V)).2.length) → zv_ok (zv_run nm l (T, V)) → BV μ') → zk_K 197 38 [.inr (.inr (.inl 60)), .inr (.inr (.inr 0)), .inr (.inr (.inr 0)), .inl (c : Int), .inl (b : Int), .inl (V.length : Int), .inl (T.length : Int), .inl (i : Int), .inr (.inr (.inr 0)), .inr (.inr (.inr 0))] [] μ (zk_RV BV)
  | [], i, μ, T, V, p, _, _, hto, hty, _, hok, hv, ht, _, hB => by
    injection hty with hty
    refine t_Mod_work_38 ⟨by omega, by omega, fun _ => hB μ (zq.rf _ _) hv ht hty.symm hok, fun q => absurd (Int.le_of_eq hto) q⟩
  | q :: l, i, μ, T, V, p, hc, hi, hto, hty, h32, hok, hv, ht, hn, hB => by
    obtain ⟨o1, o2⟩ := hc 0 q rfl
    rw [show (i : Int) + ((0 : Nat) : Int) = (i : Int) by omega] at o1 o2
    have e1 : i + (q :: l).length = i + 1 + l.length := by simp only [List.length_cons]; omega
    rw [e1] at hi hto
    unfold zx_ty at hty
    cases hq : zx_ok1 q (T.length, V.length) with
    | none => rw [hq] at hty; exact absurd hty (by simp)
    | some p' =>
      rw [hq] at hty
      simp only at hty
      split at hty
      case isFalse => exact absurd hty (by simp)
      case isTrue hle =>
      have go : ∀ (T' V' : List Int) (ν : zk_M) (dv dt : Int), zv_st nm q (T, V) = (T', V') → p' = (T'.length, V'.length) → zq [67, 68] μ ν → zv_ok (T', V') → zr (ν 67) V'.length V' → zr (ν 68) T'.length T' → dv = (V'.length : Int) → dt = (T'.length : Int) → zk_K 197 346 [.inr (.inr (.inl 60)), .inr (.inr (.inr 0)), .inr (.inr (.inr 0)), .inl (c : Int), .inl (b : Int), .inl dv, .inl dt, .inl (i : Int), .inr (.inr (.inr 0)), .inr (.inr (.inr 0))] [] ν (zk_RV BV) := fun T' V' ν dv dt g1 g2 g3 g4 g5 g6 g7 g8 => by
        subst g7 g8
        refine t_Mod_work_346 ⟨by omega, sp_workK hnm hc3 hb l (i + 1) ν T' V' p (fun j q' hj => ?_) hi (by rw [g3 63 (by decide)]; exact hto) (by rw [← g2]; exact hty) (by rw [g2] at hle; exact hle) g4 g5 g6 (fun n n1 n2 => by rw [g3 66 (by decide)]; exact hn n n1 n2) (fun μ' z k1 k2 k3 k4 => hB μ' (g3.tr z) ?_ ?_ ?_ ?_)⟩
        · rw [g3 63 (by decide)]
          have := hc (j + 1) q' hj
          rw [show (((i + 1 : Nat) : Int) + (j : Int)) = (i : Int) + ((j + 1 : Nat) : Int) by push_cast; omega]
          exact this
        · rw [zv_run_c, g1]; exact k1
        · rw [zv_run_c, g1]; exact k2
        · rw [zv_run_c, g1]; exact k3
        · rw [zv_run_c, g1]; exact k4
      refine t_Mod_work_38 ⟨by omega, by omega, fun e => by omega, fun _ => ⟨by omega, by omega, by omega, by omega, by omega, by omega, by omega, ?_⟩⟩
      rw [o1, o2]
      rcases zx_ok1_some hq with a | a | a | a | a | a | a
      · obtain ⟨a1, a2, a3, a4⟩ := a
        rw [a4] at hle
        simp only at hle
        refine ⟨fun e => by omega, fun _ => ⟨fun e => absurd a1 e, fun _ => ⟨by omega, by omega, go T (q.2 :: V) _ _ _ (by simp [zv_st, a1]) (by rw [a4]; rfl) ((zq.rf _ _).set (by decide) _ _) ⟨hok.1, ?_⟩ (zr_push hv (zk_set_s _ _ _ _) (fun i hi => zk_set_n (by omega))) (by rw [zk_set_o (by decide)]; exact ht) (by simp only [List.length_cons]; push_cast; omega) rfl⟩⟩⟩
        intro x hx
        rcases List.mem_cons.mp hx with rfl | hx
        · omega
        · exact hok.2 x hx
      · obtain ⟨a1, a2, a3, a4⟩ := a
        rw [a4] at hle
        simp only at hle
        have hm := hnm q.2 (by omega) (by omega)
        rw [hn q.2 (by omega) (by omega)]
        refine ⟨fun e => by omega, fun _ => ⟨fun _ => ⟨by omega, by omega, by omega, go T (nm q.2 :: V) _ _ _ (by simp [zv_st, a1]) (by rw [a4]; rfl) ((zq.rf _ _).set (by decide) _ _) ⟨hok.1, ?_⟩ (zr_push hv (zk_set_s _ _ _ _) (fun i hi => zk_set_n (by omega))) (by rw [zk_set_o (by decide)]; exact ht) (by simp only [List.length_cons]; push_cast; omega) rfl⟩, fun e => by omega⟩⟩
        intro x hx
        rcases List.mem_cons.mp hx with rfl | hx
        · exact hm
        · exact hok.2 x hx
      · obtain ⟨a1, a2, a3⟩ := a
        match V, a2, a3, hv, hok, hle, go, hB with
        | v :: V, _, a3, hv, hok, hle, go, _ =>
          obtain ⟨z1, z2⟩ := zr_top (n := V.length) hv
          rw [a3] at hle
          simp only [List.length_cons] at hle
          have hw := hok.2 v List.mem_cons_self
          have ed : (((v :: V).length : Nat) : Int) - 1 = (V.length : Int) := by simp only [List.length_cons]; omega
          refine ⟨fun _ => ⟨fun e => absurd a1 e, fun _ => ?_⟩, fun e => by omega⟩
          rw [ed, z1]
          refine ⟨by omega, by omega, by omega, by unfold zk_rJ; omega, by omega, go T (-v :: V) _ _ _ (by simp [zv_st, a1]) (by rw [a3]; rfl) ((zq.rf _ _).set (by decide) _ _) ⟨hok.1, ?_⟩ (zr_push z2 (zk_set_s _ _ _ _) (fun i hi => zk_set_n (by omega))) (by rw [zk_set_o (by decide)]; exact ht) rfl rfl⟩
          intro x hx
          rcases List.mem_cons.mp hx with rfl | hx
          · omega
          · exact hok.2 x (List.mem_cons_of_mem _ hx)
      · obtain ⟨a1, a2, a3, a4⟩ := a
        match V, a3, a4, hv, hok, hle, go, hB with
        | y :: v :: V, _, a4, hv, hok, hle, go, _ =>
          obtain ⟨z1, z2⟩ := zr_top (n := V.length + 1) hv
          obtain ⟨z3, z4⟩ := zr_top (n := V.length) z2
          rw [a4] at hle
          simp only [List.length_cons] at hle
          have hy := hok.2 y List.mem_cons_self
          have hw := hok.2 v (List.mem_cons_of_mem _ List.mem_cons_self)
          have ed : (((y :: v :: V).length : Nat) : Int) + (-1) = ((V.length + 1 : Nat) : Int) := by simp only [List.length_cons]; omega
          have ed2 : ((V.length + 1 : Nat) : Int) - 1 = (V.length : Int) := by omega
          refine ⟨fun _ => ⟨fun _ => ⟨fun e => by omega, fun _ => ?_⟩, fun e => by omega⟩, fun e => by omega⟩
          rw [ed, ed2, z1, z3]
          refine ⟨by omega, by omega, by omega, by omega, by omega, sp_two ⟨a1, a2⟩ hw hy ⟨by omega, go T (zv_op q.1 v y :: V) _ _ _ ?_ (by rw [a4]; simp) ((zq.rf _ _).set (by decide) _ _) ⟨hok.1, ?_⟩ (zr_push z4 (zk_set_s _ _ _ _) (fun i hi => zk_set_n (by omega))) (by rw [zk_set_o (by decide)]; exact ht) rfl rfl⟩⟩
          · simp only [zv_st]
            rw [if_neg (by omega), if_neg (by omega), if_neg (by omega), if_pos (by omega)]
          · intro x hx
            rcases List.mem_cons.mp hx with rfl | hx
            · exact zv_op_r q.1 hw
            · exact hok.2 x (List.mem_cons_of_mem _ (List.mem_cons_of_mem _ hx))
      · obtain ⟨a1, a2, a3, a4⟩ := a
        match V, a3, a4, hv, hok, hle, go, hB with
        | [y, v], _, a4, hv, hok, hle, go, _ =>
          obtain ⟨z1, z2⟩ := zr_top (n := 1) hv
          obtain ⟨z3, z4⟩ := zr_top (n := 0) z2
          rw [a4] at hle
          simp only at hle
          have ed : ((([y, v] : List Int).length : Nat) : Int) + (-2) = ((0 : Nat) : Int) := by simp
          have ed2 : ((0 : Nat) : Int) + 1 = ((1 : Nat) : Int) := by simp
          refine ⟨fun _ => ⟨fun _ => ⟨fun _ => ⟨fun e => by omega, fun _ => ?_⟩, fun e => by omega⟩, fun e => by omega⟩, fun e => by omega⟩
          rw [ed, ed2, z1, z3]
          have fin : (fun r2 μ1 => ((0 : Int) ≤ (T.length : Int) ∧ ((T.length : Int) : Int) < 330) ∧ (((r2 : Int) = 0 ∨ (r2 : Int) = 1) ∧ (((-2147483648 : Int) ≤ ((T.length : Int) + 1) ∧ (((T.length : Int) + 1) : Int) ≤ 2147483647) ∧ (zk_K 197 346 [.inr (.inr (.inl 60)), .inr (.inr (.inr 0)), .inr (.inr (.inr 0)), .inl (c : Int), .inl (b : Int), .inl ((0 : Nat) : Int), .inl ((T.length : Int) + 1), .inl (i : Int), .inr (.inr (.inr 0)), .inr (.inr (.inr 0))] [] (zk_set μ1 68 (T.length : Int) r2) (zk_RV BV))))) (zv_cmp q.1 v y) μ := by
            refine ⟨by omega, zv_cmp_r _ _ _, by omega, go (zv_cmp q.1 v y :: T) [] _ _ _ ?_ (by rw [a4]; simp) ((zq.rf _ _).set (by decide) _ _) ⟨?_, fun x hx => absurd hx (by simp)⟩ rfl (zr_push ht (zk_set_s _ _ _ _) (fun i hi => zk_set_n (by omega))) rfl rfl⟩
            · simp only [zv_st]
              rw [if_neg (by omega), if_neg (by omega), if_neg (by omega), if_neg (by omega), if_pos (by omega)]
            · intro x hx
              rcases List.mem_cons.mp hx with rfl | hx
              · exact zv_cmp_r q.1 v y
              · exact hok.1 x hx
          refine ⟨by omega, by omega, by omega, by omega, sp_asked ⟨a1, a2⟩ (fun w => ?_) (fun w => ?_)⟩
          · rw [zv_cmp, w] at fin
            exact fin
          · rw [zv_cmp, w] at fin
            exact fin
      · obtain ⟨a1, a2, a3, a4⟩ := a
        match V, T, a2, a3, a4, hv, ht, hok, hle, go, hB with
        | [], t :: T, _, _, a4, hv, ht, hok, hle, go, _ =>
          obtain ⟨z1, z2⟩ := zr_top (n := T.length) ht
          rw [a4] at hle
          simp only [List.length_cons] at hle
          have hw := hok.1 t List.mem_cons_self
          have ed : (((t :: T).length : Nat) : Int) - 1 = (T.length : Int) := by simp only [List.length_cons]; omega
          have ok' : zv_ok ((1 - t) :: T, []) := ⟨fun x hx => by
            rcases List.mem_cons.mp hx with rfl | hx
            · omega
            · exact hok.1 x (List.mem_cons_of_mem _ hx), fun x hx => absurd hx (by simp)⟩
          refine ⟨fun _ => ⟨fun _ => ⟨fun _ => ⟨fun _ => ⟨fun e => absurd a1 e, fun _ => ?_⟩, fun e => by omega⟩, fun e => by omega⟩, fun e => by omega⟩, fun e => by omega⟩
          rw [ed, z1]
          refine ⟨by omega, by omega, by omega, fun w => ⟨by omega, go ((1 - t) :: T) [] _ _ _ (by simp [zv_st, a1]) (by rw [a4]; rfl) ((zq.rf _ _).set (by decide) _ _) ok' (by rw [zk_set_o (by decide)]; exact hv) (zr_push z2 (by rw [zk_set_s]; omega) (fun i hi => zk_set_n (by omega))) rfl rfl⟩, fun w => ⟨by omega, go ((1 - t) :: T) [] _ _ _ (by simp [zv_st, a1]) (by rw [a4]; rfl) ((zq.rf _ _).set (by decide) _ _) ok' (by rw [zk_set_o (by decide)]; exact hv) (zr_push z2 (by rw [zk_set_s]; omega) (fun i hi => zk_set_n (by omega))) rfl rfl⟩⟩
      · obtain ⟨a1, a2, a3, a4⟩ := a
        match V, T, a2, a3, a4, hv, ht, hok, hle, go, hB with
        | [], y :: v :: T, _, _, a4, hv, ht, hok, hle, go, _ =>
          obtain ⟨z1, z2⟩ := zr_top (n := T.length + 1) ht
          obtain ⟨z3, z4⟩ := zr_top (n := T.length) z2
          rw [a4] at hle
          simp only [List.length_cons] at hle
          have hy := hok.1 y List.mem_cons_self
          have hw := hok.1 v (List.mem_cons_of_mem _ List.mem_cons_self)
          have ed : (((y :: v :: T).length : Nat) : Int) + (-1) = ((T.length + 1 : Nat) : Int) := by simp only [List.length_cons]; omega
          have ed2 : ((T.length + 1 : Nat) : Int) - 1 = (T.length : Int) := by omega
          have fin : ∀ r : Int, r = (if q.1 = 21 then (if v = 0 then 0 else y) else (if v = 0 then y else v)) → zk_K 197 345 [.inr (.inr (.inl 60)), .inr (.inr (.inr 0)), .inr (.inr (.inr 0)), .inl (c : Int), .inl (b : Int), .inl ((([] : List Int).length : Nat) : Int), .inl ((T.length + 1 : Nat) : Int), .inl (i : Int), .inr (.inr (.inr 0)), .inr (.inr (.inr 0))] [.inl r, .inl (T.length : Int), .inr (.inr (.inl 68))] μ (zk_RV BV) := fun r hr => by
            have r01 : r = 0 ∨ r = 1 := by
              rw [hr]
              rcases a1 with w | w <;> simp [w] <;> split <;> simp_all
            refine t_Mod_work_345 ⟨by omega, r01, go (r :: T) [] _ _ _ ?_ (by rw [a4]; simp) ((zq.rf _ _).set (by decide) _ _) ⟨?_, fun x hx => absurd hx (by simp)⟩ (by rw [zk_set_o (by decide)]; exact hv) (zr_push z4 (zk_set_s _ _ _ _) (fun i hi => zk_set_n (by omega))) rfl rfl⟩
            · rw [hr]
              rcases a1 with w | w <;> simp [zv_st, w]
            · intro x hx
              rcases List.mem_cons.mp hx with rfl | hx
              · exact r01
              · exact hok.1 x (List.mem_cons_of_mem _ (List.mem_cons_of_mem _ hx))
          refine ⟨fun _ => ⟨fun _ => ⟨fun _ => ⟨fun _ => ⟨fun _ => ?_, fun e => by omega⟩, fun e => by omega⟩, fun e => by omega⟩, fun e => by omega⟩, fun e => by omega⟩
          rw [ed, ed2, z1, z3]
          refine ⟨by omega, by omega, fun e => ⟨by omega, by omega, fun w => fin 1 ?_, fun w => ⟨by omega, fun u => fin 0 ?_, fun u => fin 1 ?_⟩⟩, fun e => ⟨by omega, by omega, fun w => fin 0 ?_, fun w => ⟨by omega, fun u => fin 0 ?_, fun u => fin 1 ?_⟩⟩⟩
          · rw [if_neg e, if_neg w]; omega
          · rw [if_neg e, if_pos w, u]
          · rw [if_neg e, if_pos w]; omega
          · rw [if_pos e, if_pos w]
          · rw [if_pos e, if_neg w, u]
          · rw [if_pos e, if_neg w]; omega
