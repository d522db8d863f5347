section
variable {k : Nat} {B : Int → zk_M → Prop} {μ : zk_M}
theorem run_103 (hk : k = 26 ∨ k = 30 ∨ k = 34 ∨ k = 38) {to d t : Int} {i : Nat} (h1 : (i : Int) < to) (h2 : i < 300) (ht : zk_xor (μ (k + 2) (i : Int)) (-1) = t) (hr : 0 ≤ t ∧ (t < 27 ∨ 32 ≤ t) ∧ t ≤ 100) (h : zk_K 79 103 [.inr (.inr (.inl k)), .inr (.inr (.inr 0)), .inl to, .inr (.inr (.inl 24)), .inl d, .inl (i : Int), .inl t, .inr (.inr (.inr 0)), .inr (.inr (.inr 0))] [] μ (zk_RI B)) : zk_K 79 10 [.inr (.inr (.inl k)), .inr (.inr (.inr 0)), .inl to, .inr (.inr (.inl 24)), .inl d, .inl (i : Int), .inr (.inr (.inr 0)), .inr (.inr (.inr 0)), .inr (.inr (.inr 0))] [] μ (zk_RI B) := by
  refine t_Scr_run_10 hk ⟨fun q => by omega, fun _ => ⟨fun q => by omega, fun _ => ?_⟩⟩
  rw [ht]
  exact ⟨by omega, by omega, fun q => by omega, fun _ => ⟨fun _ => h, fun _ => ⟨fun _ => h, fun q => by omega⟩⟩⟩
theorem run_61 (hk : k = 26 ∨ k = 30 ∨ k = 34 ∨ k = 38) {to d t : Int} {i : Nat} (h1 : (i : Int) < to) (h2 : i < 300) (ht : zk_xor (μ (k + 2) (i : Int)) (-1) = t) (hr : t < 0 ∧ -100000 ≤ t ∨ 27 ≤ t ∧ t < 32) (h : zk_K 79 61 [.inr (.inr (.inl k)), .inr (.inr (.inr 0)), .inl to, .inr (.inr (.inl 24)), .inl d, .inl (i : Int), .inl t, .inl (t - 27), .inr (.inr (.inr 0))] [] μ (zk_RI B)) : zk_K 79 10 [.inr (.inr (.inl k)), .inr (.inr (.inr 0)), .inl to, .inr (.inr (.inl 24)), .inl d, .inl (i : Int), .inr (.inr (.inr 0)), .inr (.inr (.inr 0)), .inr (.inr (.inr 0))] [] μ (zk_RI B) := by
  refine t_Scr_run_10 hk ⟨fun q => by omega, fun _ => ⟨fun q => by omega, fun _ => ?_⟩⟩
  rw [ht]
  exact ⟨by omega, by omega, fun _ => h, fun _ => ⟨fun q => by omega, fun _ => ⟨fun q => by omega, fun _ => h⟩⟩⟩
theorem run_push (hk : k = 26 ∨ k = 30 ∨ k = 34 ∨ k = 38) {to d t x : Int} {i : Nat} (h2 : i < 300) (hd : 0 ≤ d ∧ d < 32) (hx : (t < 0 ∧ μ (k + 2) (i : Int) = x) ∨ (27 ≤ t ∧ t < 32 ∧ μ 24 (t - 27) = x)) (h : zk_K 79 201 [.inr (.inr (.inl k)), .inr (.inr (.inr 0)), .inl to, .inr (.inr (.inl 24)), .inl (d + 1), .inl (i : Int), .inr (.inr (.inr 0)), .inr (.inr (.inr 0)), .inr (.inr (.inr 0))] [] (zk_set μ (k + 3) d x) (zk_RI B)) : zk_K 79 61 [.inr (.inr (.inl k)), .inr (.inr (.inr 0)), .inl to, .inr (.inr (.inl 24)), .inl d, .inl (i : Int), .inl t, .inl (t - 27), .inr (.inr (.inr 0))] [] μ (zk_RI B) := by
  refine t_Scr_run_61 hk ⟨fun q => by omega, fun _ => ⟨fun q => ⟨by omega, by omega, by omega, ?_⟩, fun q => ⟨by omega, by omega, by omega, ?_⟩⟩⟩
  · rcases hx with ⟨a, _⟩ | ⟨_, _, a⟩
    · omega
    · rw [a]
      exact h
  · rcases hx with ⟨_, a⟩ | ⟨b, _, _⟩
    · rw [a]
      exact h
    · omega
end
theorem zv_run_c {nm : Int → Int} {q : Int × Int} {l : List (Int × Int)} {s : List Int × List Int} : zv_run nm (q :: l) s = zv_run nm l (zv_st nm q s) := rfl
theorem sp_runK {k : Nat} (hk : k = 26 ∨ k = 30 ∨ k = 34 ∨ k = 38) {B : Int → zk_M → Prop} {nm : Int → Int} {m : Int} (hm5 : m ≤ 5) (hnm : ∀ i : Int, 0 ≤ i → i < m → -1000000 ≤ nm i ∧ nm i ≤ 1000000) : ∀ (l : List (Int × Int)) (i : Nat) (μ : zk_M) (T V : List Int) (p : Nat × Nat), (∀ q ∈ l, q.1 = 1 → q.2 < m) → (∀ (j : Nat) (q : Int × Int), l[j]? = some q → μ (k + 2) ((i : Int) + j) = zx_enc q) → i + l.length ≤ 300 → zx_ty l (T.length, V.length) = some p → p.1 + p.2 = 1 → T.length + V.length ≤ 32 → zv_ok (T, V) → zr (μ (k + 3)) (V.length + T.length) (V ++ T) → (∀ n : Int, 0 ≤ n → n < m → μ 24 n = nm n) → (∀ μ' x, zq [k + 3] μ μ' → (zv_run nm l (T, V)).2 ++ (zv_run nm l (T, V)).1 = [x] → p = ((zv_run nm l (T, V)).1.length, (zv_run nm l (T, V)).2.length) → B x μ') → zk_K 79 10 [.inr (.inr (.inl k)), .inr (.inr (.inr 0)), .inl ((i + l.length : Nat) : Int), .inr (.inr (.inl 24)), .inl ((V.length + T.length : Nat) : Int), .inl (i : Int), .inr (.inr (.inr 0)), .inr (.inr (.inr 0)), .inr (.inr (.inr 0))] [] μ (zk_RI B)
  | [], i, μ, T, V, p, _, _, _, hty, hp, _, _, hz, _, hB => by
    injection hty with hty
    subst hty
    have hl : (V ++ T).length = 1 := by simp only [List.length_append]; simp only at hp; omega
    obtain ⟨x, hx⟩ := List.length_eq_one_iff.mp hl
    have hb := hB μ x (zq.rf _ _) hx rfl
    rw [hx] at hz
    obtain ⟨j, hj, hf, hz0⟩ := hz
    have hm0 : j = 0 := hz0
    refine t_Scr_run_10 hk ⟨fun _ => ⟨fun q => by omega, fun _ => ?_⟩, fun q => absurd (Int.le_refl _) q⟩
    rw [hm0] at hf
    rw [← hf] at hb
    exact hb
  | q :: l, i, μ, T, V, p, hlm, hc, hi, hty, hp, h32, hok, hz, hn, hB => by
    have he : μ (k + 2) (i : Int) = zx_enc q := by
      have := hc 0 q rfl
      simpa using this
    have e1 : i + (q :: l).length = i + 1 + l.length := by simp only [List.length_cons]; omega
    rw [e1] at hi ⊢
    unfold zx_ty at hty
    cases hq : zx_ok1 q (T.length, V.length) with
    | none => rw [hq] at hty; exact absurd hty (by simp)
    | some p' =>
      rw [hq] at hty
      simp only at hty
      split at hty
      case isFalse => exact absurd hty (by simp)
      case isTrue hle =>
      have hr := zx_enc_r hq
      have hx : zk_xor (μ (k + 2) (i : Int)) (-1) = -1 - zx_enc q := by rw [he]; exact zv_not (by omega)
      have h1 : (i : Int) < ((i + 1 + l.length : Nat) : Int) := by omega
      have h2 : i < 300 := by omega
      have go : ∀ (T' V' : List Int) (ν : zk_M) (d : Int), zv_st nm q (T, V) = (T', V') → p' = (T'.length, V'.length) → zq [k + 3] μ ν → zv_ok (T', V') → zr (ν (k + 3)) (V'.length + T'.length) (V' ++ T') → d = ((V'.length + T'.length : Nat) : Int) → zk_K 79 201 [.inr (.inr (.inl k)), .inr (.inr (.inr 0)), .inl ((i + 1 + l.length : Nat) : Int), .inr (.inr (.inl 24)), .inl d, .inl (i : Int), .inr (.inr (.inr 0)), .inr (.inr (.inr 0)), .inr (.inr (.inr 0))] [] ν (zk_RI B) := fun T' V' ν d g1 g2 g3 g4 g5 g6 => by
        subst g6
        refine t_Scr_run_201 hk ⟨by omega, sp_runK hk hm5 hnm l (i + 1) ν T' V' p (fun q' hq' => hlm q' (List.mem_cons_of_mem _ hq')) (fun j q' hj => ?_) hi (by rw [← g2]; exact hty) hp (by rw [g2] at hle; exact hle) g4 g5 (fun n n1 n2 => ?_) (fun μ' x z hx hpx => hB μ' x (g3.tr z) ?_ ?_)⟩
        · rw [g3 (k + 2) (by simp)]
          have := hc (j + 1) q' hj
          rw [← this]
          congr 1
          push_cast
          omega
        · rw [g3 24 (by simp; omega)]
          exact hn n n1 n2
        · rw [zv_run_c, g1]
          exact hx
        · rw [zv_run_c, g1]
          exact hpx
      rcases zx_ok1_some hq with a | a | a | a | a | a | a
      · obtain ⟨a1, a2, a3, a4⟩ := a
        have ee : zx_enc q = q.2 := by simp [zx_enc, a1]
        rw [ee] at hx he
        rw [a4] at hle
        simp only at hle
        refine run_61 hk h1 h2 hx (by omega) (run_push hk (x := q.2) h2 (by omega) (Or.inl ⟨by omega, he⟩) (go T (q.2 :: V) _ _ (by simp [zv_st, a1]) (by rw [a4]; rfl) ((zq.rf _ _).set (by simp) _ _) ⟨hok.1, ?_⟩ ?_ (by simp only [List.length_cons]; push_cast; omega)))
        · intro x hx
          rcases List.mem_cons.mp hx with rfl | hx
          · omega
          · exact hok.2 x hx
        · rw [show (q.2 :: V).length + T.length = (V.length + T.length) + 1 by simp only [List.length_cons]; omega]
          exact zr_push hz (zk_set_s _ _ _ _) (fun i hi => zk_set_n (by omega))
      · obtain ⟨a1, a2, a3, a4⟩ := a
        have ee : zx_enc q = -28 - q.2 := by simp [zx_enc, a1]
        rw [ee] at hx
        rw [a4] at hle
        simp only at hle
        have hqm := hlm q List.mem_cons_self a1
        have hm := hnm q.2 (by omega) (by omega)
        refine run_61 hk h1 h2 hx (by omega) (run_push hk (x := nm q.2) h2 (by omega) (Or.inr ⟨by omega, by omega, ?_⟩) (go T (nm q.2 :: V) _ _ (by simp [zv_st, a1]) (by rw [a4]; rfl) ((zq.rf _ _).set (by simp) _ _) ⟨hok.1, ?_⟩ ?_ (by simp only [List.length_cons]; push_cast; omega)))
        · rw [← hn q.2 (by omega) (by omega)]
          congr 1
          omega
        · intro x hx
          rcases List.mem_cons.mp hx with rfl | hx
          · exact hm
          · exact hok.2 x hx
        · rw [show (nm q.2 :: V).length + T.length = (V.length + T.length) + 1 by simp only [List.length_cons]; omega]
          exact zr_push hz (zk_set_s _ _ _ _) (fun i hi => zk_set_n (by omega))
      · obtain ⟨a1, a2, a3⟩ := a
        have ee : zx_enc q = -33 := by simp [zx_enc, a1]
        rw [ee] at hx
        cases V with
        | nil => exact absurd a2 (by simp)
        | cons v V =>
          have hd : (v :: V).length + T.length = (V.length + T.length) + 1 := by simp only [List.length_cons]; omega
          rw [hd] at hz ⊢
          obtain ⟨z1, z2⟩ := zr_top hz
          rw [a3] at hle
          simp only [List.length_cons] at hle
          have hv := hok.2 v List.mem_cons_self
          have ed : (((V.length + T.length) + 1 : Nat) : Int) - 1 = ((V.length + T.length : Nat) : Int) := by omega
          refine run_103 hk h1 h2 hx (by omega) (t_Scr_run_103 hk ⟨fun _ => t_Scr_run_117 hk ⟨fun q => by omega, fun _ => ⟨by omega, by omega, by omega, fun _ => ?_, fun q => absurd q (by decide)⟩⟩, fun q => absurd (by decide) q⟩)
          rw [ed, z1]
          refine ⟨by omega, by omega, go T (-v :: V) _ _ (by simp [zv_st, a1]) (by rw [a3]; rfl) ((zq.rf _ _).set (by simp) _ _) ⟨hok.1, ?_⟩ ?_ (by simp only [List.length_cons]; push_cast; omega)⟩
          · intro x hx
            rcases List.mem_cons.mp hx with rfl | hx
            · omega
            · exact hok.2 x (List.mem_cons_of_mem _ hx)
          · rw [show (-v :: V).length + T.length = (V.length + T.length) + 1 by simp only [List.length_cons]; omega]
            exact zr_push z2 (zk_set_s _ _ _ _) (fun i hi => zk_set_n (by omega))
      · obtain ⟨a1, a2, a3, a4⟩ := a
        have ee : zx_enc q = -7 - q.1 := by
          rcases (show q.1 = 3 ∨ q.1 = 4 ∨ q.1 = 5 ∨ q.1 = 6 by omega) with w | w | w | w <;> simp [zx_enc, w]
        have hx' : zk_xor (μ (k + 2) (i : Int)) (-1) = q.1 + 6 := by rw [hx, ee]; omega
        match V, a3, a4, hz, hok, hle, h32, go, hB with
        | b :: v :: V, _, a4, hz, hok, hle, h32, go, _ =>
          have hd : (b :: v :: V).length + T.length = (V.length + T.length) + 1 + 1 := by simp only [List.length_cons]; omega
          rw [hd] at hz ⊢
          obtain ⟨z1, z2⟩ := zr_top hz
          obtain ⟨z3, z4⟩ := zr_top z2
          rw [a4] at hle
          simp only [List.length_cons] at hle h32
          have hb := hok.2 b List.mem_cons_self
          have hv := hok.2 v (List.mem_cons_of_mem _ List.mem_cons_self)
          have ed : (((V.length + T.length) + 1 + 1 : Nat) : Int) + (-1) = (((V.length + T.length) + 1 : Nat) : Int) := by omega
          have ed2 : (((V.length + T.length) + 1 : Nat) : Int) - 1 = ((V.length + T.length : Nat) : Int) := by omega
          refine run_103 hk h1 h2 hx' (by omega) (t_Scr_run_103 hk ⟨fun e => by omega, fun _ => ⟨fun _ => ⟨fun e => by omega, fun _ => ?_⟩, fun e => by omega⟩⟩)
          rw [ed, ed2, z1, z3]
          refine ⟨by omega, by omega, by omega, by omega, by omega, sp_joinV ⟨a1, a2⟩ hv hb ⟨by omega, go T (zv_op q.1 v b :: V) _ _ ?_ (by rw [a4]; simp) ((zq.rf _ _).set (by simp) _ _) ⟨hok.1, ?_⟩ ?_ (by simp only [List.length_cons]; push_cast; omega)⟩⟩
          · simp only [zv_st]
            rw [if_neg (by omega), if_neg (by omega), if_neg (by omega), if_pos (by omega)]
          · intro x hx
            rcases List.mem_cons.mp hx with rfl | hx
            · exact zv_op_r q.1 hv
            · exact hok.2 x (List.mem_cons_of_mem _ (List.mem_cons_of_mem _ hx))
          · rw [show (zv_op q.1 v b :: V).length + T.length = (V.length + T.length) + 1 by simp only [List.length_cons]; omega]
            exact zr_push z4 (zk_set_s _ _ _ _) (fun i hi => zk_set_n (by omega))
      · obtain ⟨a1, a2, a3, a4⟩ := a
        have ee : zx_enc q = 6 - q.1 := by
          unfold zx_enc
          rw [if_neg (by omega), if_neg (by omega), if_neg (by omega), if_neg (by omega), if_neg (by omega), if_neg (by omega), if_neg (by omega), if_neg (by omega), if_neg (by omega), if_neg (by omega)]
        have hx' : zk_xor (μ (k + 2) (i : Int)) (-1) = q.1 - 7 := by rw [hx, ee]; omega
        match V, a3, a4, hz, hok, hle, h32, go, hB with
        | [b, v], _, a4, hz, hok, hle, h32, go, _ =>
          have hd : [b, v].length + T.length = T.length + 1 + 1 := by simp only [List.length_cons, List.length_nil]; omega
          rw [hd] at hz ⊢
          obtain ⟨z1, z2⟩ := zr_top hz
          obtain ⟨z3, z4⟩ := zr_top z2
          rw [a4] at hle
          simp only [List.length_cons, List.length_nil] at hle h32
          have ed : ((T.length + 1 + 1 : Nat) : Int) + (-1) = ((T.length + 1 : Nat) : Int) := by omega
          have ed2 : ((T.length + 1 : Nat) : Int) - 1 = ((T.length : Nat) : Int) := by omega
          refine run_103 hk h1 h2 hx' (by omega) (t_Scr_run_103 hk ⟨fun e => by omega, fun _ => ⟨fun _ => ⟨fun e => by omega, fun _ => ?_⟩, fun e => by omega⟩⟩)
          rw [ed, ed2, z1, z3]
          refine ⟨by omega, by omega, by omega, by omega, by omega, sp_joinC ⟨a1, a2⟩ ⟨by omega, go (zv_cmp q.1 v b :: T) [] _ _ ?_ (by rw [a4]; simp) ((zq.rf _ _).set (by simp) _ _) ⟨?_, fun x hx => absurd hx (by simp)⟩ ?_ (by simp only [List.length_cons, List.length_nil]; push_cast; omega)⟩⟩
          · simp only [zv_st]
            rw [if_neg (by omega), if_neg (by omega), if_neg (by omega), if_neg (by omega), if_pos (by omega)]
          · intro x hx
            rcases List.mem_cons.mp hx with rfl | hx
            · exact zv_cmp_r q.1 v b
            · exact hok.1 x hx
          · rw [show ([] : List Int).length + (zv_cmp q.1 v b :: T).length = T.length + 1 by simp only [List.length_cons, List.length_nil]; omega]
            exact zr_push z4 (zk_set_s _ _ _ _) (fun i hi => zk_set_n (by omega))
      · obtain ⟨a1, a2, a3, a4⟩ := a
        have ee : zx_enc q = -27 := by simp [zx_enc, a1]
        rw [ee] at hx
        match V, T, a2, a3, a4, hz, hok, hle, h32, go, hB with
        | [], t :: T, _, _, a4, hz, hok, hle, h32, go, _ =>
          have hd : ([] : List Int).length + (t :: T).length = T.length + 1 := by simp only [List.length_cons, List.length_nil]; omega
          rw [hd] at hz ⊢
          obtain ⟨z1, z2⟩ := zr_top hz
          rw [a4] at hle
          simp only [List.length_cons, List.length_nil] at hle h32
          have hv := hok.1 t List.mem_cons_self
          have ed : ((T.length + 1 : Nat) : Int) - 1 = ((T.length : Nat) : Int) := by omega
          refine run_103 hk h1 h2 hx (by omega) (t_Scr_run_103 hk ⟨fun e => absurd e (by decide), fun _ => ⟨fun e => absurd (by decide) e, fun _ => t_Scr_run_117 hk ⟨fun q => by omega, fun _ => ⟨by omega, by omega, by omega, fun e => absurd (by decide) e, fun _ => ?_⟩⟩⟩⟩)
          rw [ed, z1]
          refine ⟨by omega, by omega, go ((1 - t) :: T) [] _ _ (by simp [zv_st, a1]) (by rw [a4]; rfl) ((zq.rf _ _).set (by simp) _ _) ⟨?_, fun x hx => absurd hx (by simp)⟩ ?_ (by simp only [List.length_cons, List.length_nil]; push_cast; omega)⟩
          · intro x hx
            rcases List.mem_cons.mp hx with rfl | hx
            · omega
            · exact hok.1 x (List.mem_cons_of_mem _ hx)
          · rw [show ([] : List Int).length + ((1 - t) :: T).length = T.length + 1 by simp only [List.length_cons, List.length_nil]; omega]
            exact zr_push z2 (zk_set_s _ _ _ _) (fun i hi => zk_set_n (by omega))
      · obtain ⟨a1, a2, a3, a4⟩ := a
        have hx' : zk_xor (μ (k + 2) (i : Int)) (-1) = if q.1 = 21 then 25 else 24 := by
          rw [hx]
          rcases a1 with w | w <;> simp [zx_enc, w]
        match V, T, a2, a3, a4, hz, hok, hle, h32, go, hB with
        | [], b :: v :: T, _, _, a4, hz, hok, hle, h32, go, _ =>
          have hd : ([] : List Int).length + (b :: v :: T).length = T.length + 1 + 1 := by simp only [List.length_cons, List.length_nil]; omega
          rw [hd] at hz ⊢
          obtain ⟨z1, z2⟩ := zr_top hz
          obtain ⟨z3, z4⟩ := zr_top z2
          rw [a4] at hle
          simp only [List.length_cons] at hle h32
          have hb := hok.1 b List.mem_cons_self
          have hv := hok.1 v (List.mem_cons_of_mem _ List.mem_cons_self)
          have ed : ((T.length + 1 + 1 : Nat) : Int) + (-1) = ((T.length + 1 : Nat) : Int) := by omega
          have ed2 : ((T.length + 1 : Nat) : Int) - 1 = ((T.length : Nat) : Int) := by omega
          have htk : (if q.1 = 21 then (25 : Int) else 24) = 25 ∨ (if q.1 = 21 then (25 : Int) else 24) = 24 := by rcases a1 with w | w <;> simp [w]
          refine run_103 hk h1 h2 hx' (by omega) (t_Scr_run_103 hk ⟨fun e => by omega, fun _ => ⟨fun _ => ⟨fun e => by omega, fun _ => ?_⟩, fun e => by omega⟩⟩)
          rw [ed, ed2, z1, z3]
          refine ⟨by omega, by omega, by omega, by omega, by omega, sp_joinT a1 hv hb ⟨by omega, go ((if q.1 = 21 then (if v = 0 then 0 else b) else (if v = 0 then b else v)) :: T) [] _ _ ?_ (by rw [a4]; simp) ((zq.rf _ _).set (by simp) _ _) ⟨?_, fun x hx => absurd hx (by simp)⟩ ?_ (by simp only [List.length_cons, List.length_nil]; push_cast; omega)⟩⟩
          · rcases a1 with w | w <;> simp [zv_st, w]
          · intro x hx
            rcases List.mem_cons.mp hx with rfl | hx
            · rcases a1 with w | w <;> simp [w] <;> split <;> simp_all
            · exact hok.1 x (List.mem_cons_of_mem _ (List.mem_cons_of_mem _ hx))
          · rw [show ([] : List Int).length + ((if q.1 = 21 then (if v = 0 then 0 else b) else (if v = 0 then b else v)) :: T).length = T.length + 1 by simp only [List.length_cons, List.length_nil]; omega]
            exact zr_push z4 (zk_set_s _ _ _ _) (fun i hi => zk_set_n (by omega))
