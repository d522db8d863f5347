/-! names and sorts on the reference's side; the code it writes *-/
def zt_so (c : Nat) : Int := if c = 16 then 0 else if c = 17 then 1 else if c = 18 then 2 else if c = 31 then 3 else if c = 19 then 4 else if c = 20 then 5 else if c = 21 then 6 else -1
section
variable {μ : zk_M} {BV : zk_M → Prop} {B : Int → zk_M → Prop} {t : zt_T}
theorem sp_w4 {x1 x2 x3 x4 : Int} {r : Int} (hr : zk_lor (zk_lshl (zk_lor (zk_lshl (zk_lor (zk_lshl x1 8) x2) 8) x3) 8) x4 = r) (hB : B r μ) : zk_C 167 [.inl x1, .inl x2, .inl x3, .inl x4] μ (zk_RL B) := c_Mod_w4 (c_Mod_w3 (by rw [hr]; exact hB))
theorem sp_w5 {x1 x2 x3 x4 x5 : Int} {r : Int} (hr : zk_lor (zk_lshl (zk_lor (zk_lshl (zk_lor (zk_lshl (zk_lor (zk_lshl x1 8) x2) 8) x3) 8) x4) 8) x5 = r) (hB : B r μ) : zk_C 166 [.inl x1, .inl x2, .inl x3, .inl x4, .inl x5] μ (zk_RL B) := c_Mod_w5 (c_Mod_w3 (by rw [hr]; exact hB))
theorem sp_w6 {x1 x2 x3 x4 x5 x6 : Int} {r : Int} (hr : zk_lor (zk_lshl (zk_lor (zk_lshl (zk_lor (zk_lshl (zk_lor (zk_lshl (zk_lor (zk_lshl x1 8) x2) 8) x3) 8) x4) 8) x5) 8) x6 = r) (hB : B r μ) : zk_C 168 [.inl x1, .inl x2, .inl x3, .inl x4, .inl x5, .inl x6] μ (zk_RL B) := c_Mod_w6 (c_Mod_w5 (c_Mod_w3 (by rw [hr]; exact hB)))
theorem sp_name (h : zt_R μ t) (hB : B (if 27 ≤ t.1 ∧ t.1 ≤ 31 then (t.1 : Int) - 27 else -1) μ) : zk_C 174 [.inr (.inr (.inl 60))] μ (zk_RI B) := by
  have k9 := (zt_tk9 h.2.2).2.2.2.2.2.2.2.2.2.2.2.2.2.2.2.2.2
  have fin : ∀ r : Int, r = (if 27 ≤ t.1 ∧ t.1 ≤ 31 then (t.1 : Int) - 27 else -1) → B r μ := fun r hr => by rw [hr]; exact hB
  refine c_Mod_nameOf ⟨fun q => ?_, fun q => fin _ ?_⟩
  · refine sp_w4 (r := zt_pk (zt_ws.getD (27 - 16) [])) (by decide +kernel) ?_
    rw [zt_isW h (by decide) rfl q]
    refine ⟨fun n1 => ?_, fun e => fin _ (by rw [if_pos (by omega)]; omega)⟩
    refine sp_w3 (r := zt_pk (zt_ws.getD (28 - 16) [])) (by decide +kernel) ?_
    rw [zt_isW h (by decide) rfl q]
    refine ⟨fun n2 => ?_, fun e => fin _ (by rw [if_pos (by omega)]; omega)⟩
    refine sp_w6 (r := zt_pk (zt_ws.getD (29 - 16) [])) (by decide +kernel) ?_
    rw [zt_isW h (by decide) rfl q]
    refine ⟨fun n3 => ?_, fun e => fin _ (by rw [if_pos (by omega)]; omega)⟩
    refine sp_w5 (r := zt_pk (zt_ws.getD (30 - 16) [])) (by decide +kernel) ?_
    rw [zt_isW h (by decide) rfl q]
    refine ⟨fun n4 => ?_, fun e => fin _ (by rw [if_pos (by omega)]; omega)⟩
    refine sp_w3 (r := zt_pk (zt_ws.getD (31 - 16) [])) (by decide +kernel) ?_
    rw [zt_isW h (by decide) rfl q]
    exact ⟨fun n5 => fin _ (by rw [if_neg (by omega)]), fun e => fin _ (by rw [if_pos (by omega)]; omega)⟩
  · rw [if_neg (fun w => q (k9 (by omega)))]
theorem sp_sortOf (h : zt_R μ t) (hB : B (zt_so t.1) μ) : zk_C 184 [.inr (.inr (.inl 60))] μ (zk_RI B) := by
  have fin : ∀ r : Int, r = zt_so t.1 → B r μ := fun r hr => by rw [hr]; exact hB
  refine c_Mod_sortOf ?_
  refine sp_w6 (r := zt_pk (zt_ws.getD (16 - 16) [])) (by decide +kernel) (sp_isW h (by decide) rfl (fun e => ⟨fun q => absurd q (by decide), fun _ => fin _ (by rw [e]; rfl)⟩) (fun n16 => ⟨fun _ => ?_, fun q => absurd rfl q⟩))
  refine sp_w4 (r := zt_pk (zt_ws.getD (17 - 16) [])) (by decide +kernel) (sp_isW h (by decide) rfl (fun e => ⟨fun q => absurd q (by decide), fun _ => fin _ (by rw [e]; rfl)⟩) (fun n17 => ⟨fun _ => ?_, fun q => absurd rfl q⟩))
  refine sp_w3 (r := zt_pk (zt_ws.getD (18 - 16) [])) (by decide +kernel) (sp_isW h (by decide) rfl (fun e => ⟨fun q => absurd q (by decide), fun _ => fin _ (by rw [e]; rfl)⟩) (fun n18 => ⟨fun _ => ?_, fun q => absurd rfl q⟩))
  refine sp_w3 (r := zt_pk (zt_ws.getD (31 - 16) [])) (by decide +kernel) (sp_isW h (by decide) rfl (fun e => ⟨fun q => absurd q (by decide), fun _ => fin _ (by rw [e]; rfl)⟩) (fun n31 => ⟨fun _ => ?_, fun q => absurd rfl q⟩))
  refine sp_w4 (r := zt_pk (zt_ws.getD (19 - 16) [])) (by decide +kernel) (sp_isW h (by decide) rfl (fun e => ⟨fun q => absurd q (by decide), fun _ => fin _ (by rw [e]; rfl)⟩) (fun n19 => ⟨fun _ => ?_, fun q => absurd rfl q⟩))
  refine sp_w3 rfl (sp_w4 rfl (sp_isW (c := 20) h (by decide) (by decide +kernel) (fun e => ⟨fun q => absurd q (by decide), fun _ => fin _ (by rw [e]; rfl)⟩) (fun n20 => ⟨fun _ => ?_, fun q => absurd rfl q⟩)))
  refine sp_w4 (r := zt_pk (zt_ws.getD (21 - 16) [])) (by decide +kernel) (sp_isW h (by decide) rfl (fun e => ⟨fun q => absurd q (by decide), fun _ => fin _ (by rw [e]; rfl)⟩) (fun n21 => ⟨fun _ => fin _ ?_, fun q => absurd rfl q⟩))
  unfold zt_so
  rw [if_neg n16, if_neg n17, if_neg n18, if_neg n31, if_neg n19, if_neg n20, if_neg n21]
end
/-- what the reference may change while it reads a text at b *-/
def zt_g (b : Nat) (μ ν : zk_M) : Prop := zq [60, 63, 65] μ ν ∧ (∀ i : Int, i < 7 ∨ (11 < i ∧ i ≠ 14 ∧ i ≠ 17 ∧ i ≠ 18 ∧ i ≠ 19) → ν 60 i = μ 60 i) ∧ ∀ i : Int, i < (b : Int) + 75 → ν 63 i = μ 63 i
theorem zt_g.rf (b : Nat) (μ : zk_M) : zt_g b μ μ := ⟨zq.rf _ _, fun _ _ => rfl, fun _ _ => rfl⟩
theorem zt_g.tr {b : Nat} {μ μ1 μ2 : zk_M} (h : zt_g b μ μ1) (h2 : zt_g b μ1 μ2) : zt_g b μ μ2 := ⟨h.1.tr h2.1, fun i hi => (h2.2.1 i hi).trans (h.2.1 i hi), fun i hi => (h2.2.2 i hi).trans (h.2.2 i hi)⟩
theorem zt_n.g {b : Nat} {μ ν : zk_M} (h : zt_n μ ν) : zt_g b μ ν := ⟨h.1.up (by simp), fun i hi => h.2 i (by omega), fun i _ => by rw [h.1 63 (by decide)]⟩
theorem zt_g_60 (b : Nat) (μ : zk_M) {i : Int} (hi : i = 14 ∨ i = 17 ∨ i = 18 ∨ i = 19) (x : Int) : zt_g b μ (zk_set μ 60 i x) := ⟨(zq.rf _ _).set (by simp) _ _, fun j hj => by rw [zk_set_n (by omega)], fun j _ => by rw [zk_set_o (by decide)]⟩
theorem zt_g_65 (b : Nat) (μ : zk_M) (i x : Int) : zt_g b μ (zk_set μ 65 i x) := ⟨(zq.rf _ _).set (by simp) _ _, fun j hj => by rw [zk_set_o (by decide)], fun j _ => by rw [zk_set_o (by decide)]⟩
theorem zt_g_63 (b : Nat) (μ : zk_M) {i : Int} (hi : (b : Int) + 75 ≤ i) (x : Int) : zt_g b μ (zk_set μ 63 i x) := ⟨(zq.rf _ _).set (by simp) _ _, fun j hj => by rw [zk_set_o (by decide)], fun j _ => by rw [zk_set_n (by omega)]⟩
/-- the code it has written *-/
def zt_M (ν : zk_M) (b : Nat) (o : List (Int × Int)) : Prop := ν 60 12 = (b : Int) ∧ ν 60 14 = (o.length : Int) ∧ ∀ (i : Nat) q, o[i]? = some q → ν 63 ((b : Int) + 75 + 2 * i) = q.1 ∧ ν 63 ((b : Int) + 76 + 2 * i) = q.2
theorem zt_M.cg {μ ν : zk_M} {b : Nat} {o : List (Int × Int)} (h : zt_M μ b o) (h12 : ν 60 12 = μ 60 12) (h14 : ν 60 14 = μ 60 14) (h63 : ν 63 = μ 63) : zt_M ν b o := by
  unfold zt_M at *
  rw [h12, h14, h63]
  exact h
/-- the pile *-/
def zt_ro (s : Nat) : Int := if s = 9 then 3 else if s = 10 then 4 else if s = 11 then 5 else if s = 12 then 6 else if s = 13 then 40 else 2
def zt_P (ν : zk_M) (A : List Nat) : Prop := ν 60 17 = (A.length : Int) ∧ ∀ (i s : Nat), A[i]? = some s → ν 65 ((A.length : Int) - 1 - i) = zt_ro s
theorem zt_P.cg {μ ν : zk_M} {A : List Nat} (h : zt_P μ A) (h17 : ν 60 17 = μ 60 17) (h65 : ν 65 = μ 65) : zt_P ν A := by
  unfold zt_P at *
  rw [h17, h65]
  exact h
section
variable {μ : zk_M} {BV : zk_M → Prop} {B : Int → zk_M → Prop} {t : zt_T} {b : Nat} {o : List (Int × Int)} {A : List Nat}
theorem sp_emit {x1 x2 : Int} (hb : b ≤ 2040) (h : zt_M μ b o) (ho : o.length ≤ 301) (hB : ∀ ν, zt_g b μ ν → (∀ i : Int, i ≠ 14 → ν 60 i = μ 60 i) → ν 65 = μ 65 → ν 64 = μ 64 → zt_M ν b (o ++ [(x1, x2)]) → BV ν) : zk_C 170 [.inr (.inr (.inl 60)), .inl x1, .inl x2] μ (zk_RV BV) := by
  obtain ⟨h1, h2, h3⟩ := h
  refine c_Mod_emit ?_
  rw [h1, h2]
  refine ⟨by omega, by omega, by omega, by omega, by omega, by omega, by omega, by omega, by omega, by omega, ?_⟩
  refine hB _ (((zt_g_63 b μ (by omega) _).tr (zt_g_63 b _ (by omega) _)).tr (zt_g_60 b _ (Or.inl rfl) _)) (fun i hi => by rw [zk_set_n hi, zk_set_o (by decide), zk_set_o (by decide)]) (by rw [zk_set_o (by decide), zk_set_o (by decide), zk_set_o (by decide)]) (by rw [zk_set_o (by decide), zk_set_o (by decide), zk_set_o (by decide)]) ⟨by rw [zk_set_n (by decide), zk_set_o (by decide), zk_set_o (by decide)]; exact h1, by rw [zk_set_s, List.length_append, List.length_singleton]; rfl, fun i q hq => ?_⟩
  rw [zk_set_o (by decide)]
  rcases zt_snoc hq with ⟨e, w⟩ | ⟨e, w⟩
  · rw [zk_set_n (by omega), zk_set_n (by omega), zk_set_n (by omega), zk_set_n (by omega)]
    exact h3 i q w
  · subst e
    rw [w]
    refine ⟨?_, ?_⟩
    · rw [zk_set_n (by omega), zk_set_s]
    · rw [show (b : Int) + 76 + 2 * (o.length : Int) = (b : Int) + 75 + 2 * (o.length : Int) + 1 by omega, zk_set_s]
theorem sp_pushM {s : Nat} (h : zt_P μ A) (hl : A.length ≤ 150) (hB : ∀ ν, zt_g b μ ν → (∀ i : Int, i ≠ 17 → ν 60 i = μ 60 i) → ν 63 = μ 63 → ν 64 = μ 64 → zt_P ν (s :: A) → BV ν) : zk_C 171 [.inr (.inr (.inl 60)), .inl (zt_ro s)] μ (zk_RV BV) := by
  obtain ⟨h1, h2⟩ := h
  refine c_Mod_push ?_
  rw [h1]
  refine ⟨by omega, by omega, hB _ ((zt_g_65 b μ _ _).tr (zt_g_60 b _ (by omega) _)) (fun i hi => by rw [zk_set_n hi, zk_set_o (by decide)]) (by rw [zk_set_o (by decide), zk_set_o (by decide)]) (by rw [zk_set_o (by decide), zk_set_o (by decide)]) ⟨by rw [zk_set_s, List.length_cons]; rfl, fun i x hx => ?_⟩⟩
  rw [zk_set_o (by decide), List.length_cons]
  cases i with
  | zero =>
    have hx : s = x := by simpa using hx
    rw [show ((A.length + 1 : Nat) : Int) - 1 - ((0 : Nat) : Int) = (A.length : Int) by omega, zk_set_s, hx]
  | succ i =>
    rw [List.getElem?_cons_succ] at hx
    have hl : i < A.length := (List.getElem?_eq_some_iff.1 hx).1
    rw [show ((A.length + 1 : Nat) : Int) - 1 - ((i + 1 : Nat) : Int) = (A.length : Int) - 1 - i by omega, zk_set_n (by omega)]
    exact h2 i x hx
end
