/-! texts on the reference's side: what it asks of a token *-/
theorem zt_cmp0 {x y : Int} : zk_cmp x y = 0 ↔ x = y := by
  unfold zk_cmp
  split
  · omega
  · split <;> omega
theorem zt_tk9 {c : Nat} {v tk num wd : Int} (h : zt_rt c v tk num wd) : c ≤ 31 ∧ (tk = 0 ↔ c = 0) ∧ (tk = 1 ↔ c = 2) ∧ (tk = 40 ↔ c = 13) ∧ (tk = 45 ↔ c = 10) ∧ (tk = 43 ↔ c = 9) ∧ (tk = 42 ↔ c = 11) ∧ (tk = 47 ↔ c = 12) ∧ (tk = 41 ↔ c = 14) ∧ (tk = 59 ↔ c = 15) ∧ (tk = 60 ↔ c = 3) ∧ (tk = 4 ↔ c = 4) ∧ (tk = 62 ↔ c = 5) ∧ (tk = 5 ↔ c = 6) ∧ (tk = 61 ↔ c = 7) ∧ (tk = 35 ↔ c = 8) ∧ (tk = 2 → c = 1 ∨ (16 ≤ c ∧ c ≤ 31)) ∧ (16 ≤ c → tk = 2) := by
  rcases h with h | h | h | h | h
  · omega
  · omega
  · omega
  · omega
  · obtain ⟨h1, h2, h3⟩ := h
    rcases (show c = 3 ∨ c = 4 ∨ c = 5 ∨ c = 6 ∨ c = 7 ∨ c = 8 ∨ c = 9 ∨ c = 10 ∨ c = 11 ∨ c = 12 ∨ c = 13 ∨ c = 14 ∨ c = 15 by omega) with rfl | rfl | rfl | rfl | rfl | rfl | rfl | rfl | rfl | rfl | rfl | rfl | rfl
    all_goals
      have h3 := h3.trans (show _ = _ from by unfold zt_rc; rfl)
      subst h3
      decide
theorem zt_pk_w : ∀ a, a < 16 → ∀ b, b < 16 → zt_pk (zt_ws.getD a []) = zt_pk (zt_ws.getD b []) → a = b := by decide +kernel
theorem zt_pk_m : ∀ b, b < 16 → zt_ws.getD b [] ∈ zt_ws := by decide +kernel
section
variable {μ : zk_M} {BV : zk_M → Prop} {B : Int → zk_M → Prop} {t : zt_T}
theorem zt_isW {c : Nat} {x : Int} (h : zt_R μ t) (hc : 16 ≤ c ∧ c ≤ 31) (hx : x = zt_pk (zt_ws.getD (c - 16) [])) (h2 : μ 60 9 = 2) : (zk_cmp (μ 60 11) x = 0 ↔ t.1 = c) := by
  rw [zt_cmp0, hx]
  have k := zt_tk9 h.2.2
  rcases h.2.2 with h | h | h | h | h
  · omega
  · omega
  · rw [h.2.2.2]
    refine ⟨fun e => ?_, fun e => by rw [e]⟩
    have := zt_pk_w _ (by omega) _ (by omega) e
    omega
  · refine ⟨fun e => ?_, fun e => by omega⟩
    rcases h.2 with h | h
    · omega
    · exact absurd e (h.2 _ (zt_pk_m _ (by omega)))
  · exact absurd (k.2.2.2.2.2.2.2.2.2.2.2.2.2.2.2.2.1 h2) (by omega)
theorem sp_isW {c : Nat} {x : Int} (h : zt_R μ t) (hc : 16 ≤ c ∧ c ≤ 31) (hx : x = zt_pk (zt_ws.getD (c - 16) [])) (hy : t.1 = c → B 1 μ) (hn : t.1 ≠ c → B 0 μ) : zk_C 169 [.inr (.inr (.inl 60)), .inr (.inl x)] μ (zk_RI B) := by
  have k := zt_tk9 h.2.2
  refine c_Mod_isWord ⟨fun q => hn (fun e => q (k.2.2.2.2.2.2.2.2.2.2.2.2.2.2.2.2.2 (by omega))), fun q => ⟨fun w => hn (fun e => w ((zt_isW h hc hx q).2 e)), fun w => hy ((zt_isW h hc hx q).1 w)⟩⟩
theorem sp_w3 {x1 x2 x3 : Int} {r : Int} (hr : zk_lor (zk_lshl (zk_lor (zk_lshl x1 8) x2) 8) x3 = r) (hB : B r μ) : zk_C 165 [.inl x1, .inl x2, .inl x3] μ (zk_RL B) := c_Mod_w3 (by rw [hr]; exact hB)
theorem sp_cmpOf (h : zt_R μ t) (hB : B (if 3 ≤ t.1 ∧ t.1 ≤ 8 then (t.1 : Int) + 7 else -1) μ) : zk_C 181 [.inr (.inr (.inl 60))] μ (zk_RI B) := by
  obtain ⟨k, k0, k1, k2, k3, k4, k5, k6, k7, k8, c3, c4, c5, c6, c7, c8, k9⟩ := zt_tk9 h.2.2
  have fin : ∀ r : Int, r = (if 3 ≤ t.1 ∧ t.1 ≤ 8 then (t.1 : Int) + 7 else -1) → B r μ := fun r hr => by rw [hr]; exact hB
  refine c_Mod_compareOf ⟨fun q1 => ⟨fun q2 => ⟨fun q3 => ⟨fun q4 => ⟨fun q5 => ⟨fun q6 => fin _ ?_, fun q6 => fin _ ?_⟩, fun q5 => fin _ ?_⟩, fun q4 => fin _ ?_⟩, fun q3 => fin _ ?_⟩, fun q2 => fin _ ?_⟩, fun q1 => fin _ ?_⟩
  · rw [if_neg]
    intro h
    have := k9.1
    omega
  · have := c8.1 q6
    rw [if_pos (by omega)]; omega
  · have := c7.1 q5
    rw [if_pos (by omega)]; omega
  · have := c6.1 q4
    rw [if_pos (by omega)]; omega
  · have := c5.1 q3
    rw [if_pos (by omega)]; omega
  · have := c4.1 q2
    rw [if_pos (by omega)]; omega
  · have := c3.1 q1
    rw [if_pos (by omega)]; omega
end
theorem zt_k_not : zk_lor (zk_lshl (zk_lor (zk_lshl 110 8) 111) 8) 116 = zt_pk (zt_ws.getD (26 - 16) []) := by decide +kernel
