/-! the class's run of a law *-/
theorem zv_cmpI {x y : Int} : (zk_cmp x y ≤ 0 ↔ x ≤ y) ∧ (0 ≤ zk_cmp x y ↔ y ≤ x) ∧ (zk_cmp x y = 0 ↔ x = y) ∧ (zk_cmp x y < 0 ↔ x < y) ∧ (0 < zk_cmp x y ↔ y < x) := by
  unfold zk_cmp
  split
  · omega
  · split <;> omega
theorem zv_mul {a b : Int} (ha : -1000000 ≤ a ∧ a ≤ 1000000) (hb : -1000000 ≤ b ∧ b ≤ 1000000) : -1000000000000 ≤ a * b ∧ a * b ≤ 1000000000000 := by
  have h : (a * b).natAbs ≤ 1000000 * 1000000 := by
    rw [Int.natAbs_mul]
    exact Nat.mul_le_mul (by omega) (by omega)
  omega
section
variable {μ : zk_M} {BV : zk_M → Prop} {B : Int → zk_M → Prop}
theorem sp_held {x : Int} (h : B (zv_clip x) μ) : zk_C 81 [.inr (.inl x)] μ (zk_RL B) := by
  have c1 := (@zv_cmpI x 1000000).1
  have c2 := (@zv_cmpI x (-1000000)).2.1
  rw [zv_clip] at h
  refine c_Scr_held ⟨fun q => ⟨fun p => ?_, fun p => ?_⟩, fun q => ?_⟩
  · rw [if_neg (by omega), if_neg (by omega)] at h
    exact h
  · rw [if_neg (by omega), if_pos (by omega)] at h
    exact h
  · rw [if_pos (by omega)] at h
    exact h
theorem sp_clip {x : Int} (h : B (zv_clip x) μ) : zk_C 194 [.inr (.inl x)] μ (zk_RL B) := by
  have c1 := (@zv_cmpI x 1000000).1
  have c2 := (@zv_cmpI x (-1000000)).2.1
  rw [zv_clip] at h
  refine c_Mod_clip ⟨fun q => ⟨fun p => ?_, fun p => ?_⟩, fun q => ?_⟩
  · rw [if_neg (by omega), if_neg (by omega)] at h
    exact h
  · rw [if_neg (by omega), if_pos (by omega)] at h
    exact h
  · rw [if_pos (by omega)] at h
    exact h
theorem sp_isSo {o a b : Int} (ho : 10 ≤ o ∧ o ≤ 15) (hy : zv_cq o a b = true → B 1 μ) (hn : zv_cq o a b = false → B 0 μ) : zk_C 82 [.inl (o - 7), .inl a, .inl b] μ (zk_RI B) := by
  unfold zv_cq at hy hn
  rcases (show o = 10 ∨ o = 11 ∨ o = 12 ∨ o = 13 ∨ o = 14 ∨ o = 15 by omega) with rfl | rfl | rfl | rfl | rfl | rfl
  · simp at hy hn
    exact c_Scr_isSo ⟨fun _ => ⟨fun q => hn q, fun q => hy (by omega)⟩, fun q => absurd (by decide) q⟩
  · simp at hy hn
    exact c_Scr_isSo ⟨fun q => absurd q (by decide), fun _ => ⟨fun _ => ⟨fun q => hn q, fun q => hy (by omega)⟩, fun q => absurd (by decide) q⟩⟩
  · simp at hy hn
    exact c_Scr_isSo ⟨fun q => absurd q (by decide), fun _ => ⟨fun q => absurd q (by decide), fun _ => ⟨fun _ => ⟨fun q => hn q, fun q => hy (by omega)⟩, fun q => absurd (by decide) q⟩⟩⟩
  · simp at hy hn
    exact c_Scr_isSo ⟨fun q => absurd q (by decide), fun _ => ⟨fun q => absurd q (by decide), fun _ => ⟨fun q => absurd q (by decide), fun _ => ⟨fun _ => ⟨fun q => hn q, fun q => hy (by omega)⟩, fun q => absurd (by decide) q⟩⟩⟩⟩
  · simp at hy hn
    exact c_Scr_isSo ⟨fun q => absurd q (by decide), fun _ => ⟨fun q => absurd q (by decide), fun _ => ⟨fun q => absurd q (by decide), fun _ => ⟨fun q => absurd q (by decide), fun _ => ⟨fun _ => ⟨fun q => hn q, fun q => hy q⟩, fun q => absurd (by decide) q⟩⟩⟩⟩⟩
  · simp at hy hn
    exact c_Scr_isSo ⟨fun q => absurd q (by decide), fun _ => ⟨fun q => absurd q (by decide), fun _ => ⟨fun q => absurd q (by decide), fun _ => ⟨fun q => absurd q (by decide), fun _ => ⟨fun q => absurd q (by decide), fun _ => ⟨fun q => hn q, fun q => hy q⟩⟩⟩⟩⟩⟩
theorem sp_asked {o a b : Int} (ho : 10 ≤ o ∧ o ≤ 15) (hy : zv_cq o a b = true → B 1 μ) (hn : zv_cq o a b = false → B 0 μ) : zk_C 196 [.inl o, .inr (.inl a), .inr (.inl b)] μ (zk_RI B) := by
  unfold zv_cq at hy hn
  obtain ⟨c1, c2, c3, c4, c5⟩ := @zv_cmpI a b
  rcases (show o = 10 ∨ o = 11 ∨ o = 12 ∨ o = 13 ∨ o = 14 ∨ o = 15 by omega) with rfl | rfl | rfl | rfl | rfl | rfl
  · simp at hy hn
    exact c_Mod_isAsked ⟨fun q => absurd rfl q, fun _ => ⟨fun q => hn (by omega), fun q => hy (by omega)⟩⟩
  · simp at hy hn
    exact c_Mod_isAsked ⟨fun _ => ⟨fun q => absurd rfl q, fun _ => ⟨fun q => hn (by omega), fun q => hy (by omega)⟩⟩, fun q => absurd q (by decide)⟩
  · simp at hy hn
    exact c_Mod_isAsked ⟨fun _ => ⟨fun _ => ⟨fun q => absurd rfl q, fun _ => ⟨fun q => hn (by omega), fun q => hy (by omega)⟩⟩, fun q => absurd q (by decide)⟩, fun q => absurd q (by decide)⟩
  · simp at hy hn
    exact c_Mod_isAsked ⟨fun _ => ⟨fun _ => ⟨fun _ => ⟨fun q => absurd rfl q, fun _ => ⟨fun q => hn (by omega), fun q => hy (by omega)⟩⟩, fun q => absurd q (by decide)⟩, fun q => absurd q (by decide)⟩, fun q => absurd q (by decide)⟩
  · simp at hy hn
    exact c_Mod_isAsked ⟨fun _ => ⟨fun _ => ⟨fun _ => ⟨fun _ => ⟨fun q => absurd rfl q, fun _ => ⟨fun q => hn (by omega), fun q => hy (by omega)⟩⟩, fun q => absurd q (by decide)⟩, fun q => absurd q (by decide)⟩, fun q => absurd q (by decide)⟩, fun q => absurd q (by decide)⟩
  · simp at hy hn
    exact c_Mod_isAsked ⟨fun _ => ⟨fun _ => ⟨fun _ => ⟨fun _ => ⟨fun _ => ⟨fun q => hn (by omega), fun q => hy (by omega)⟩, fun q => absurd q (by decide)⟩, fun q => absurd q (by decide)⟩, fun q => absurd q (by decide)⟩, fun q => absurd q (by decide)⟩, fun q => absurd q (by decide)⟩
theorem sp_joinV {o a b : Int} (ho : 3 ≤ o ∧ o ≤ 6) (ha : -1000000 ≤ a ∧ a ≤ 1000000) (hb : -1000000 ≤ b ∧ b ≤ 1000000) (h : B (zv_op o a b) μ) : zk_C 80 [.inl (o + 6), .inl a, .inl b] μ (zk_RI B) := by
  have hm := zv_mul ha hb
  unfold zv_op at h
  rcases (show o = 3 ∨ o = 4 ∨ o = 5 ∨ o = 6 by omega) with rfl | rfl | rfl | rfl
  · simp at h
    have := zv_clip_r (a + b)
    exact c_Scr_joined ⟨fun _ => ⟨by unfold zk_rJ; omega, sp_held ⟨by omega, h⟩⟩, fun q => absurd (by decide) q⟩
  · simp at h
    have := zv_clip_r (a - b)
    exact c_Scr_joined ⟨fun q => absurd q (by decide), fun _ => ⟨fun _ => ⟨by unfold zk_rJ; omega, sp_held ⟨by omega, h⟩⟩, fun q => absurd (by decide) q⟩⟩
  · simp at h
    have := zv_clip_r (a * b)
    exact c_Scr_joined ⟨fun q => absurd q (by decide), fun _ => ⟨fun q => absurd q (by decide), fun _ => ⟨fun _ => ⟨by unfold zk_rJ; omega, sp_held ⟨by omega, h⟩⟩, fun q => absurd (by decide) q⟩⟩⟩
  · simp at h
    have := zv_tdiv (b := b) ha
    refine c_Scr_joined ⟨fun q => absurd q (by decide), fun _ => ⟨fun q => absurd q (by decide), fun _ => ⟨fun q => absurd q (by decide), fun _ => ⟨fun _ => ⟨fun q => ⟨⟨q, by omega, by omega⟩, ?_⟩, fun q => ?_⟩, fun q => absurd (by decide) q⟩⟩⟩⟩
    · rw [if_neg q] at h
      exact h
    · rw [if_pos q] at h
      exact h
theorem sp_two {o a b : Int} (ho : 3 ≤ o ∧ o ≤ 6) (ha : -1000000 ≤ a ∧ a ≤ 1000000) (hb : -1000000 ≤ b ∧ b ≤ 1000000) (h : B (zv_op o a b) μ) : zk_C 195 [.inl o, .inr (.inl a), .inr (.inl b)] μ (zk_RL B) := by
  have hm := zv_mul ha hb
  unfold zv_op at h
  rcases (show o = 3 ∨ o = 4 ∨ o = 5 ∨ o = 6 by omega) with rfl | rfl | rfl | rfl
  · simp at h
    exact c_Mod_two ⟨fun _ => ⟨by unfold zk_rJ; omega, sp_clip h⟩, fun q => absurd rfl q⟩
  · simp at h
    exact c_Mod_two ⟨fun q => absurd q (by decide), fun _ => ⟨fun _ => ⟨by unfold zk_rJ; omega, sp_clip h⟩, fun q => absurd rfl q⟩⟩
  · simp at h
    exact c_Mod_two ⟨fun q => absurd q (by decide), fun _ => ⟨fun q => absurd q (by decide), fun _ => ⟨fun _ => ⟨by unfold zk_rJ; omega, sp_clip h⟩, fun q => absurd rfl q⟩⟩⟩
  · simp at h
    have hd := zv_tdiv (b := b) ha
    have c3 := (@zv_cmpI b 0).2.2.1
    refine c_Mod_two ⟨fun q => absurd q (by decide), fun _ => ⟨fun q => absurd q (by decide), fun _ => ⟨fun q => absurd q (by decide), fun _ => ⟨fun q => ⟨⟨by omega, by unfold zk_rJ; omega⟩, sp_clip ?_⟩, fun q => ?_⟩⟩⟩⟩
    · rw [if_neg (by omega)] at h
      have e : zv_clip (Int.tdiv a b) = Int.tdiv a b := by
        unfold zv_clip
        rw [if_neg (by omega), if_neg (by omega)]
      rw [e]
      exact h
    · rw [if_pos (by omega)] at h
      exact h
theorem sp_joinC {o a b : Int} (ho : 10 ≤ o ∧ o ≤ 15) (h : B (zv_cmp o a b) μ) : zk_C 80 [.inl (o - 7), .inl a, .inl b] μ (zk_RI B) := by
  unfold zv_cmp at h
  refine c_Scr_joined ⟨fun q => by omega, fun _ => ⟨fun q => by omega, fun _ => ⟨fun q => by omega, fun _ => ⟨fun q => by omega, fun _ => ⟨fun q => by omega, fun _ => ⟨fun q => by omega, fun _ => sp_isSo ho (fun q => ⟨fun p => absurd p (by decide), fun _ => ?_⟩) (fun q => ⟨fun _ => ?_, fun p => absurd rfl p⟩)⟩⟩⟩⟩⟩⟩
  · rw [q] at h
    exact h
  · rw [q] at h
    exact h
theorem sp_joinT {o a b : Int} (ho : o = 21 ∨ o = 22) (ha : a = 0 ∨ a = 1) (hb : b = 0 ∨ b = 1) (h : B (if o = 21 then (if a = 0 then 0 else b) else (if a = 0 then b else a)) μ) : zk_C 80 [.inl (if o = 21 then 25 else 24), .inl a, .inl b] μ (zk_RI B) := by
  rcases ho with rfl | rfl
  · have e : zk_and a b = if a = 0 then 0 else b := by
      rcases ha with rfl | rfl <;> rcases hb with rfl | rfl <;> decide
    simp at h
    refine c_Scr_joined ⟨fun q => absurd q (by decide), fun _ => ⟨fun q => absurd q (by decide), fun _ => ⟨fun q => absurd q (by decide), fun _ => ⟨fun q => absurd q (by decide), fun _ => ⟨fun q => absurd q (by decide), fun _ => ⟨fun _ => ?_, fun q => absurd (by decide) q⟩⟩⟩⟩⟩⟩
    rw [e]
    exact h
  · have e : zk_or a b = if a = 0 then b else a := by
      rcases ha with rfl | rfl <;> rcases hb with rfl | rfl <;> decide
    simp at h
    refine c_Scr_joined ⟨fun q => absurd q (by decide), fun _ => ⟨fun q => absurd q (by decide), fun _ => ⟨fun q => absurd q (by decide), fun _ => ⟨fun q => absurd q (by decide), fun _ => ⟨fun _ => ?_, fun q => absurd (by decide) q⟩⟩⟩⟩⟩
    rw [e]
    exact h
end
theorem t_Law_weightBy_5n {x3 : Int} {μ : zk_M} {Q : Int → zk_M → Prop} (h : zk_C 94 [.inr (.inr (.inl 3)), .inl x3] μ (zk_RI fun r4 μ3 => ((-2147483648 : Int) ≤ (r4 + 1) ∧ ((r4 + 1) : Int) ≤ 2147483647) ∧ (Q (r4 + 1) μ3))) : zk_K 15 5 [.inr (.inr (.inl 22)), .inr (.inr (.inr 0)), .inr (.inr (.inl 3)), .inl x3, .inr (.inr (.inr 0))] [.inr (.inr (.inl 0))] μ (zk_RI Q) :=
  zk_t zk_Law_weightBy [(5, [true, false, true, true, false])] 3 34 rfl ⟨fun _ => h, fun q => absurd rfl q⟩
theorem t_Law_goesBy_5n {x3 x4 : Int} {μ : zk_M} {Q : Int → zk_M → Prop} (h : zk_C 94 [.inr (.inr (.inl 3)), .inl x3] μ (zk_RI fun r4 μ3 => (¬ r4 = x4 → (Q 0 μ3)) ∧ (r4 = x4 → (Q 1 μ3)))) : zk_K 16 5 [.inr (.inr (.inl 22)), .inr (.inr (.inr 0)), .inr (.inr (.inl 3)), .inl x3, .inl x4, .inr (.inr (.inr 0))] [.inr (.inr (.inl 0))] μ (zk_RI Q) :=
  zk_t zk_Law_goesBy [(5, [true, false, true, true, true, false])] 3 42 rfl ⟨fun _ => h, fun q => absurd rfl q⟩
