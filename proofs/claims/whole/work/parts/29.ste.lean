/-! the walks of the methods, printed by program -/
def zc_Ste_copyFrom : List zk_E := [(0, .aload_n 1, 0, 0, 0, 0, 0),
  (1, .getfield 11, 0, 8, 0, 0, 3),
  (4, .iconst 0, 0, 0, 0, 0, 0),
  (5, .aload_n 0, 0, 0, 0, 0, 0),
  (6, .getfield 11, 0, 8, 0, 0, 3),
  (9, .iconst 0, 0, 0, 0, 0, 0),
  (10, .aload_n 0, 0, 0, 0, 0, 0),
  (11, .getfield 11, 0, 8, 0, 0, 3),
  (14, .arraylength, 0, 0, 0, 0, 0),
  (15, .invokestatic 22, 1, 0, 0, 0, 0),
  (18, .aload_n 0, 0, 0, 0, 0, 0),
  (19, .aload_n 1, 0, 0, 0, 0, 0),
  (20, .getfield 15, 0, 8, 1, 1, 0),
  (23, .putfield 15, 0, 8, 1, 1, 0),
  (26, .aload_n 0, 0, 0, 0, 0, 0),
  (27, .aload_n 1, 0, 0, 0, 0, 0),
  (28, .getfield 19, 0, 8, 2, 2, 0),
  (31, .putfield 19, 0, 8, 2, 2, 0),
  (34, .return_, 0, 0, 0, 0, 0)]
theorem zk_Ste_copyFrom : zk_ckM 84 zc_Ste_copyFrom 2 = true := by decide +kernel
theorem r_Ste_copyFrom_0_img {μ : zk_M} {Q : zk_M → Prop} (h : ((0 : Int) ≤ 0 ∧ (0 : Int) ≤ 0 ∧ (0 : Int) ≤ 960 ∧ (0 : Int) + 960 ≤ 960 ∧ (0 : Int) + 960 ≤ 960) ∧ (Q (zk_set (zk_set (zk_cpy μ 6 0 16 0 960) 15 1 (μ 5 1)) 15 2 (μ 5 2)))) : zk_K 84 0 [.inr (.inr (.inl 15)), .inr (.inr (.inl 5))] [] μ (zk_RV Q) := zk_t zk_Ste_copyFrom [] 0 21 rfl h
theorem t_Ste_copyFrom_0_img {μ : zk_M} {Q : zk_M → Prop} (h : Q (zk_set (zk_set (zk_cpy μ 6 0 16 0 960) 15 1 (μ 5 1)) 15 2 (μ 5 2))) : zk_K 84 0 [.inr (.inr (.inl 15)), .inr (.inr (.inl 5))] [] μ (zk_RV Q) := r_Ste_copyFrom_0_img ⟨by decide, h⟩
theorem c_Ste_copyFrom_img {μ : zk_M} {Q : zk_M → Prop} (h : Q (zk_set (zk_set (zk_cpy μ 6 0 16 0 960) 15 1 (μ 5 1)) 15 2 (μ 5 2))) : zk_C 84 [.inr (.inr (.inl 15)), .inr (.inr (.inl 5))] μ (zk_RV Q) := zk_c zk_Ste_copyFrom rfl (t_Ste_copyFrom_0_img h)
theorem r_Ste_copyFrom_0_bck {μ : zk_M} {Q : zk_M → Prop} (h : ((0 : Int) ≤ 0 ∧ (0 : Int) ≤ 0 ∧ (0 : Int) ≤ 960 ∧ (0 : Int) + 960 ≤ 960 ∧ (0 : Int) + 960 ≤ 960) ∧ (Q (zk_set (zk_set (zk_cpy μ 16 0 6 0 960) 5 1 (μ 15 1)) 5 2 (μ 15 2)))) : zk_K 84 0 [.inr (.inr (.inl 5)), .inr (.inr (.inl 15))] [] μ (zk_RV Q) := zk_t zk_Ste_copyFrom [] 0 21 rfl h
theorem t_Ste_copyFrom_0_bck {μ : zk_M} {Q : zk_M → Prop} (h : Q (zk_set (zk_set (zk_cpy μ 16 0 6 0 960) 5 1 (μ 15 1)) 5 2 (μ 15 2))) : zk_K 84 0 [.inr (.inr (.inl 5)), .inr (.inr (.inl 15))] [] μ (zk_RV Q) := r_Ste_copyFrom_0_bck ⟨by decide, h⟩
theorem c_Ste_copyFrom_bck {μ : zk_M} {Q : zk_M → Prop} (h : Q (zk_set (zk_set (zk_cpy μ 16 0 6 0 960) 5 1 (μ 15 1)) 5 2 (μ 15 2))) : zk_C 84 [.inr (.inr (.inl 5)), .inr (.inr (.inl 15))] μ (zk_RV Q) := zk_c zk_Ste_copyFrom rfl (t_Ste_copyFrom_0_bck h)
def zc_Ste_keep : List zk_E := [(0, .aload_n 1, 0, 0, 0, 0, 0),
  (1, .getfield 34, 0, 9, 0, 0, 3),
  (4, .iconst 0, 0, 0, 0, 0, 0),
  (5, .aload_n 0, 0, 0, 0, 0, 0),
  (6, .getfield 11, 0, 8, 0, 0, 3),
  (9, .aload_n 0, 0, 0, 0, 0, 0),
  (10, .aload_n 0, 0, 0, 0, 0, 0),
  (11, .getfield 19, 0, 8, 2, 2, 0),
  (14, .invokevirtual 37, 8, 256, 0, 2, 1),
  (17, .bipush 32, 0, 0, 0, 0, 0),
  (19, .invokestatic 22, 1, 0, 0, 0, 0),
  (22, .aload_n 0, 0, 0, 0, 0, 0),
  (23, .getfield 19, 0, 8, 2, 2, 0),
  (26, .bipush 30, 0, 0, 0, 0, 0),
  (28, .if_icmp .ge 16, 0, 8, 0, 0, 0),
  (31, .aload_n 0, 0, 0, 0, 0, 0),
  (32, .dup, 0, 0, 0, 0, 0),
  (33, .getfield 19, 0, 8, 2, 2, 0),
  (36, .iconst 1, 0, 0, 0, 0, 0),
  (37, .iadd, 0, 0, 0, 0, 0),
  (38, .putfield 19, 0, 8, 2, 2, 0),
  (41, .goto 16, 0, 9, 0, 0, 0),
  (44, .aload_n 0, 0, 0, 0, 0, 0),
  (45, .aload_n 0, 0, 0, 0, 0, 0),
  (46, .getfield 15, 0, 8, 1, 1, 0),
  (49, .iconst 1, 0, 0, 0, 0, 0),
  (50, .iadd, 0, 0, 0, 0, 0),
  (51, .bipush 30, 0, 0, 0, 0, 0),
  (53, .irem, 0, 0, 0, 0, 0),
  (54, .putfield 15, 0, 8, 1, 1, 0),
  (57, .return_, 0, 0, 0, 0, 0)]
theorem zk_Ste_keep : zk_ckM 85 zc_Ste_keep 2 = true := by decide +kernel
theorem t_Ste_keep_0 {μ : zk_M} {Q : zk_M → Prop} (h : zk_C 256 [.inr (.inr (.inl 5)), .inl (μ 5 2)] μ (zk_RI fun r2 μ1 => ((0 : Int) ≤ 0 ∧ (0 : Int) ≤ r2 ∧ (0 : Int) ≤ 32 ∧ (0 : Int) + 32 ≤ 32 ∧ (r2 : Int) + 32 ≤ 960) ∧ ((30 ≤ (μ1 5 2) → (((-2147483648 : Int) ≤ ((μ1 5 1) + 1) ∧ (((μ1 5 1) + 1) : Int) ≤ 2147483647) ∧ (((30 : Int) ≠ 0 ∧ -2147483648 ≤ (Int.tdiv ((μ1 5 1) + 1) 30) ∧ (Int.tdiv ((μ1 5 1) + 1) 30) ≤ 2147483647) ∧ (Q (zk_set (zk_cpy μ1 4 0 6 r2 32) 5 1 (Int.tmod ((μ1 5 1) + 1) 30)))))) ∧ (¬ (30 ≤ (μ1 5 2)) → (((-2147483648 : Int) ≤ ((μ1 5 2) + 1) ∧ (((μ1 5 2) + 1) : Int) ≤ 2147483647) ∧ (Q (zk_set (zk_cpy μ1 4 0 6 r2 32) 5 2 ((μ1 5 2) + 1)))))))) : zk_K 85 0 [.inr (.inr (.inl 5)), .inr (.inr (.inl 3))] [] μ (zk_RV Q) := zk_t zk_Ste_keep [] 0 33 rfl h
theorem c_Ste_keep {μ : zk_M} {Q : zk_M → Prop} (h : zk_C 256 [.inr (.inr (.inl 5)), .inl (μ 5 2)] μ (zk_RI fun r2 μ1 => ((0 : Int) ≤ 0 ∧ (0 : Int) ≤ r2 ∧ (0 : Int) ≤ 32 ∧ (0 : Int) + 32 ≤ 32 ∧ (r2 : Int) + 32 ≤ 960) ∧ ((30 ≤ (μ1 5 2) → (((-2147483648 : Int) ≤ ((μ1 5 1) + 1) ∧ (((μ1 5 1) + 1) : Int) ≤ 2147483647) ∧ (((30 : Int) ≠ 0 ∧ -2147483648 ≤ (Int.tdiv ((μ1 5 1) + 1) 30) ∧ (Int.tdiv ((μ1 5 1) + 1) 30) ≤ 2147483647) ∧ (Q (zk_set (zk_cpy μ1 4 0 6 r2 32) 5 1 (Int.tmod ((μ1 5 1) + 1) 30)))))) ∧ (¬ (30 ≤ (μ1 5 2)) → (((-2147483648 : Int) ≤ ((μ1 5 2) + 1) ∧ (((μ1 5 2) + 1) : Int) ≤ 2147483647) ∧ (Q (zk_set (zk_cpy μ1 4 0 6 r2 32) 5 2 ((μ1 5 2) + 1)))))))) : zk_C 85 [.inr (.inr (.inl 5)), .inr (.inr (.inl 3))] μ (zk_RV Q) := zk_c zk_Ste_keep rfl (t_Ste_keep_0 h)
def zc_Ste_takeBack : List zk_E := [(0, .aload_n 0, 0, 0, 0, 0, 0),
  (1, .getfield 19, 0, 8, 2, 2, 0),
  (4, .ifCond .gt 5, 0, 3, 0, 0, 0),
  (7, .iconst 0, 0, 0, 0, 0, 0),
  (8, .ireturn, 0, 0, 0, 0, 1),
  (9, .aload_n 0, 0, 0, 0, 0, 0),
  (10, .dup, 0, 0, 0, 0, 0),
  (11, .getfield 19, 0, 8, 2, 2, 0),
  (14, .iconst 1, 0, 0, 0, 0, 0),
  (15, .isub, 0, 0, 0, 0, 0),
  (16, .putfield 19, 0, 8, 2, 2, 0),
  (19, .aload_n 0, 0, 0, 0, 0, 0),
  (20, .getfield 11, 0, 8, 0, 0, 3),
  (23, .aload_n 0, 0, 0, 0, 0, 0),
  (24, .aload_n 0, 0, 0, 0, 0, 0),
  (25, .getfield 19, 0, 8, 2, 2, 0),
  (28, .invokevirtual 37, 8, 256, 0, 2, 1),
  (31, .aload_n 1, 0, 0, 0, 0, 0),
  (32, .getfield 34, 0, 9, 0, 0, 3),
  (35, .iconst 0, 0, 0, 0, 0, 0),
  (36, .bipush 32, 0, 0, 0, 0, 0),
  (38, .invokestatic 22, 1, 0, 0, 0, 0),
  (41, .iconst 1, 0, 0, 0, 0, 0),
  (42, .ireturn, 0, 0, 0, 0, 1)]
theorem zk_Ste_takeBack : zk_ckM 86 zc_Ste_takeBack 2 = true := by decide +kernel
theorem t_Ste_takeBack_0 {μ : zk_M} {Q : Int → zk_M → Prop} (h : (0 < (μ 5 2) → (((-2147483648 : Int) ≤ ((μ 5 2) - 1) ∧ (((μ 5 2) - 1) : Int) ≤ 2147483647) ∧ (zk_C 256 [.inr (.inr (.inl 5)), .inl ((μ 5 2) - 1)] (zk_set μ 5 2 ((μ 5 2) - 1)) (zk_RI fun r2 μ1 => ((0 : Int) ≤ r2 ∧ (0 : Int) ≤ 0 ∧ (0 : Int) ≤ 32 ∧ (r2 : Int) + 32 ≤ 960 ∧ (0 : Int) + 32 ≤ 32) ∧ (Q 1 (zk_cpy μ1 6 r2 4 0 32)))))) ∧ (¬ (0 < (μ 5 2)) → (Q 0 μ))) : zk_K 86 0 [.inr (.inr (.inl 5)), .inr (.inr (.inl 3))] [] μ (zk_RI Q) := zk_t zk_Ste_takeBack [] 0 26 rfl h
theorem c_Ste_takeBack {μ : zk_M} {Q : Int → zk_M → Prop} (h : (0 < (μ 5 2) → (((-2147483648 : Int) ≤ ((μ 5 2) - 1) ∧ (((μ 5 2) - 1) : Int) ≤ 2147483647) ∧ (zk_C 256 [.inr (.inr (.inl 5)), .inl ((μ 5 2) - 1)] (zk_set μ 5 2 ((μ 5 2) - 1)) (zk_RI fun r2 μ1 => ((0 : Int) ≤ r2 ∧ (0 : Int) ≤ 0 ∧ (0 : Int) ≤ 32 ∧ (r2 : Int) + 32 ≤ 960 ∧ (0 : Int) + 32 ≤ 32) ∧ (Q 1 (zk_cpy μ1 6 r2 4 0 32)))))) ∧ (¬ (0 < (μ 5 2)) → (Q 0 μ))) : zk_C 86 [.inr (.inr (.inl 5)), .inr (.inr (.inl 3))] μ (zk_RI Q) := zk_c zk_Ste_takeBack rfl (t_Ste_takeBack_0 h)
def zc_Ste_placeBehind : List zk_E := [(0, .aload_n 0, 0, 0, 0, 0, 0),
  (1, .getfield 15, 0, 8, 1, 1, 0),
  (4, .iload_n 1, 0, 0, 0, 0, 0),
  (5, .iadd, 0, 0, 0, 0, 0),
  (6, .bipush 30, 0, 0, 0, 0, 0),
  (8, .invokestatic 28, 0, 257, 0, 2, 1),
  (11, .bipush 32, 0, 0, 0, 0, 0),
  (13, .imul, 0, 0, 0, 0, 0),
  (14, .ireturn, 0, 0, 0, 0, 0)]
theorem zk_Ste_placeBehind : zk_ckM 256 zc_Ste_placeBehind 2 = true := by decide +kernel
theorem t_Ste_placeBehind_0 {x1 : Int} {μ : zk_M} {Q : Int → zk_M → Prop} (h : ((-2147483648 : Int) ≤ ((μ 5 1) + x1) ∧ (((μ 5 1) + x1) : Int) ≤ 2147483647) ∧ (zk_C 257 [.inl ((μ 5 1) + x1), .inl 30] μ (zk_RI fun r2 μ1 => ((-2147483648 : Int) ≤ (r2 * 32) ∧ ((r2 * 32) : Int) ≤ 2147483647) ∧ (Q (r2 * 32) μ1)))) : zk_K 256 0 [.inr (.inr (.inl 5)), .inl x1] [] μ (zk_RI Q) := zk_t zk_Ste_placeBehind [] 0 11 rfl h
theorem c_Ste_placeBehind {x1 : Int} {μ : zk_M} {Q : Int → zk_M → Prop} (h : ((-2147483648 : Int) ≤ ((μ 5 1) + x1) ∧ (((μ 5 1) + x1) : Int) ≤ 2147483647) ∧ (zk_C 257 [.inl ((μ 5 1) + x1), .inl 30] μ (zk_RI fun r2 μ1 => ((-2147483648 : Int) ≤ (r2 * 32) ∧ ((r2 * 32) : Int) ≤ 2147483647) ∧ (Q (r2 * 32) μ1)))) : zk_C 256 [.inr (.inr (.inl 5)), .inl x1] μ (zk_RI Q) := zk_c zk_Ste_placeBehind rfl (t_Ste_placeBehind_0 h)
