/-! the walks of the methods, printed by program -/
def zc_Sto_copyFrom : List zk_E := [(0, .aload_n 1, 0, 0, 0, 0, 0),
  (1, .getfield 11, 0, 9, 0, 0, 3),
  (4, .iconst 0, 0, 0, 0, 0, 0),
  (5, .aload_n 0, 0, 0, 0, 0, 0),
  (6, .getfield 11, 0, 9, 0, 0, 3),
  (9, .iconst 0, 0, 0, 0, 0, 0),
  (10, .bipush 32, 0, 0, 0, 0, 0),
  (12, .invokestatic 15, 1, 0, 0, 0, 0),
  (15, .return_, 0, 0, 0, 0, 0)]
theorem zk_Sto_copyFrom : zk_ckM 88 zc_Sto_copyFrom 2 = true := by decide +kernel
theorem r_Sto_copyFrom_0_img {μ : zk_M} {Q : zk_M → Prop} (h : ((0 : Int) ≤ 0 ∧ (0 : Int) ≤ 0 ∧ (0 : Int) ≤ 32 ∧ (0 : Int) + 32 ≤ 32 ∧ (0 : Int) + 32 ≤ 32) ∧ (Q (zk_cpy μ 4 0 14 0 32))) : zk_K 88 0 [.inr (.inr (.inl 13)), .inr (.inr (.inl 3))] [] μ (zk_RV Q) := zk_t zk_Sto_copyFrom [] 0 11 rfl h
theorem t_Sto_copyFrom_0_img {μ : zk_M} {Q : zk_M → Prop} (h : Q (zk_cpy μ 4 0 14 0 32)) : zk_K 88 0 [.inr (.inr (.inl 13)), .inr (.inr (.inl 3))] [] μ (zk_RV Q) := r_Sto_copyFrom_0_img ⟨by decide, h⟩
theorem c_Sto_copyFrom_img {μ : zk_M} {Q : zk_M → Prop} (h : Q (zk_cpy μ 4 0 14 0 32)) : zk_C 88 [.inr (.inr (.inl 13)), .inr (.inr (.inl 3))] μ (zk_RV Q) := zk_c zk_Sto_copyFrom rfl (t_Sto_copyFrom_0_img h)
theorem r_Sto_copyFrom_0_bck {μ : zk_M} {Q : zk_M → Prop} (h : ((0 : Int) ≤ 0 ∧ (0 : Int) ≤ 0 ∧ (0 : Int) ≤ 32 ∧ (0 : Int) + 32 ≤ 32 ∧ (0 : Int) + 32 ≤ 32) ∧ (Q (zk_cpy μ 14 0 4 0 32))) : zk_K 88 0 [.inr (.inr (.inl 3)), .inr (.inr (.inl 13))] [] μ (zk_RV Q) := zk_t zk_Sto_copyFrom [] 0 11 rfl h
theorem t_Sto_copyFrom_0_bck {μ : zk_M} {Q : zk_M → Prop} (h : Q (zk_cpy μ 14 0 4 0 32)) : zk_K 88 0 [.inr (.inr (.inl 3)), .inr (.inr (.inl 13))] [] μ (zk_RV Q) := r_Sto_copyFrom_0_bck ⟨by decide, h⟩
theorem c_Sto_copyFrom_bck {μ : zk_M} {Q : zk_M → Prop} (h : Q (zk_cpy μ 14 0 4 0 32)) : zk_C 88 [.inr (.inr (.inl 3)), .inr (.inr (.inl 13))] μ (zk_RV Q) := zk_c zk_Sto_copyFrom rfl (t_Sto_copyFrom_0_bck h)
def zc_Sto_count : List zk_E := [(0, .aload_n 0, 0, 0, 0, 0, 0),
  (1, .getfield 11, 0, 9, 0, 0, 3),
  (4, .bipush 30, 0, 0, 0, 0, 0),
  (6, .iaload, 0, 0, 0, 0, 0),
  (7, .ireturn, 0, 0, 0, 0, 0)]
theorem zk_Sto_count : zk_ckM 89 zc_Sto_count 1 = true := by decide +kernel
theorem r_Sto_count_0 {μ : zk_M} {Q : Int → zk_M → Prop} (h : ((0 : Int) ≤ 30 ∧ (30 : Int) < 32) ∧ (Q (μ 4 30) μ)) : zk_K 89 0 [.inr (.inr (.inl 3))] [] μ (zk_RI Q) := zk_t zk_Sto_count [] 0 7 rfl h
theorem t_Sto_count_0 {μ : zk_M} {Q : Int → zk_M → Prop} (h : Q (μ 4 30) μ) : zk_K 89 0 [.inr (.inr (.inl 3))] [] μ (zk_RI Q) := r_Sto_count_0 ⟨by decide, h⟩
theorem c_Sto_count {μ : zk_M} {Q : Int → zk_M → Prop} (h : Q (μ 4 30) μ) : zk_C 89 [.inr (.inr (.inl 3))] μ (zk_RI Q) := zk_c zk_Sto_count rfl (t_Sto_count_0 h)
def zc_Sto_day : List zk_E := [(0, .aload_n 0, 0, 0, 0, 0, 0),
  (1, .getfield 11, 0, 9, 0, 0, 3),
  (4, .bipush 31, 0, 0, 0, 0, 0),
  (6, .iaload, 0, 0, 0, 0, 0),
  (7, .ireturn, 0, 0, 0, 0, 0)]
theorem zk_Sto_day : zk_ckM 90 zc_Sto_day 1 = true := by decide +kernel
theorem r_Sto_day_0 {μ : zk_M} {Q : Int → zk_M → Prop} (h : ((0 : Int) ≤ 31 ∧ (31 : Int) < 32) ∧ (Q (μ 4 31) μ)) : zk_K 90 0 [.inr (.inr (.inl 3))] [] μ (zk_RI Q) := zk_t zk_Sto_day [] 0 7 rfl h
theorem t_Sto_day_0 {μ : zk_M} {Q : Int → zk_M → Prop} (h : Q (μ 4 31) μ) : zk_K 90 0 [.inr (.inr (.inl 3))] [] μ (zk_RI Q) := r_Sto_day_0 ⟨by decide, h⟩
theorem c_Sto_day {μ : zk_M} {Q : Int → zk_M → Prop} (h : Q (μ 4 31) μ) : zk_C 90 [.inr (.inr (.inl 3))] μ (zk_RI Q) := zk_c zk_Sto_day rfl (t_Sto_day_0 h)
def zc_Sto_passDay : List zk_E := [(0, .aload_n 0, 0, 0, 0, 0, 0),
  (1, .getfield 11, 0, 9, 0, 0, 3),
  (4, .bipush 31, 0, 0, 0, 0, 0),
  (6, .dup2, 0, 0, 0, 0, 0),
  (7, .iaload, 0, 0, 0, 0, 0),
  (8, .iconst 1, 0, 0, 0, 0, 0),
  (9, .iadd, 0, 0, 0, 0, 0),
  (10, .iastore, 0, 0, 0, 0, 0),
  (11, .return_, 0, 0, 0, 0, 0)]
theorem zk_Sto_passDay : zk_ckM 91 zc_Sto_passDay 1 = true := by decide +kernel
theorem r_Sto_passDay_0 {μ : zk_M} {Q : zk_M → Prop} (h : ((0 : Int) ≤ 31 ∧ (31 : Int) < 32) ∧ (((-2147483648 : Int) ≤ ((μ 4 31) + 1) ∧ (((μ 4 31) + 1) : Int) ≤ 2147483647) ∧ (((0 : Int) ≤ 31 ∧ (31 : Int) < 32) ∧ (Q (zk_set μ 4 31 ((μ 4 31) + 1)))))) : zk_K 91 0 [.inr (.inr (.inl 3))] [] μ (zk_RV Q) := zk_t zk_Sto_passDay [] 0 11 rfl h
theorem t_Sto_passDay_0 {μ : zk_M} {Q : zk_M → Prop} (h : ((-2147483648 : Int) ≤ ((μ 4 31) + 1) ∧ (((μ 4 31) + 1) : Int) ≤ 2147483647) ∧ (Q (zk_set μ 4 31 ((μ 4 31) + 1)))) : zk_K 91 0 [.inr (.inr (.inl 3))] [] μ (zk_RV Q) := r_Sto_passDay_0 ⟨by decide, ⟨(h).1, ⟨by decide, (h).2⟩⟩⟩
theorem c_Sto_passDay {μ : zk_M} {Q : zk_M → Prop} (h : ((-2147483648 : Int) ≤ ((μ 4 31) + 1) ∧ (((μ 4 31) + 1) : Int) ≤ 2147483647) ∧ (Q (zk_set μ 4 31 ((μ 4 31) + 1)))) : zk_C 91 [.inr (.inr (.inl 3))] μ (zk_RV Q) := zk_c zk_Sto_passDay rfl (t_Sto_passDay_0 h)
def zc_Sto_has : List zk_E := [(0, .iload_n 1, 0, 0, 0, 0, 0),
  (1, .ifCond .lt 24, 0, 12, 0, 0, 0),
  (4, .iload_n 1, 0, 0, 0, 0, 0),
  (5, .bipush 30, 0, 0, 0, 0, 0),
  (7, .if_icmp .ge 18, 0, 9, 0, 0, 0),
  (10, .iload_n 1, 0, 0, 0, 0, 0),
  (11, .aload_n 0, 0, 0, 0, 0, 0),
  (12, .getfield 11, 0, 9, 0, 0, 3),
  (15, .bipush 30, 0, 0, 0, 0, 0),
  (17, .iaload, 0, 0, 0, 0, 0),
  (18, .if_icmp .ge 7, 0, 3, 0, 0, 0),
  (21, .iconst 1, 0, 0, 0, 0, 0),
  (22, .goto 4, 0, 2, 0, 0, 0),
  (25, .iconst 0, 0, 0, 0, 0, 0),
  (26, .ireturn, 0, 0, 0, 0, 1)]
theorem zk_Sto_has : zk_ckM 92 zc_Sto_has 2 = true := by decide +kernel
theorem r_Sto_has_0 {x1 : Int} {μ : zk_M} {Q : Int → zk_M → Prop} (h : (x1 < 0 → (Q 0 μ)) ∧ (¬ (x1 < 0) → ((30 ≤ x1 → (Q 0 μ)) ∧ (¬ (30 ≤ x1) → (((0 : Int) ≤ 30 ∧ (30 : Int) < 32) ∧ (((μ 4 30) ≤ x1 → (Q 0 μ)) ∧ (¬ ((μ 4 30) ≤ x1) → (Q 1 μ)))))))) : zk_K 92 0 [.inr (.inr (.inl 3)), .inl x1] [] μ (zk_RI Q) := zk_t zk_Sto_has [] 0 17 rfl h
theorem t_Sto_has_0 {x1 : Int} {μ : zk_M} {Q : Int → zk_M → Prop} (h : (x1 < 0 → (Q 0 μ)) ∧ (¬ (x1 < 0) → ((30 ≤ x1 → (Q 0 μ)) ∧ (¬ (30 ≤ x1) → (((μ 4 30) ≤ x1 → (Q 0 μ)) ∧ (¬ ((μ 4 30) ≤ x1) → (Q 1 μ))))))) : zk_K 92 0 [.inr (.inr (.inl 3)), .inl x1] [] μ (zk_RI Q) := r_Sto_has_0 ⟨fun q0 => (h).1 q0, fun q0 => ⟨fun q1 => ((h).2 q0).1 q1, fun q1 => ⟨by decide, ((h).2 q0).2 q1⟩⟩⟩
theorem c_Sto_has {x1 : Int} {μ : zk_M} {Q : Int → zk_M → Prop} (h : (x1 < 0 → (Q 0 μ)) ∧ (¬ (x1 < 0) → ((30 ≤ x1 → (Q 0 μ)) ∧ (¬ (30 ≤ x1) → (((μ 4 30) ≤ x1 → (Q 0 μ)) ∧ (¬ ((μ 4 30) ≤ x1) → (Q 1 μ))))))) : zk_C 92 [.inr (.inr (.inl 3)), .inl x1] μ (zk_RI Q) := zk_c zk_Sto_has rfl (t_Sto_has_0 h)
def zc_Sto_word : List zk_E := [(0, .iload_n 1, 0, 0, 0, 0, 0),
  (1, .ifCond .lt 18, 0, 9, 0, 0, 0),
  (4, .iload_n 1, 0, 0, 0, 0, 0),
  (5, .bipush 30, 0, 0, 0, 0, 0),
  (7, .if_icmp .ge 12, 0, 6, 0, 0, 0),
  (10, .aload_n 0, 0, 0, 0, 0, 0),
  (11, .getfield 11, 0, 9, 0, 0, 3),
  (14, .iload_n 1, 0, 0, 0, 0, 0),
  (15, .iaload, 0, 0, 0, 0, 0),
  (16, .goto 4, 0, 2, 0, 0, 0),
  (19, .iconst 0, 0, 0, 0, 0, 0),
  (20, .ireturn, 0, 0, 0, 0, 0)]
theorem zk_Sto_word : zk_ckM 93 zc_Sto_word 2 = true := by decide +kernel
theorem t_Sto_word_0 {x1 : Int} {μ : zk_M} {Q : Int → zk_M → Prop} (h : (x1 < 0 → (Q 0 μ)) ∧ (¬ (x1 < 0) → ((30 ≤ x1 → (Q 0 μ)) ∧ (¬ (30 ≤ x1) → (((0 : Int) ≤ x1 ∧ (x1 : Int) < 32) ∧ (Q (μ 4 x1) μ)))))) : zk_K 93 0 [.inr (.inr (.inl 3)), .inl x1] [] μ (zk_RI Q) := zk_t zk_Sto_word [] 0 14 rfl h
theorem c_Sto_word {x1 : Int} {μ : zk_M} {Q : Int → zk_M → Prop} (h : (x1 < 0 → (Q 0 μ)) ∧ (¬ (x1 < 0) → ((30 ≤ x1 → (Q 0 μ)) ∧ (¬ (30 ≤ x1) → (((0 : Int) ≤ x1 ∧ (x1 : Int) < 32) ∧ (Q (μ 4 x1) μ)))))) : zk_C 93 [.inr (.inr (.inl 3)), .inl x1] μ (zk_RI Q) := zk_c zk_Sto_word rfl (t_Sto_word_0 h)
def zc_Sto_kindOf : List zk_E := [(0, .aload_n 0, 0, 0, 0, 0, 0),
  (1, .iload_n 1, 0, 0, 0, 0, 0),
  (2, .invokevirtual 21, 9, 93, 0, 2, 1),
  (5, .bipush 7, 0, 0, 0, 0, 0),
  (7, .iand, 0, 0, 0, 0, 0),
  (8, .ireturn, 0, 0, 0, 0, 0)]
theorem zk_Sto_kindOf : zk_ckM 94 zc_Sto_kindOf 2 = true := by decide +kernel
theorem t_Sto_kindOf_0 {x1 : Int} {μ : zk_M} {Q : Int → zk_M → Prop} (h : zk_C 93 [.inr (.inr (.inl 3)), .inl x1] μ (zk_RI fun r2 μ1 => Q (zk_and r2 7) μ1)) : zk_K 94 0 [.inr (.inr (.inl 3)), .inl x1] [] μ (zk_RI Q) := zk_t zk_Sto_kindOf [] 0 8 rfl h
theorem c_Sto_kindOf {x1 : Int} {μ : zk_M} {Q : Int → zk_M → Prop} (h : zk_C 93 [.inr (.inr (.inl 3)), .inl x1] μ (zk_RI fun r2 μ1 => Q (zk_and r2 7) μ1)) : zk_C 94 [.inr (.inr (.inl 3)), .inl x1] μ (zk_RI Q) := zk_c zk_Sto_kindOf rfl (t_Sto_kindOf_0 h)
def zc_Sto_sewnOn : List zk_E := [(0, .aload_n 0, 0, 0, 0, 0, 0),
  (1, .iload_n 1, 0, 0, 0, 0, 0),
  (2, .invokevirtual 21, 9, 93, 0, 2, 1),
  (5, .iconst 3, 0, 0, 0, 0, 0),
  (6, .ishr, 0, 0, 0, 0, 0),
  (7, .sipush 1023, 0, 0, 0, 0, 0),
  (10, .iand, 0, 0, 0, 0, 0),
  (11, .ireturn, 0, 0, 0, 0, 0)]
theorem zk_Sto_sewnOn : zk_ckM 95 zc_Sto_sewnOn 2 = true := by decide +kernel
theorem t_Sto_sewnOn_0 {x1 : Int} {μ : zk_M} {Q : Int → zk_M → Prop} (h : zk_C 93 [.inr (.inr (.inl 3)), .inl x1] μ (zk_RI fun r2 μ1 => Q (zk_and (zk_shr r2 3) 1023) μ1)) : zk_K 95 0 [.inr (.inr (.inl 3)), .inl x1] [] μ (zk_RI Q) := zk_t zk_Sto_sewnOn [] 0 10 rfl h
theorem c_Sto_sewnOn {x1 : Int} {μ : zk_M} {Q : Int → zk_M → Prop} (h : zk_C 93 [.inr (.inr (.inl 3)), .inl x1] μ (zk_RI fun r2 μ1 => Q (zk_and (zk_shr r2 3) 1023) μ1)) : zk_C 95 [.inr (.inr (.inl 3)), .inl x1] μ (zk_RI Q) := zk_c zk_Sto_sewnOn rfl (t_Sto_sewnOn_0 h)
def zc_Sto_placeOf : List zk_E := [(0, .aload_n 0, 0, 0, 0, 0, 0),
  (1, .iload_n 1, 0, 0, 0, 0, 0),
  (2, .invokevirtual 21, 9, 93, 0, 2, 1),
  (5, .bipush 13, 0, 0, 0, 0, 0),
  (7, .ishr, 0, 0, 0, 0, 0),
  (8, .bipush 7, 0, 0, 0, 0, 0),
  (10, .iand, 0, 0, 0, 0, 0),
  (11, .ireturn, 0, 0, 0, 0, 0)]
theorem zk_Sto_placeOf : zk_ckM 96 zc_Sto_placeOf 2 = true := by decide +kernel
theorem t_Sto_placeOf_0 {x1 : Int} {μ : zk_M} {Q : Int → zk_M → Prop} (h : zk_C 93 [.inr (.inr (.inl 3)), .inl x1] μ (zk_RI fun r2 μ1 => Q (zk_and (zk_shr r2 13) 7) μ1)) : zk_K 96 0 [.inr (.inr (.inl 3)), .inl x1] [] μ (zk_RI Q) := zk_t zk_Sto_placeOf [] 0 10 rfl h
theorem c_Sto_placeOf {x1 : Int} {μ : zk_M} {Q : Int → zk_M → Prop} (h : zk_C 93 [.inr (.inr (.inl 3)), .inl x1] μ (zk_RI fun r2 μ1 => Q (zk_and (zk_shr r2 13) 7) μ1)) : zk_C 96 [.inr (.inr (.inl 3)), .inl x1] μ (zk_RI Q) := zk_c zk_Sto_placeOf rfl (t_Sto_placeOf_0 h)
def zc_Sto_ownerOf : List zk_E := [(0, .aload_n 0, 0, 0, 0, 0, 0),
  (1, .iload_n 1, 0, 0, 0, 0, 0),
  (2, .invokevirtual 21, 9, 93, 0, 2, 1),
  (5, .bipush 16, 0, 0, 0, 0, 0),
  (7, .ishr, 0, 0, 0, 0, 0),
  (8, .bipush 7, 0, 0, 0, 0, 0),
  (10, .iand, 0, 0, 0, 0, 0),
  (11, .ireturn, 0, 0, 0, 0, 0)]
theorem zk_Sto_ownerOf : zk_ckM 97 zc_Sto_ownerOf 2 = true := by decide +kernel
theorem t_Sto_ownerOf_0 {x1 : Int} {μ : zk_M} {Q : Int → zk_M → Prop} (h : zk_C 93 [.inr (.inr (.inl 3)), .inl x1] μ (zk_RI fun r2 μ1 => Q (zk_and (zk_shr r2 16) 7) μ1)) : zk_K 97 0 [.inr (.inr (.inl 3)), .inl x1] [] μ (zk_RI Q) := zk_t zk_Sto_ownerOf [] 0 10 rfl h
theorem c_Sto_ownerOf {x1 : Int} {μ : zk_M} {Q : Int → zk_M → Prop} (h : zk_C 93 [.inr (.inr (.inl 3)), .inl x1] μ (zk_RI fun r2 μ1 => Q (zk_and (zk_shr r2 16) 7) μ1)) : zk_C 97 [.inr (.inr (.inl 3)), .inl x1] μ (zk_RI Q) := zk_c zk_Sto_ownerOf rfl (t_Sto_ownerOf_0 h)
def zc_Sto_inside : List zk_E := [(0, .iconst 0, 0, 0, 0, 0, 0),
  (1, .istore_n 2, 0, 0, 0, 0, 0),
  (2, .iconst 0, 0, 0, 0, 0, 0),
  (3, .istore_n 3, 0, 0, 0, 0, 0),
  (4, .iload_n 3, 0, 0, 0, 0, 0),
  (5, .aload_n 0, 0, 0, 0, 0, 0),
  (6, .invokevirtual 25, 9, 89, 0, 1, 1),
  (9, .if_icmp .ge 24, 0, 14, 0, 0, 0),
  (12, .aload_n 0, 0, 0, 0, 0, 0),
  (13, .iload_n 3, 0, 0, 0, 0, 0),
  (14, .invokevirtual 29, 9, 96, 0, 2, 1),
  (17, .iload_n 1, 0, 0, 0, 0, 0),
  (18, .if_icmp .ne 9, 0, 7, 0, 0, 0),
  (21, .iload_n 2, 0, 0, 0, 0, 0),
  (22, .iconst 1, 0, 0, 0, 0, 0),
  (23, .iload_n 3, 0, 0, 0, 0, 0),
  (24, .ishl, 0, 0, 0, 0, 0),
  (25, .ior, 0, 0, 0, 0, 0),
  (26, .istore_n 2, 0, 0, 0, 0, 0),
  (27, .iinc 3 1, 0, 0, 0, 0, 0),
  (30, .goto (-26), 0, 0, 0, 4, 0),
  (33, .iload_n 2, 0, 0, 0, 0, 0),
  (34, .ireturn, 0, 0, 0, 0, 0)]
theorem zk_Sto_inside : zk_ckM 98 zc_Sto_inside 4 = true := by decide +kernel
theorem t_Sto_inside_0 {x1 : Int} {μ : zk_M} {Q : Int → zk_M → Prop} (h : zk_K 98 4 [.inr (.inr (.inl 3)), .inl x1, .inl 0, .inl 0] [] μ (zk_RI Q)) : zk_K 98 0 [.inr (.inr (.inl 3)), .inl x1, .inr (.inr (.inr 0)), .inr (.inr (.inr 0))] [] μ (zk_RI Q) := zk_t zk_Sto_inside [(4, [true, true, true, true])] 0 25 rfl h
theorem c_Sto_inside {x1 : Int} {μ : zk_M} {Q : Int → zk_M → Prop} (h : zk_K 98 4 [.inr (.inr (.inl 3)), .inl x1, .inl 0, .inl 0] [] μ (zk_RI Q)) : zk_C 98 [.inr (.inr (.inl 3)), .inl x1] μ (zk_RI Q) := zk_c zk_Sto_inside rfl (t_Sto_inside_0 h)
theorem t_Sto_inside_4 {x1 x2 x3 : Int} {μ : zk_M} {Q : Int → zk_M → Prop} (h : zk_C 89 [.inr (.inr (.inl 3))] μ (zk_RI fun r2 μ1 => (r2 ≤ x3 → (Q x2 μ1)) ∧ (¬ (r2 ≤ x3) → (zk_C 96 [.inr (.inr (.inl 3)), .inl x3] μ1 (zk_RI fun r4 μ3 => (¬ r4 = x1 → (((-2147483648 : Int) ≤ (x3 + 1) ∧ ((x3 + 1) : Int) ≤ 2147483647) ∧ (zk_K 98 4 [.inr (.inr (.inl 3)), .inl x1, .inl x2, .inl (x3 + 1)] [] μ3 (zk_RI Q)))) ∧ (r4 = x1 → (((-2147483648 : Int) ≤ (x3 + 1) ∧ ((x3 + 1) : Int) ≤ 2147483647) ∧ (zk_K 98 4 [.inr (.inr (.inl 3)), .inl x1, .inl (zk_or x2 (zk_shl 1 x3)), .inl (x3 + 1)] [] μ3 (zk_RI Q))))))))) : zk_K 98 4 [.inr (.inr (.inl 3)), .inl x1, .inl x2, .inl x3] [] μ (zk_RI Q) := zk_t zk_Sto_inside [(4, [true, true, true, true])] 4 25 rfl h
def zc_Sto_sew : List zk_E := [(0, .aload_n 0, 0, 0, 0, 0, 0),
  (1, .invokevirtual 25, 9, 89, 0, 1, 1),
  (4, .istore_n 3, 0, 0, 0, 0, 0),
  (5, .iload_n 3, 0, 0, 0, 0, 0),
  (6, .ifCond .lt 9, 0, 4, 0, 0, 0),
  (9, .iload_n 3, 0, 0, 0, 0, 0),
  (10, .bipush 30, 0, 0, 0, 0, 0),
  (12, .if_icmp .lt 5, 0, 3, 0, 0, 0),
  (15, .iconst (-1), 0, 0, 0, 0, 0),
  (16, .ireturn, 0, 0, 0, 0, 0),
  (17, .aload_n 0, 0, 0, 0, 0, 0),
  (18, .getfield 11, 0, 9, 0, 0, 3),
  (21, .iload_n 3, 0, 0, 0, 0, 0),
  (22, .iload_n 1, 0, 0, 0, 0, 0),
  (23, .aload_n 0, 0, 0, 0, 0, 0),
  (24, .invokevirtual 32, 9, 90, 0, 1, 1),
  (27, .iconst 3, 0, 0, 0, 0, 0),
  (28, .ishl, 0, 0, 0, 0, 0),
  (29, .ior, 0, 0, 0, 0, 0),
  (30, .iload_n 2, 0, 0, 0, 0, 0),
  (31, .bipush 13, 0, 0, 0, 0, 0),
  (33, .ishl, 0, 0, 0, 0, 0),
  (34, .ior, 0, 0, 0, 0, 0),
  (35, .iload_n 2, 0, 0, 0, 0, 0),
  (36, .bipush 16, 0, 0, 0, 0, 0),
  (38, .ishl, 0, 0, 0, 0, 0),
  (39, .ior, 0, 0, 0, 0, 0),
  (40, .iastore, 0, 0, 0, 0, 0),
  (41, .aload_n 0, 0, 0, 0, 0, 0),
  (42, .getfield 11, 0, 9, 0, 0, 3),
  (45, .bipush 30, 0, 0, 0, 0, 0),
  (47, .dup2, 0, 0, 0, 0, 0),
  (48, .iaload, 0, 0, 0, 0, 0),
  (49, .iconst 1, 0, 0, 0, 0, 0),
  (50, .iadd, 0, 0, 0, 0, 0),
  (51, .iastore, 0, 0, 0, 0, 0),
  (52, .iload_n 3, 0, 0, 0, 0, 0),
  (53, .ireturn, 0, 0, 0, 0, 0)]
theorem zk_Sto_sew : zk_ckM 99 zc_Sto_sew 4 = true := by decide +kernel
theorem r_Sto_sew_0 {x1 x2 : Int} {μ : zk_M} {Q : Int → zk_M → Prop} (h : zk_C 89 [.inr (.inr (.inl 3))] μ (zk_RI fun r2 μ1 => (r2 < 0 → (Q (-1) μ1)) ∧ (¬ (r2 < 0) → ((r2 < 30 → (zk_C 90 [.inr (.inr (.inl 3))] μ1 (zk_RI fun r4 μ3 => ((0 : Int) ≤ r2 ∧ (r2 : Int) < 32) ∧ (((0 : Int) ≤ 30 ∧ (30 : Int) < 32) ∧ (((-2147483648 : Int) ≤ (((zk_set μ3 4 r2 (zk_or (zk_or (zk_or x1 (zk_shl r4 3)) (zk_shl x2 13)) (zk_shl x2 16))) 4 30) + 1) ∧ ((((zk_set μ3 4 r2 (zk_or (zk_or (zk_or x1 (zk_shl r4 3)) (zk_shl x2 13)) (zk_shl x2 16))) 4 30) + 1) : Int) ≤ 2147483647) ∧ (((0 : Int) ≤ 30 ∧ (30 : Int) < 32) ∧ (Q r2 (zk_set (zk_set μ3 4 r2 (zk_or (zk_or (zk_or x1 (zk_shl r4 3)) (zk_shl x2 13)) (zk_shl x2 16))) 4 30 (((zk_set μ3 4 r2 (zk_or (zk_or (zk_or x1 (zk_shl r4 3)) (zk_shl x2 13)) (zk_shl x2 16))) 4 30) + 1))))))))) ∧ (¬ (r2 < 30) → (Q (-1) μ1)))))) : zk_K 99 0 [.inr (.inr (.inl 3)), .inl x1, .inl x2, .inr (.inr (.inr 0))] [] μ (zk_RI Q) := zk_t zk_Sto_sew [] 0 40 rfl h
theorem t_Sto_sew_0 {x1 x2 : Int} {μ : zk_M} {Q : Int → zk_M → Prop} (h : zk_C 89 [.inr (.inr (.inl 3))] μ (zk_RI fun r2 μ1 => (r2 < 0 → (Q (-1) μ1)) ∧ (¬ (r2 < 0) → ((r2 < 30 → (zk_C 90 [.inr (.inr (.inl 3))] μ1 (zk_RI fun r4 μ3 => ((0 : Int) ≤ r2 ∧ (r2 : Int) < 32) ∧ (((-2147483648 : Int) ≤ (((zk_set μ3 4 r2 (zk_or (zk_or (zk_or x1 (zk_shl r4 3)) (zk_shl x2 13)) (zk_shl x2 16))) 4 30) + 1) ∧ ((((zk_set μ3 4 r2 (zk_or (zk_or (zk_or x1 (zk_shl r4 3)) (zk_shl x2 13)) (zk_shl x2 16))) 4 30) + 1) : Int) ≤ 2147483647) ∧ (Q r2 (zk_set (zk_set μ3 4 r2 (zk_or (zk_or (zk_or x1 (zk_shl r4 3)) (zk_shl x2 13)) (zk_shl x2 16))) 4 30 (((zk_set μ3 4 r2 (zk_or (zk_or (zk_or x1 (zk_shl r4 3)) (zk_shl x2 13)) (zk_shl x2 16))) 4 30) + 1))))))) ∧ (¬ (r2 < 30) → (Q (-1) μ1)))))) : zk_K 99 0 [.inr (.inr (.inl 3)), .inl x1, .inl x2, .inr (.inr (.inr 0))] [] μ (zk_RI Q) := r_Sto_sew_0 (zk_iI (h) (fun _ _ a0 => ⟨fun q1 => (a0).1 q1, fun q1 => ⟨fun q2 => (zk_iI (((a0).2 q1).1 q2) (fun _ _ a3 => ⟨(a3).1, ⟨by decide, ⟨((a3).2).1, ⟨by decide, ((a3).2).2⟩⟩⟩⟩)), fun q2 => ((a0).2 q1).2 q2⟩⟩))
theorem c_Sto_sew {x1 x2 : Int} {μ : zk_M} {Q : Int → zk_M → Prop} (h : zk_C 89 [.inr (.inr (.inl 3))] μ (zk_RI fun r2 μ1 => (r2 < 0 → (Q (-1) μ1)) ∧ (¬ (r2 < 0) → ((r2 < 30 → (zk_C 90 [.inr (.inr (.inl 3))] μ1 (zk_RI fun r4 μ3 => ((0 : Int) ≤ r2 ∧ (r2 : Int) < 32) ∧ (((-2147483648 : Int) ≤ (((zk_set μ3 4 r2 (zk_or (zk_or (zk_or x1 (zk_shl r4 3)) (zk_shl x2 13)) (zk_shl x2 16))) 4 30) + 1) ∧ ((((zk_set μ3 4 r2 (zk_or (zk_or (zk_or x1 (zk_shl r4 3)) (zk_shl x2 13)) (zk_shl x2 16))) 4 30) + 1) : Int) ≤ 2147483647) ∧ (Q r2 (zk_set (zk_set μ3 4 r2 (zk_or (zk_or (zk_or x1 (zk_shl r4 3)) (zk_shl x2 13)) (zk_shl x2 16))) 4 30 (((zk_set μ3 4 r2 (zk_or (zk_or (zk_or x1 (zk_shl r4 3)) (zk_shl x2 13)) (zk_shl x2 16))) 4 30) + 1))))))) ∧ (¬ (r2 < 30) → (Q (-1) μ1)))))) : zk_C 99 [.inr (.inr (.inl 3)), .inl x1, .inl x2] μ (zk_RI Q) := zk_c zk_Sto_sew rfl (t_Sto_sew_0 h)
def zc_Sto_drop : List zk_E := [(0, .aload_n 0, 0, 0, 0, 0, 0),
  (1, .iload_n 1, 0, 0, 0, 0, 0),
  (2, .bipush 6, 0, 0, 0, 0, 0),
  (4, .aload_n 0, 0, 0, 0, 0, 0),
  (5, .iload_n 1, 0, 0, 0, 0, 0),
  (6, .invokevirtual 35, 9, 97, 0, 2, 1),
  (9, .invokevirtual 38, 9, 102, 0, 4, 0),
  (12, .return_, 0, 0, 0, 0, 0)]
theorem zk_Sto_drop : zk_ckM 100 zc_Sto_drop 2 = true := by decide +kernel
theorem t_Sto_drop_0 {x1 : Int} {μ : zk_M} {Q : zk_M → Prop} (h : zk_C 97 [.inr (.inr (.inl 3)), .inl x1] μ (zk_RI fun r2 μ1 => zk_C 102 [.inr (.inr (.inl 3)), .inl x1, .inl 6, .inl r2] μ1 (zk_RV fun μ3 => Q μ3))) : zk_K 100 0 [.inr (.inr (.inl 3)), .inl x1] [] μ (zk_RV Q) := zk_t zk_Sto_drop [] 0 10 rfl h
theorem c_Sto_drop {x1 : Int} {μ : zk_M} {Q : zk_M → Prop} (h : zk_C 97 [.inr (.inr (.inl 3)), .inl x1] μ (zk_RI fun r2 μ1 => zk_C 102 [.inr (.inr (.inl 3)), .inl x1, .inl 6, .inl r2] μ1 (zk_RV fun μ3 => Q μ3))) : zk_C 100 [.inr (.inr (.inl 3)), .inl x1] μ (zk_RV Q) := zk_c zk_Sto_drop rfl (t_Sto_drop_0 h)
def zc_Sto_give : List zk_E := [(0, .aload_n 0, 0, 0, 0, 0, 0),
  (1, .iload_n 1, 0, 0, 0, 0, 0),
  (2, .iload_n 2, 0, 0, 0, 0, 0),
  (3, .iload_n 2, 0, 0, 0, 0, 0),
  (4, .invokevirtual 38, 9, 102, 0, 4, 0),
  (7, .return_, 0, 0, 0, 0, 0)]
theorem zk_Sto_give : zk_ckM 101 zc_Sto_give 3 = true := by decide +kernel
theorem t_Sto_give_0 {x1 x2 : Int} {μ : zk_M} {Q : zk_M → Prop} (h : zk_C 102 [.inr (.inr (.inl 3)), .inl x1, .inl x2, .inl x2] μ (zk_RV fun μ1 => Q μ1)) : zk_K 101 0 [.inr (.inr (.inl 3)), .inl x1, .inl x2] [] μ (zk_RV Q) := zk_t zk_Sto_give [] 0 8 rfl h
theorem c_Sto_give {x1 x2 : Int} {μ : zk_M} {Q : zk_M → Prop} (h : zk_C 102 [.inr (.inr (.inl 3)), .inl x1, .inl x2, .inl x2] μ (zk_RV fun μ1 => Q μ1)) : zk_C 101 [.inr (.inr (.inl 3)), .inl x1, .inl x2] μ (zk_RV Q) := zk_c zk_Sto_give rfl (t_Sto_give_0 h)
def zc_Sto_move : List zk_E := [(0, .aload_n 0, 0, 0, 0, 0, 0),
  (1, .iload_n 1, 0, 0, 0, 0, 0),
  (2, .invokevirtual 42, 9, 92, 0, 2, 1),
  (5, .ifCond .eq 32, 0, 22, 0, 0, 0),
  (8, .aload_n 0, 0, 0, 0, 0, 0),
  (9, .getfield 11, 0, 9, 0, 0, 3),
  (12, .iload_n 1, 0, 0, 0, 0, 0),
  (13, .aload_n 0, 0, 0, 0, 0, 0),
  (14, .iload_n 1, 0, 0, 0, 0, 0),
  (15, .invokevirtual 46, 9, 94, 0, 2, 1),
  (18, .aload_n 0, 0, 0, 0, 0, 0),
  (19, .iload_n 1, 0, 0, 0, 0, 0),
  (20, .invokevirtual 49, 9, 95, 0, 2, 1),
  (23, .iconst 3, 0, 0, 0, 0, 0),
  (24, .ishl, 0, 0, 0, 0, 0),
  (25, .ior, 0, 0, 0, 0, 0),
  (26, .iload_n 2, 0, 0, 0, 0, 0),
  (27, .bipush 13, 0, 0, 0, 0, 0),
  (29, .ishl, 0, 0, 0, 0, 0),
  (30, .ior, 0, 0, 0, 0, 0),
  (31, .iload_n 3, 0, 0, 0, 0, 0),
  (32, .bipush 16, 0, 0, 0, 0, 0),
  (34, .ishl, 0, 0, 0, 0, 0),
  (35, .ior, 0, 0, 0, 0, 0),
  (36, .iastore, 0, 0, 0, 0, 0),
  (37, .return_, 0, 0, 0, 0, 0)]
theorem zk_Sto_move : zk_ckM 102 zc_Sto_move 4 = true := by decide +kernel
theorem t_Sto_move_0 {x1 x2 x3 : Int} {μ : zk_M} {Q : zk_M → Prop} (h : zk_C 92 [.inr (.inr (.inl 3)), .inl x1] μ (zk_RI fun r2 μ1 => (r2 = 0 → (Q μ1)) ∧ (¬ r2 = 0 → (zk_C 94 [.inr (.inr (.inl 3)), .inl x1] μ1 (zk_RI fun r4 μ3 => zk_C 95 [.inr (.inr (.inl 3)), .inl x1] μ3 (zk_RI fun r6 μ5 => ((0 : Int) ≤ x1 ∧ (x1 : Int) < 32) ∧ (Q (zk_set μ5 4 x1 (zk_or (zk_or (zk_or r4 (zk_shl r6 3)) (zk_shl x2 13)) (zk_shl x3 16)))))))))) : zk_K 102 0 [.inr (.inr (.inl 3)), .inl x1, .inl x2, .inl x3] [] μ (zk_RV Q) := zk_t zk_Sto_move [] 0 28 rfl h
theorem c_Sto_move {x1 x2 x3 : Int} {μ : zk_M} {Q : zk_M → Prop} (h : zk_C 92 [.inr (.inr (.inl 3)), .inl x1] μ (zk_RI fun r2 μ1 => (r2 = 0 → (Q μ1)) ∧ (¬ r2 = 0 → (zk_C 94 [.inr (.inr (.inl 3)), .inl x1] μ1 (zk_RI fun r4 μ3 => zk_C 95 [.inr (.inr (.inl 3)), .inl x1] μ3 (zk_RI fun r6 μ5 => ((0 : Int) ≤ x1 ∧ (x1 : Int) < 32) ∧ (Q (zk_set μ5 4 x1 (zk_or (zk_or (zk_or r4 (zk_shl r6 3)) (zk_shl x2 13)) (zk_shl x3 16)))))))))) : zk_C 102 [.inr (.inr (.inl 3)), .inl x1, .inl x2, .inl x3] μ (zk_RV Q) := zk_c zk_Sto_move rfl (t_Sto_move_0 h)
