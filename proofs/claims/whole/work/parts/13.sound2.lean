/-! one instruction *-/
theorem zk_chk_drop {mid : Nat} : ∀ (k : Nat) (cs : List zk_E), zk_chk mid cs = true → zk_chk mid (cs.drop k) = true
  | 0, cs, h => h
  | k + 1, [], h => h
  | k + 1, e :: cs, h => zk_chk_drop k cs ((Bool.and_eq_true _ _).mp h).2
section zk_sound2
variable {mid pc a b c d : Nat} {z : Int} {cs : List zk_E} {K L : Nat → List zk_V → List zk_V → zk_M → Prop} {ls st : List zk_V} {μ : zk_M} {Q : Option zk_V → zk_M → Prop}
set_option maxHeartbeats 4000000 in
theorem zk_sound1 {i : Instr} (hm1 : 80 = zk_N1 mid + zk_mc mid) (hm2 : zk_SZ 80 = zk_SZ (zk_N1 mid) + zk_ms mid) (hc : zk_chkE mid (pc, i, a, b, z, c, d) cs = true) (hK : ∀ k ls st μ, K k ls st μ → ∃ e' cs', cs.drop k = e' :: cs' ∧ zk_K mid e'.1 ls st μ Q) (hL : ∀ pc ls st μ, L pc ls st μ → zk_K mid pc ls st μ Q)
    (h : zk_stp (pc, i, a, b, z, c, d) cs K L ls st μ Q) : zk_K mid pc ls st μ Q := by
  unfold zk_chkE at hc
  rw [Bool.and_eq_true] at hc
  obtain ⟨hc1, hc2⟩ := hc
  obtain ⟨len, hd, hln, hnx⟩ : ∃ len, decode (zk_cc mid) pc = .ok (i, len) ∧ len = zk_len i len ∧ (zk_pcAt cs 0 ((pc + len : Nat) : Int) || cs.isEmpty) = true := by
    split at hc1
    · rename_i i' len hdec
      rw [Bool.and_eq_true, Bool.and_eq_true] at hc1
      obtain ⟨⟨hi, hl⟩, hnx⟩ := hc1
      have hi : i' = i := of_decide_eq_true hi
      subst hi
      exact ⟨len, hdec, Nat.eq_of_beq_eq_true hl, hnx⟩
    · cases hc1
  have hn : ∀ ls st μ, K 0 ls st μ → zk_K mid (pc + len) ls st μ Q := fun ls st μ hk => by
    obtain ⟨e', cs', e1, e2⟩ := hK 0 ls st μ hk
    have e3 : (zk_pcAt cs 0 ((pc + len : Nat) : Int)) = true := by
      rcases Bool.or_eq_true_iff.mp hnx with q | q
      · exact q
      · have : cs = [] := List.isEmpty_iff.mp q
        rw [this] at e1
        cases e1
    have e4 := zk_pcAt_of e3 e1
    have e5 : e'.1 = pc + len := by omega
    rw [e5] at e2
    exact e2
  have hj : ∀ off ls st μ, zk_chkJ pc b c cs off = true → zk_j b c K L ls st μ → ∃ tgt : Nat, (pc : Int) + off = (tgt : Int) ∧ zk_K mid tgt ls st μ Q := fun off ls st μ hcj hk => by
    unfold zk_chkJ at hcj
    unfold zk_j at hk
    cases b with
    | zero => exact ⟨c, (eq_of_beq hcj).symm, hL _ _ _ _ hk⟩
    | succ s =>
      obtain ⟨e', cs', e1, e2⟩ := hK s ls st μ hk
      exact ⟨e'.1, (zk_pcAt_of hcj e1).symm, e2⟩
  clear hc1 hnx
  cases i with
  | iconst n =>
    simp only [zk_len] at hln
    subst hln
    exact zk_r_iconst hd (zk_rI_of' (of_decide_eq_true hc2)) (hn _ _ _ h)
  | bipush n =>
    simp only [zk_len] at hln
    subst hln
    simp only [zk_chkI, Bool.and_eq_true, decide_eq_true_eq] at hc2
    exact zk_r_bipush hd hc2.2 hc2.1 (hn _ _ _ h)
  | sipush n =>
    simp only [zk_len] at hln
    subst hln
    simp only [zk_chkI, Bool.and_eq_true, decide_eq_true_eq] at hc2
    exact zk_r_sipush hd hc2.2 hc2.1 (hn _ _ _ h)
  | lconst n =>
    simp only [zk_len] at hln
    subst hln
    have hz : z = ((n.val : Nat) : Int) := of_decide_eq_true hc2
    subst hz
    exact zk_r_lconst hd (by match n with | 0 => rfl | 1 => rfl) (by match n with | 0 => (unfold zk_rJ; decide) | 1 => (unfold zk_rJ; decide)) (hn _ _ _ h)
  | aconst_null =>
    simp only [zk_len] at hln
    subst hln
    exact zk_r_null hd (hn _ _ _ h)
  | ldc idx =>
    simp only [zk_len] at hln
    subst hln
    match d, hc2, h with
    | 0, hc2, h =>
      simp only [zk_chkI, Bool.and_eq_true, decide_eq_true_eq] at hc2
      exact zk_r_ldc hd (zk_in_CT (List.mem_map.mpr ⟨_, zk_elem hc2.1, rfl⟩)) hc2.2 (hn _ _ _ h)
    | d + 1, hc2, h =>
      simp only [zk_chkI, Bool.and_eq_true] at hc2
      exact zk_r_ldcS hd (Nat.eq_of_beq_eq_true hc2.1) (Nat.eq_of_beq_eq_true hc2.2) (hn _ _ _ h)
  | ldc_w idx =>
    simp only [zk_len] at hln
    subst hln
    simp only [zk_chkI, Bool.and_eq_true, decide_eq_true_eq] at hc2
    exact zk_r_ldcw hd (zk_in_CT (List.mem_map.mpr ⟨_, zk_elem hc2.1, rfl⟩)) hc2.2 (hn _ _ _ h)
  | ldc2_w idx =>
    simp only [zk_len] at hln
    subst hln
    simp only [zk_chkI, Bool.and_eq_true, decide_eq_true_eq] at hc2
    exact zk_r_ldc2 hd (zk_in_LT (List.mem_map.mpr ⟨_, zk_elem hc2.1, rfl⟩)) hc2.2 (hn _ _ _ h)
  | iload i =>
    simp only [zk_len] at hln
    subst hln
    simp only [zk_stp] at h
    split at h
    · rename_i hx; exact zk_r_iload hd hx (hn _ _ _ h)
    · exact h.elim
  | iload_n i =>
    simp only [zk_len] at hln
    subst hln
    simp only [zk_stp] at h
    split at h
    · rename_i hx; exact zk_r_iload_n hd hx (hn _ _ _ h)
    · exact h.elim
  | lload i =>
    simp only [zk_len] at hln
    subst hln
    simp only [zk_stp] at h
    split at h
    · rename_i hx; exact zk_r_lload hd hx (hn _ _ _ h)
    · exact h.elim
  | lload_n i =>
    simp only [zk_len] at hln
    subst hln
    simp only [zk_stp] at h
    split at h
    · rename_i hx; exact zk_r_lload_n hd hx (hn _ _ _ h)
    · exact h.elim
  | aload i =>
    simp only [zk_len] at hln
    subst hln
    simp only [zk_stp] at h
    split at h
    · rename_i hx; obtain ⟨h1, h2⟩ := zk_cond h; exact zk_r_aload hd hx h1 (hn _ _ _ h2)
    · exact h.elim
  | aload_n i =>
    simp only [zk_len] at hln
    subst hln
    simp only [zk_stp] at h
    split at h
    · rename_i hx; obtain ⟨h1, h2⟩ := zk_cond h; exact zk_r_aload_n hd hx h1 (hn _ _ _ h2)
    · exact h.elim
  | istore i =>
    simp only [zk_len] at hln
    subst hln
    simp only [zk_stp] at h
    split at h
    · obtain ⟨h1, h2⟩ := zk_cond h; exact zk_r_istore hd (Nat.blt_eq.mp hc2) (zk_nl_of h1) (hn _ _ _ h2)
    · exact h.elim
  | istore_n i =>
    simp only [zk_len] at hln
    subst hln
    simp only [zk_stp] at h
    split at h
    · obtain ⟨h1, h2⟩ := zk_cond h; exact zk_r_istore_n hd (Nat.blt_eq.mp hc2) (zk_nl_of h1) (hn _ _ _ h2)
    · exact h.elim
  | astore i =>
    simp only [zk_len] at hln
    subst hln
    simp only [zk_stp] at h
    split at h
    · obtain ⟨h1, h2⟩ := zk_cond h; rw [Bool.and_eq_true] at h1; exact zk_r_astore hd h1.1 (Nat.blt_eq.mp hc2) (zk_nl_of h1.2) (hn _ _ _ h2)
    · exact h.elim
  | astore_n i =>
    simp only [zk_len] at hln
    subst hln
    simp only [zk_stp] at h
    split at h
    · obtain ⟨h1, h2⟩ := zk_cond h; rw [Bool.and_eq_true] at h1; exact zk_r_astore_n hd h1.1 (Nat.blt_eq.mp hc2) (zk_nl_of h1.2) (hn _ _ _ h2)
    · exact h.elim
  | iinc i n =>
    simp only [zk_len] at hln
    subst hln
    simp only [zk_stp] at h
    split at h
    · rename_i hx; obtain ⟨h1, h2, h3⟩ := zk_cond h; exact zk_r_iinc hd hx (Nat.blt_eq.mp hc2) (zk_nl_of h1) h2 (hn _ _ _ h3)
    · exact h.elim
  | iadd =>
    simp only [zk_len] at hln
    subst hln
    simp only [zk_stp] at h
    split at h
    · exact zk_r_iadd hd h.1 (hn _ _ _ h.2)
    · exact h.elim
  | isub =>
    simp only [zk_len] at hln
    subst hln
    simp only [zk_stp] at h
    split at h
    · exact zk_r_isub hd h.1 (hn _ _ _ h.2)
    · exact h.elim
  | imul =>
    simp only [zk_len] at hln
    subst hln
    simp only [zk_stp] at h
    split at h
    · exact zk_r_imul hd h.1 (hn _ _ _ h.2)
    · exact h.elim
  | ineg =>
    simp only [zk_len] at hln
    subst hln
    simp only [zk_stp] at h
    split at h
    · exact zk_r_ineg hd h.1 (hn _ _ _ h.2)
    · exact h.elim
  | ladd =>
    simp only [zk_len] at hln
    subst hln
    simp only [zk_stp] at h
    split at h
    · exact zk_r_ladd hd h.1 (hn _ _ _ h.2)
    · exact h.elim
  | lsub =>
    simp only [zk_len] at hln
    subst hln
    simp only [zk_stp] at h
    split at h
    · exact zk_r_lsub hd h.1 (hn _ _ _ h.2)
    · exact h.elim
  | lmul =>
    simp only [zk_len] at hln
    subst hln
    simp only [zk_stp] at h
    split at h
    · exact zk_r_lmul hd h.1 (hn _ _ _ h.2)
    · exact h.elim
  | lneg =>
    simp only [zk_len] at hln
    subst hln
    simp only [zk_stp] at h
    split at h
    · exact zk_r_lneg hd h.1 (hn _ _ _ h.2)
    · exact h.elim
  | l2i =>
    simp only [zk_len] at hln
    subst hln
    simp only [zk_stp] at h
    split at h
    · exact zk_r_l2i hd h.1 (hn _ _ _ h.2)
    · exact h.elim
  | idiv =>
    simp only [zk_len] at hln
    subst hln
    simp only [zk_stp] at h
    split at h
    · exact zk_r_idiv hd h.1.1 h.1.2 (hn _ _ _ h.2)
    · exact h.elim
  | irem =>
    simp only [zk_len] at hln
    subst hln
    simp only [zk_stp] at h
    split at h
    · exact zk_r_irem hd h.1.1 h.1.2 (hn _ _ _ h.2)
    · exact h.elim
  | ldiv =>
    simp only [zk_len] at hln
    subst hln
    simp only [zk_stp] at h
    split at h
    · exact zk_r_ldiv hd h.1.1 h.1.2 (hn _ _ _ h.2)
    · exact h.elim
  | i2c =>
    simp only [zk_len] at hln
    subst hln
    simp only [zk_stp] at h
    split at h
    · exact zk_r_i2c hd h.1.1 h.1.2 (hn _ _ _ h.2)
    · exact h.elim
  | iand =>
    simp only [zk_len] at hln
    subst hln
    simp only [zk_stp] at h
    split at h
    · exact zk_r_iand hd (hn _ _ _ h)
    · exact h.elim
  | ior =>
    simp only [zk_len] at hln
    subst hln
    simp only [zk_stp] at h
    split at h
    · exact zk_r_ior hd (hn _ _ _ h)
    · exact h.elim
  | ixor =>
    simp only [zk_len] at hln
    subst hln
    simp only [zk_stp] at h
    split at h
    · exact zk_r_ixor hd (hn _ _ _ h)
    · exact h.elim
  | ishl =>
    simp only [zk_len] at hln
    subst hln
    simp only [zk_stp] at h
    split at h
    · exact zk_r_ishl hd (hn _ _ _ h)
    · exact h.elim
  | ishr =>
    simp only [zk_len] at hln
    subst hln
    simp only [zk_stp] at h
    split at h
    · exact zk_r_ishr hd (hn _ _ _ h)
    · exact h.elim
  | iushr =>
    simp only [zk_len] at hln
    subst hln
    simp only [zk_stp] at h
    split at h
    · exact zk_r_iushr hd (hn _ _ _ h)
    · exact h.elim
  | lor =>
    simp only [zk_len] at hln
    subst hln
    simp only [zk_stp] at h
    split at h
    · exact zk_r_lor hd (hn _ _ _ h)
    · exact h.elim
  | lshl =>
    simp only [zk_len] at hln
    subst hln
    simp only [zk_stp] at h
    split at h
    · exact zk_r_lshl hd (hn _ _ _ h)
    · exact h.elim
  | lcmp =>
    simp only [zk_len] at hln
    subst hln
    simp only [zk_stp] at h
    split at h
    · exact zk_r_lcmp hd (hn _ _ _ h)
    · exact h.elim
  | i2l =>
    simp only [zk_len] at hln
    subst hln
    simp only [zk_stp] at h
    split at h
    · exact zk_r_i2l hd (hn _ _ _ h)
    · exact h.elim
  | dup =>
    simp only [zk_len] at hln
    subst hln
    simp only [zk_stp] at h
    split at h
    · exact zk_r_dup hd (fun _ q => by cases q) (hn _ _ _ h)
    · exact zk_r_dup hd (fun _ q => by cases q) (hn _ _ _ h)
    · exact h.elim
  | pop =>
    simp only [zk_len] at hln
    subst hln
    simp only [zk_stp] at h
    split at h
    · exact zk_r_pop hd (fun _ q => by cases q) (hn _ _ _ h)
    · exact zk_r_pop hd (fun _ q => by cases q) (hn _ _ _ h)
    · exact h.elim
  | dup2 =>
    simp only [zk_len] at hln
    subst hln
    simp only [zk_stp] at h
    split at h
    · exact zk_r_dup2 hd (fun _ q => by cases q) (fun _ q => by cases q) (hn _ _ _ h)
    · exact h.elim
  | goto off =>
    simp only [zk_len] at hln
    subst hln
    obtain ⟨t, e1, e2⟩ := hj off _ _ _ hc2 h
    exact zk_r_goto hd e1 e2
  | ifCond cnd off =>
    simp only [zk_len] at hln
    subst hln
    simp only [zk_stp] at h
    split at h
    · rename_i x st'
      cases cnd with
      | eq =>
        obtain ⟨q1, q2⟩ := h
        by_cases hb : (zk_j b c K L ls st' μ)
        · obtain ⟨t, e1, e2⟩ := hj off _ _ _ hc2 hb
          exact zk_r_if_eq hd e1 (fun _ => e2) (fun q => hn _ _ _ (q2 q))
        · obtain ⟨t, e1⟩ : ∃ t : Nat, (pc : Int) + off = (t : Int) := zk_chkJ_t hc2
          exact zk_r_if_eq hd e1 (fun q => absurd (q1 q) hb) (fun q => hn _ _ _ (q2 q))
      | ne =>
        obtain ⟨q1, q2⟩ := h
        by_cases hb : (zk_j b c K L ls st' μ)
        · obtain ⟨t, e1, e2⟩ := hj off _ _ _ hc2 hb
          exact zk_r_if_ne hd e1 (fun _ => e2) (fun q => hn _ _ _ (q2 q))
        · obtain ⟨t, e1⟩ : ∃ t : Nat, (pc : Int) + off = (t : Int) := zk_chkJ_t hc2
          exact zk_r_if_ne hd e1 (fun q => absurd (q1 q) hb) (fun q => hn _ _ _ (q2 q))
      | lt =>
        obtain ⟨q1, q2⟩ := h
        by_cases hb : (zk_j b c K L ls st' μ)
        · obtain ⟨t, e1, e2⟩ := hj off _ _ _ hc2 hb
          exact zk_r_if_lt hd e1 (fun _ => e2) (fun q => hn _ _ _ (q2 q))
        · obtain ⟨t, e1⟩ : ∃ t : Nat, (pc : Int) + off = (t : Int) := zk_chkJ_t hc2
          exact zk_r_if_lt hd e1 (fun q => absurd (q1 q) hb) (fun q => hn _ _ _ (q2 q))
      | ge =>
        obtain ⟨q1, q2⟩ := h
        by_cases hb : (zk_j b c K L ls st' μ)
        · obtain ⟨t, e1, e2⟩ := hj off _ _ _ hc2 hb
          exact zk_r_if_ge hd e1 (fun _ => e2) (fun q => hn _ _ _ (q2 q))
        · obtain ⟨t, e1⟩ : ∃ t : Nat, (pc : Int) + off = (t : Int) := zk_chkJ_t hc2
          exact zk_r_if_ge hd e1 (fun q => absurd (q1 q) hb) (fun q => hn _ _ _ (q2 q))
      | gt =>
        obtain ⟨q1, q2⟩ := h
        by_cases hb : (zk_j b c K L ls st' μ)
        · obtain ⟨t, e1, e2⟩ := hj off _ _ _ hc2 hb
          exact zk_r_if_gt hd e1 (fun _ => e2) (fun q => hn _ _ _ (q2 q))
        · obtain ⟨t, e1⟩ : ∃ t : Nat, (pc : Int) + off = (t : Int) := zk_chkJ_t hc2
          exact zk_r_if_gt hd e1 (fun q => absurd (q1 q) hb) (fun q => hn _ _ _ (q2 q))
      | le =>
        obtain ⟨q1, q2⟩ := h
        by_cases hb : (zk_j b c K L ls st' μ)
        · obtain ⟨t, e1, e2⟩ := hj off _ _ _ hc2 hb
          exact zk_r_if_le hd e1 (fun _ => e2) (fun q => hn _ _ _ (q2 q))
        · obtain ⟨t, e1⟩ : ∃ t : Nat, (pc : Int) + off = (t : Int) := zk_chkJ_t hc2
          exact zk_r_if_le hd e1 (fun q => absurd (q1 q) hb) (fun q => hn _ _ _ (q2 q))
    · exact h.elim
  | if_icmp cnd off =>
    simp only [zk_len] at hln
    subst hln
    simp only [zk_stp] at h
    split at h
    · rename_i y x st'
      cases cnd with
      | eq =>
        obtain ⟨q1, q2⟩ := h
        by_cases hb : (zk_j b c K L ls st' μ)
        · obtain ⟨t, e1, e2⟩ := hj off _ _ _ hc2 hb
          exact zk_r_icmp_eq hd e1 (fun _ => e2) (fun q => hn _ _ _ (q2 q))
        · obtain ⟨t, e1⟩ : ∃ t : Nat, (pc : Int) + off = (t : Int) := zk_chkJ_t hc2
          exact zk_r_icmp_eq hd e1 (fun q => absurd (q1 q) hb) (fun q => hn _ _ _ (q2 q))
      | ne =>
        obtain ⟨q1, q2⟩ := h
        by_cases hb : (zk_j b c K L ls st' μ)
        · obtain ⟨t, e1, e2⟩ := hj off _ _ _ hc2 hb
          exact zk_r_icmp_ne hd e1 (fun _ => e2) (fun q => hn _ _ _ (q2 q))
        · obtain ⟨t, e1⟩ : ∃ t : Nat, (pc : Int) + off = (t : Int) := zk_chkJ_t hc2
          exact zk_r_icmp_ne hd e1 (fun q => absurd (q1 q) hb) (fun q => hn _ _ _ (q2 q))
      | lt =>
        obtain ⟨q1, q2⟩ := h
        by_cases hb : (zk_j b c K L ls st' μ)
        · obtain ⟨t, e1, e2⟩ := hj off _ _ _ hc2 hb
          exact zk_r_icmp_lt hd e1 (fun _ => e2) (fun q => hn _ _ _ (q2 q))
        · obtain ⟨t, e1⟩ : ∃ t : Nat, (pc : Int) + off = (t : Int) := zk_chkJ_t hc2
          exact zk_r_icmp_lt hd e1 (fun q => absurd (q1 q) hb) (fun q => hn _ _ _ (q2 q))
      | ge =>
        obtain ⟨q1, q2⟩ := h
        by_cases hb : (zk_j b c K L ls st' μ)
        · obtain ⟨t, e1, e2⟩ := hj off _ _ _ hc2 hb
          exact zk_r_icmp_ge hd e1 (fun _ => e2) (fun q => hn _ _ _ (q2 q))
        · obtain ⟨t, e1⟩ : ∃ t : Nat, (pc : Int) + off = (t : Int) := zk_chkJ_t hc2
          exact zk_r_icmp_ge hd e1 (fun q => absurd (q1 q) hb) (fun q => hn _ _ _ (q2 q))
      | gt =>
        obtain ⟨q1, q2⟩ := h
        by_cases hb : (zk_j b c K L ls st' μ)
        · obtain ⟨t, e1, e2⟩ := hj off _ _ _ hc2 hb
          exact zk_r_icmp_gt hd e1 (fun _ => e2) (fun q => hn _ _ _ (q2 q))
        · obtain ⟨t, e1⟩ : ∃ t : Nat, (pc : Int) + off = (t : Int) := zk_chkJ_t hc2
          exact zk_r_icmp_gt hd e1 (fun q => absurd (q1 q) hb) (fun q => hn _ _ _ (q2 q))
      | le =>
        obtain ⟨q1, q2⟩ := h
        by_cases hb : (zk_j b c K L ls st' μ)
        · obtain ⟨t, e1, e2⟩ := hj off _ _ _ hc2 hb
          exact zk_r_icmp_le hd e1 (fun _ => e2) (fun q => hn _ _ _ (q2 q))
        · obtain ⟨t, e1⟩ : ∃ t : Nat, (pc : Int) + off = (t : Int) := zk_chkJ_t hc2
          exact zk_r_icmp_le hd e1 (fun q => absurd (q1 q) hb) (fun q => hn _ _ _ (q2 q))
    · exact h.elim
  | ifnull off =>
    simp only [zk_len] at hln
    subst hln
    simp only [zk_stp] at h
    split at h
    · rename_i r st
      by_cases hb : (zk_j b c K L ls st μ)
      · obtain ⟨t, e1, e2⟩ := hj off _ _ _ hc2 hb
        exact zk_r_ifnull hd e1 (fun _ => e2) (fun q => hn _ _ _ (h.2 q))
      · obtain ⟨t, e1⟩ : ∃ t : Nat, (pc : Int) + off = (t : Int) := zk_chkJ_t hc2
        exact zk_r_ifnull hd e1 (fun q => absurd (h.1 q) hb) (fun q => hn _ _ _ (h.2 q))
    · exact h.elim
  | ifnonnull off =>
    simp only [zk_len] at hln
    subst hln
    simp only [zk_stp] at h
    split at h
    · rename_i r st
      by_cases hb : (zk_j b c K L ls st μ)
      · obtain ⟨t, e1, e2⟩ := hj off _ _ _ hc2 hb
        exact zk_r_ifnonnull hd e1 (fun _ => e2) (fun q => hn _ _ _ (h.2 (Decidable.not_not.mp q)))
      · obtain ⟨t, e1⟩ : ∃ t : Nat, (pc : Int) + off = (t : Int) := zk_chkJ_t hc2
        exact zk_r_ifnonnull hd e1 (fun q => absurd (h.1 q) hb) (fun q => hn _ _ _ (h.2 (Decidable.not_not.mp q)))
    · exact h.elim
  | tableswitch dflt lo hi offs =>
    simp only [zk_stp] at h
    split at h
    · rename_i x st
      simp only [zk_chkI, Bool.and_eq_true, decide_eq_true_eq] at hc2
      obtain ⟨⟨hc3, hc4⟩, hc5⟩ := hc2
      obtain ⟨p1, p2⟩ := zk_tsw_pick _ _ h
      by_cases hin : lo ≤ x ∧ x ≤ hi
      · have hlt : (x - lo).toNat < offs.toList.length := by omega
        have hget : offs.toList[(x - lo).toNat]? = some offs.toList[(x - lo).toNat] := List.getElem?_eq_getElem hlt
        have hk := p1 (x - lo).toNat _ hget (by omega)
        obtain ⟨e', cs', e1, e2⟩ := hK _ _ _ _ hk
        have e3 := zk_pcAt_of (List.all_eq_true.mp hc4 _ (List.getElem_mem hlt)) e1
        exact zk_r_tsIn hd hin.1 hin.2 (by rw [← Array.getElem?_toList]; exact hget) e3.symm e2
      · have hk := p2 (fun j hj => by omega)
        obtain ⟨e', cs', e1, e2⟩ := hK _ _ _ _ hk
        exact zk_r_tsOut hd (by omega) (zk_pcAt_of hc3 e1).symm e2
    · exact h.elim
  | getfield idx =>
    simp only [zk_len] at hln
    subst hln
    simp only [zk_stp] at h
    split at h
    · obtain ⟨h1, h2⟩ := zk_cond h
      simp only [zk_chkI, Bool.and_eq_true, decide_eq_true_eq] at hc2
      obtain ⟨q1, q2, q3⟩ := hc2
      have hr := zk_elem q1
      have hsh := Nat.eq_of_beq_eq_true h1
      have hlt := zk_sh_lt hsh (by have := (zk_FL_ok _ hr).1; simp at this; omega)
      subst q2
      have q3 := Nat.eq_of_beq_eq_true q3
      subst q3
      rw [← zk_fvN_eq] at h2
      exact zk_r_getf hd hr hsh hlt.1 hlt.2 (hn _ _ _ h2)
    · exact h.elim
  | putfield idx =>
    simp only [zk_len] at hln
    subst hln
    simp only [zk_chkI, Bool.and_eq_true, decide_eq_true_eq, Bool.not_eq_true'] at hc2
    obtain ⟨q1, q2, q3, q4⟩ := hc2
    have hr := zk_elem q1
    have q3 := Nat.eq_of_beq_eq_true q3
    subst q2
    simp only [zk_stp] at h
    split at h
    · obtain ⟨h1, h2⟩ := zk_cond h
      have hsh := Nat.eq_of_beq_eq_true h1
      have hlt := zk_sh_lt hsh (by have := (zk_FL_ok _ hr).1; simp at this; omega)
      exact zk_r_puti hd hr hsh hlt.1 hlt.2 q4 q3 (hn _ _ _ h2)
    · obtain ⟨h1, h2⟩ := zk_cond h
      have hsh := Nat.eq_of_beq_eq_true h1
      have hlt := zk_sh_lt hsh (by have := (zk_FL_ok _ hr).1; simp at this; omega)
      exact zk_r_putl hd hr hsh hlt.1 hlt.2 q4 q3 (hn _ _ _ h2)
    · obtain ⟨h1, h2, h3⟩ := zk_cond h
      have hsh := Nat.eq_of_beq_eq_true h1
      have hlt := zk_sh_lt hsh (by have := (zk_FL_ok _ hr).1; simp at this; omega)
      exact zk_r_putz hd hr hsh hlt.1 hlt.2 q4 q3 h2 (hn _ _ _ h3)
    · exact h.elim
  | baload =>
    simp only [zk_len] at hln
    subst hln
    simp only [zk_stp] at h
    split at h
    · obtain ⟨h1, h2, h3⟩ := zk_cond h
      have hsh := Nat.eq_of_beq_eq_true h1
      have hlt := zk_sh_lt hsh (by omega)
      exact zk_r_zald hd hsh hlt.1 hlt.2 h2.1 h2.2 (hn _ _ _ h3)
    · exact h.elim
  | caload =>
    simp only [zk_len] at hln
    subst hln
    simp only [zk_stp] at h
    split at h
    · obtain ⟨h1, h2, h3⟩ := zk_cond h
      have hsh := Nat.eq_of_beq_eq_true h1
      have hlt := zk_sh_lt hsh (by omega)
      exact zk_r_cald hd hsh hlt.1 hlt.2 h2.1 h2.2 (hn _ _ _ h3)
    · exact h.elim
  | laload =>
    simp only [zk_len] at hln
    subst hln
    simp only [zk_stp] at h
    split at h
    · obtain ⟨h1, h2, h3⟩ := zk_cond h
      have hsh := Nat.eq_of_beq_eq_true h1
      have hlt := zk_sh_lt hsh (by omega)
      exact zk_r_lald hd hsh hlt.1 hlt.2 h2.1 h2.2 (hn _ _ _ h3)
    · exact h.elim
  | aaload =>
    simp only [zk_len] at hln
    subst hln
    simp only [zk_stp] at h
    split at h
    · obtain ⟨h1, h2, h3⟩ := zk_cond h
      have hsh := Nat.eq_of_beq_eq_true h1
      have hlt := zk_sh_lt hsh (by omega)
      exact zk_r_aald hd hsh hlt.1 hlt.2 h2.1 h2.2 (hn _ _ _ h3)
    · exact h.elim
  | iaload =>
    simp only [zk_len] at hln
    subst hln
    simp only [zk_stp] at h
    split at h
    · obtain ⟨h1, h2, h3⟩ := zk_cond h
      have hsh := Nat.eq_of_beq_eq_true h1
      have hlt := zk_sh_lt hsh (by omega)
      exact zk_r_iald hd hsh hlt.1 hlt.2 h2.1 h2.2 (hn _ _ _ h3)
    · obtain ⟨h1, h2, h3⟩ := zk_cond h
      have := Nat.eq_of_beq_eq_true h1
      subst this
      exact zk_r_sald hd h2.1 h2.2 (hn _ _ _ h3)
    · exact h.elim
  | arraylength =>
    simp only [zk_len] at hln
    subst hln
    simp only [zk_stp] at h
    split at h
    · obtain ⟨h1, h2⟩ := zk_cond h
      have hsh : zk_sh _ = 100 ∨ zk_sh _ = 103 := (Bool.or_eq_true_iff.mp h1).imp Nat.eq_of_beq_eq_true Nat.eq_of_beq_eq_true
      have hlt := hsh.elim (fun q => zk_sh_lt q (by omega)) (fun q => zk_sh_lt q (by omega))
      exact zk_r_alen hd hsh hlt.1 hlt.2 (hn _ _ _ h2)
    · obtain ⟨h1, h2⟩ := zk_cond h
      have := Nat.eq_of_beq_eq_true h1
      subst this
      exact zk_r_slen hd (hn _ _ _ h2)
    · exact h.elim
  | iastore =>
    simp only [zk_len] at hln
    subst hln
    simp only [zk_stp] at h
    split at h
    · obtain ⟨h1, h2, h3⟩ := zk_cond h
      have hsh := Nat.eq_of_beq_eq_true h1
      have hlt := zk_sh_lt hsh (by omega)
      exact zk_r_iast hd hsh hlt.1 hlt.2 h2.1 h2.2 (hn _ _ _ h3)
    · exact h.elim
  | lastore =>
    simp only [zk_len] at hln
    subst hln
    simp only [zk_stp] at h
    split at h
    · obtain ⟨h1, h2, h3⟩ := zk_cond h
      have hsh := Nat.eq_of_beq_eq_true h1
      have hlt := zk_sh_lt hsh (by omega)
      exact zk_r_last hd hsh hlt.1 hlt.2 h2.1 h2.2 (hn _ _ _ h3)
    · exact h.elim
  | bastore =>
    simp only [zk_len] at hln
    subst hln
    simp only [zk_stp] at h
    split at h
    · obtain ⟨h1, h2, h3, h4⟩ := zk_cond h
      have hsh := Nat.eq_of_beq_eq_true h1
      have hlt := zk_sh_lt hsh (by omega)
      exact zk_r_zast hd hsh hlt.1 hlt.2 h2.1 h2.2 h3 (hn _ _ _ h4)
    · exact h.elim
  | castore =>
    simp only [zk_len] at hln
    subst hln
    simp only [zk_stp] at h
    split at h
    · obtain ⟨h1, h2, h3, h4⟩ := zk_cond h
      have hsh := Nat.eq_of_beq_eq_true h1
      have hlt := zk_sh_lt hsh (by omega)
      exact zk_r_cast hd hsh hlt.1 hlt.2 h2.1 h2.2 h3.1 h3.2 (hn _ _ _ h4)
    · exact h.elim
  | invokevirtual idx =>
    simp only [zk_len] at hln
    subst hln
    simp only [zk_stp] at h
    obtain ⟨h1, h2⟩ := zk_cond h
    simp only [Bool.and_eq_true] at h1
    obtain ⟨h3, h4, h5⟩ := h1
    simp only [zk_chkI, Bool.and_eq_true] at hc2
    obtain ⟨g1, g2, g3, g4⟩ := hc2
    obtain ⟨r1, r2, r3, r4, r5, r6, r7⟩ := zk_chkC_of g1
    obtain ⟨Q1, k1, k2⟩ := zk_inv_sound hn hL h2
    have g3 := Nat.eq_of_beq_eq_true g3
    have h3 := Nat.eq_of_beq_eq_true h3
    generalize hA : (st.take c).reverse = A at h4 k1
    have hst : st = A.reverse ++ st.drop c := by rw [← hA]; exact zk_take
    have hlen : A.length = c := by rw [← hA, List.length_reverse]; exact h3
    rw [hst]
    match A, h4, k1, hlen with
    | .inr (.inr (.inl k)) :: as, h4, k1, hlen =>
      have hsh := Nat.eq_of_beq_eq_true h4
      have ha : a < 13 := by
        rcases Bool.or_eq_true_iff.mp g4 with q | q
        · exact Nat.blt_eq.mp q
        · exact absurd (hsh.trans (Nat.eq_of_beq_eq_true q)) (zk_sh_16 k)
      have hlt := zk_sh_lt hsh (by omega)
      rw [List.reverse_cons, List.append_assoc]
      exact zk_r_invV hd r1 r2 (Nat.eq_of_beq_eq_true g2) (by rw [← g3]; exact ha) (by rw [← g3]; exact hsh) hlt.1 hlt.2 (by simp at hlen; omega) (Nat.le_of_ble_eq_true h5) r4 r5 (by rw [r6]; exact Nat.le_of_eq hm1) (by rw [r7]; exact Nat.le_of_eq hm2) k1 k2
    | .inr (.inr (.inr n)) :: as, h4, k1, hlen =>
      have h4 := (Bool.and_eq_true _ _).mp h4
      have e1 := Nat.eq_of_beq_eq_true h4.1
      have e2 := Nat.eq_of_beq_eq_true h4.2
      subst e1
      rw [List.reverse_cons, List.append_assoc]
      exact zk_r_invVS hd r1 r2 (Nat.eq_of_beq_eq_true g2) (by rw [← g3, e2]; rfl) (by simp at hlen; omega) (Nat.le_of_ble_eq_true h5) r4 r5 (by rw [r6]; exact Nat.le_of_eq hm1) (by rw [r7]; exact Nat.le_of_eq hm2) k1 k2
  | invokestatic idx =>
    simp only [zk_len] at hln
    subst hln
    match a, hc2, h with
    | 0, hc2, h =>
      simp only [zk_stp] at h
      obtain ⟨h1, h2⟩ := zk_cond h
      simp only [Bool.and_eq_true] at h1
      obtain ⟨h3, h5⟩ := h1
      simp only [zk_chkI, Bool.and_eq_true] at hc2
      obtain ⟨g1, g2⟩ := hc2
      obtain ⟨r1, r2, r3, r4, r5, r6, r7⟩ := zk_chkC_of g1
      obtain ⟨Q1, k1, k2⟩ := zk_inv_sound hn hL h2
      have h3 := Nat.eq_of_beq_eq_true h3
      have hst : st = ((st.take c).reverse).reverse ++ st.drop c := zk_take
      rw [hst]
      exact zk_r_invS hd r1 r2 (Nat.eq_of_beq_eq_true g2) (by rw [List.length_reverse]; omega) (Nat.le_of_ble_eq_true h5) r4 r5 (by rw [r6]; exact Nat.le_of_eq hm1) (by rw [r7]; exact Nat.le_of_eq hm2) k1 k2
    | 1, hc2, h =>
      simp only [zk_stp] at h
      split at h
      · obtain ⟨h1, h2, h3⟩ := zk_cond h
        simp only [Bool.and_eq_true] at h1
        obtain ⟨g1, g2, g3⟩ := h1
        simp only [zk_chkI, Bool.and_eq_true] at hc2
        obtain ⟨r1, r2, r3⟩ := hc2
        have s1 := Nat.eq_of_beq_eq_true g1
        have s2 := Nat.eq_of_beq_eq_true g2
        exact zk_r_copy hd (zk_elem r1) rfl s1 s2 (zk_sh_lt s1 (by omega)) (zk_sh_lt s2 (by omega)) h2.1 h2.2.1 h2.2.2.1 h2.2.2.2.1 h2.2.2.2.2 (Nat.le_of_ble_eq_true g3) (Nat.le_of_ble_eq_true r2) (Nat.le_of_ble_eq_true r3) (hn _ _ _ h3)
      · exact h.elim
    | 2, hc2, h =>
      simp only [zk_stp] at h
      split at h
      · obtain ⟨h1, h2⟩ := zk_cond h
        simp only [zk_chkI, Bool.and_eq_true] at hc2
        obtain ⟨r1, r2, r3⟩ := hc2
        exact zk_r_mmax hd (zk_elem r1) (Nat.le_of_ble_eq_true h1) (Nat.le_of_ble_eq_true r2) (Nat.le_of_ble_eq_true r3) (Nat.le_of_eq hm1) (Nat.le_of_eq hm2) (hn _ _ _ h2)
      · exact h.elim
    | 3, hc2, h =>
      simp only [zk_stp] at h
      split at h
      · obtain ⟨h1, h2⟩ := zk_cond h
        simp only [zk_chkI, Bool.and_eq_true] at hc2
        obtain ⟨r1, r2, r3⟩ := hc2
        exact zk_r_mmin hd (zk_elem r1) (Nat.le_of_ble_eq_true h1) (Nat.le_of_ble_eq_true r2) (Nat.le_of_ble_eq_true r3) (Nat.le_of_eq hm1) (Nat.le_of_eq hm2) (hn _ _ _ h2)
      · exact h.elim
    | a + 4, hc2, h =>
      simp only [zk_stp] at h
      split at h
      · obtain ⟨h1, h2, h3⟩ := zk_cond h
        simp only [zk_chkI, Bool.and_eq_true] at hc2
        obtain ⟨r1, r2, r3⟩ := hc2
        exact zk_r_mabs hd (zk_elem r1) (Nat.le_of_ble_eq_true h1) (Nat.le_of_ble_eq_true r2) (Nat.le_of_ble_eq_true r3) (Nat.le_of_eq hm1) (Nat.le_of_eq hm2) h2 (hn _ _ _ h3)
      · exact h.elim
  | ireturn =>
    simp only [zk_len] at hln
    subst hln
    simp only [zk_stp] at h
    split at h
    · exact zk_r_ret (v := some (.inl _)) ⟨μ, rfl, h⟩ ⟨hd, .int, of_decide_eq_true hc2, rfl⟩ hm1 hm2
    · obtain ⟨h1, h2⟩ := zk_cond h
      exact zk_r_ret (v := some (.inl _)) ⟨μ, rfl, h2⟩ ⟨hd, .boolean, of_decide_eq_true hc2, by rcases of_decide_eq_true h1 with rfl | rfl <;> rfl⟩ hm1 hm2
    · exact zk_r_ret (v := some (.inl _)) ⟨μ, rfl, h.2⟩ ⟨hd, .boolean, of_decide_eq_true hc2, by rcases h.1 with rfl | rfl <;> rfl⟩ hm1 hm2
    · exact h.elim
  | lreturn =>
    simp only [zk_len] at hln
    subst hln
    simp only [zk_stp] at h
    split at h
    · exact zk_r_ret (v := some (.inr (.inl _))) ⟨μ, rfl, h⟩ ⟨hd, of_decide_eq_true hc2⟩ hm1 hm2
    · exact h.elim
  | areturn =>
    simp only [zk_len] at hln
    subst hln
    simp only [zk_stp] at h
    split at h
    · have hr := Nat.eq_of_beq_eq_true hc2
      refine zk_r_ret (v := some (.inr (.inr (.inl _)))) ⟨μ, rfl, h⟩ ⟨hd, ?_⟩ hm1 hm2
      revert hr
      generalize zk_rt mid = r
      intro hr
      unfold zk_rk at hr
      split at hr
      · cases hr
      · cases hr
      · exact ⟨_, rfl⟩
      · cases hr
    · exact h.elim
  | return_ =>
    simp only [zk_len] at hln
    subst hln
    simp only [zk_stp] at h
    split at h
    · exact zk_r_ret (v := none) ⟨μ, rfl, h⟩ ⟨hd, of_decide_eq_true hc2⟩ hm1 hm2
    · exact h.elim
  | _ => exact h.elim
theorem zk_sound {mid : Nat} (hm1 : 80 = zk_N1 mid + zk_mc mid) (hm2 : zk_SZ 80 = zk_SZ (zk_N1 mid) + zk_ms mid) (cuts : List Nat) {Q : Option zk_V → zk_M → Prop} : ∀ (n : Nat) (e : zk_E) (cs : List zk_E) (ls st : List zk_V) (μ : zk_M), zk_chk mid (e :: cs) = true → zk_wp mid cuts Q n (e :: cs) ls st μ → zk_K mid e.1 ls st μ Q
  | 0, _, _, _, _, _, _, h => h.elim
  | n + 1, e, cs, ls, st, μ, hc, h => by
    have hc1 := (Bool.and_eq_true _ _).mp hc
    refine zk_sound1 hm1 hm2 hc1.1 (fun k ls st μ hk => ?_) (fun pc ls st μ hl => hl) h
    have hk : (match cs.drop k with
      | [] => False
      | e' :: cs' => cond (cuts.elem e'.1) (zk_K mid e'.1 ls st μ Q) (zk_wp mid cuts Q n (e' :: cs') ls st μ)) := hk
    cases hd : cs.drop k with
    | nil => rw [hd] at hk; exact hk.elim
    | cons e' cs' =>
      rw [hd] at hk
      refine ⟨e', cs', rfl, ?_⟩
      have hk : cond (cuts.elem e'.1) (zk_K mid e'.1 ls st μ Q) (zk_wp mid cuts Q n (e' :: cs') ls st μ) := hk
      have hch : zk_chk mid (e' :: cs') = true := by
        rw [← hd]
        exact zk_chk_drop k cs hc1.2
      cases hcut : cuts.elem e'.1 with
      | true => rw [hcut] at hk; exact hk
      | false => rw [hcut] at hk; exact zk_sound hm1 hm2 cuts n e' cs' ls st μ hch hk
end zk_sound2
