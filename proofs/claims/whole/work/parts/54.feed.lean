/-! feed *-/
theorem zf_255 : ∀ i : Fin 32, (255#32 : BitVec 32).getLsbD i.val = decide (i.val < 8) := by decide +kernel
theorem zf_bv (v : BitVec 32) (k : Nat) (hk : k ≤ 24) : (v >>> k) &&& 255#32 = (v.sshiftRight k) &&& 255#32 := by
  apply BitVec.eq_of_getLsbD_eq
  intro i hi
  rw [BitVec.getLsbD_and, BitVec.getLsbD_and, zf_255 ⟨i, hi⟩, BitVec.getLsbD_ushiftRight, BitVec.getLsbD_sshiftRight]
  by_cases q : i < 8
  · rw [if_pos (by omega : k + i < 32)]
    rw [show decide (32 ≤ i) = false from decide_eq_false (by omega)]
    simp
  · simp [q]
theorem zf_i32 (x : Int) : zk_I (zk_I x).toInt = zk_I x := by
  unfold zk_I
  rw [Int32.ofInt_toInt]
theorem zf_b (x k : Int) (hk : k = 24 ∨ k = 16 ∨ k = 8 ∨ k = 0) : zk_and (zk_ushr x k) 255 = zk_and (zk_shr x k) 255 := by
  unfold zk_and zk_ushr zk_shr
  have e : ∀ y : Int32, zk_I y.toInt = y := fun y => by unfold zk_I; exact Int32.ofInt_toInt y
  rw [e, e]
  congr 1
  apply Int32.toBitVec_inj.1
  rcases hk with q | q | q | q <;> subst q
  · exact zf_bv (zk_I x).toBitVec 24 (by decide)
  · exact zf_bv (zk_I x).toBitVec 16 (by decide)
  · exact zf_bv (zk_I x).toBitVec 8 (by decide)
  · exact zf_bv (zk_I x).toBitVec 0 (by decide)
theorem zf_r (x : Int) : 0 ≤ zk_and x 255 ∧ zk_and x 255 ≤ 255 := by
  unfold zk_and
  have h : (zk_I x &&& zk_I 255).toBitVec.toNat ≤ 255 := by
    show ((zk_I x).toBitVec &&& 255#32).toNat ≤ 255
    rw [BitVec.toNat_and]
    exact Nat.and_le_right
  have t : (zk_I x &&& zk_I 255).toInt = ((zk_I x &&& zk_I 255).toBitVec.toNat : Int) := by
    show (zk_I x &&& zk_I 255).toBitVec.toInt = _
    rw [BitVec.toInt_eq_toNat_cond, if_pos (by omega)]
  omega
section
variable {μ : zk_M} {BV : zk_M → Prop} {B : Int → zk_M → Prop}
/-- four bytes on the class's tape, on the reference's -/
def zf_4 (μ μ' : zk_M) (l b : Nat) (j : Int) (n : Nat) (x : Int) : Prop := (∀ i : Int, i < n → μ' b i = μ b i) ∧ (∀ i : Nat, i < 4 → μ' b (n + i) = zk_and (zk_shr x (24 - 8 * i)) 255) ∧ μ' l j = (n : Int) + 4 ∧ ∀ i : Int, i ≠ j → μ' l i = μ l i
theorem sp_add4 {x : Int} {n : Nat} (hn : n + 4 ≤ 300) (h1 : μ 42 1 = (n : Int)) (h : ∀ μ', zq [42, 43] μ μ' → zf_4 μ μ' 42 43 1 n x → BV μ') : zk_C 105 [.inr (.inr (.inl 42)), .inl x] μ (zk_RV BV) := by
  have st : ∀ (ν : zk_M) (j : Nat) (y : Int), (y = 24 ∨ y = 16 ∨ y = 8 ∨ y = 0) → j < 4 → ν 42 1 = (n : Int) + j → zk_K 105 3 [.inr (.inr (.inl 42)), .inl x, .inl (y + (-8))] [] (zk_set (zk_set ν 43 ((n : Int) + j) (zk_and (zk_shr x y) 255)) 42 1 ((n : Int) + j + 1)) (zk_RV BV) → zk_K 105 3 [.inr (.inr (.inl 42)), .inl x, .inl y] [] ν (zk_RV BV) := fun ν j y hy hj e hK => by
    have := zf_r (zk_shr x y)
    refine t_Tap_addFour_3 ⟨fun q => by omega, fun _ => ⟨fun q => by omega, fun _ => ⟨fun q => by omega, fun _ => ?_⟩⟩⟩
    rw [zf_b x y hy, e]
    exact ⟨by omega, by omega, by omega, by omega, by omega, hK⟩
  refine c_Tap_addFour (st μ 0 24 (by omega) (by decide) (by rw [h1]; simp) (st _ 1 16 (by omega) (by decide) ?_ (st _ 2 8 (by omega) (by decide) ?_ (st _ 3 0 (by omega) (by decide) ?_ (t_Tap_addFour_3 ⟨fun _ => h _ ?_ ⟨fun i hi => ?_, fun i hi => ?_, ?_, fun i hi => ?_⟩, fun q => absurd (by decide) q⟩)))))
  · rw [zk_set_s]; push_cast; omega
  · rw [zk_set_s]; push_cast; omega
  · rw [zk_set_s]; push_cast; omega
  · exact (((((((zq.rf _ _).set (by decide) _ _).set (by decide) _ _).set (by decide) _ _).set (by decide) _ _).set (by decide) _ _).set (by decide) _ _).set (by decide) _ _ |>.set (by decide) _ _
  · simp [zk_set]
    rw [if_neg (by omega), if_neg (by omega), if_neg (by omega), if_neg (by omega)]
  · rcases (show i = 0 ∨ i = 1 ∨ i = 2 ∨ i = 3 by omega) with rfl | rfl | rfl | rfl <;> simp [zk_set] <;> (repeat rw [if_neg (by omega)])
  · rw [zk_set_s]; push_cast; omega
  · simp [zk_set, hi]
theorem sp_four {x : Int} {n : Nat} (hn : n + 4 ≤ 300) (h1 : μ 60 4 = (n : Int)) (h : ∀ μ', zq [60, 64] μ μ' → zf_4 μ μ' 60 64 4 n x → BV μ') : zk_C 158 [.inr (.inr (.inl 60)), .inl x] μ (zk_RV BV) := by
  have st : ∀ (ν : zk_M) (j : Nat) (y : Int), (y = 24 ∨ y = 16 ∨ y = 8 ∨ y = 0) → j < 4 → ν 60 4 = (n : Int) + j → zk_K 158 3 [.inr (.inr (.inl 60)), .inl x, .inl (y + (-8))] [] (zk_set (zk_set ν 64 ((n : Int) + j) (zk_and (zk_shr x y) 255)) 60 4 ((n : Int) + j + 1)) (zk_RV BV) → zk_K 158 3 [.inr (.inr (.inl 60)), .inl x, .inl y] [] ν (zk_RV BV) := fun ν j y hy hj e hK => by
    refine t_Mod_four_3 ⟨fun q => by omega, fun _ => ?_⟩
    rw [e]
    exact ⟨by omega, by omega, by omega, hK⟩
  refine c_Mod_four (st μ 0 24 (by omega) (by decide) (by rw [h1]; simp) (st _ 1 16 (by omega) (by decide) ?_ (st _ 2 8 (by omega) (by decide) ?_ (st _ 3 0 (by omega) (by decide) ?_ (t_Mod_four_3 ⟨fun _ => h _ ?_ ⟨fun i hi => ?_, fun i hi => ?_, ?_, fun i hi => ?_⟩, fun q => absurd (by decide) q⟩)))))
  · rw [zk_set_s]; push_cast; omega
  · rw [zk_set_s]; push_cast; omega
  · rw [zk_set_s]; push_cast; omega
  · exact (((((((zq.rf _ _).set (by decide) _ _).set (by decide) _ _).set (by decide) _ _).set (by decide) _ _).set (by decide) _ _).set (by decide) _ _).set (by decide) _ _ |>.set (by decide) _ _
  · simp [zk_set]
    rw [if_neg (by omega), if_neg (by omega), if_neg (by omega), if_neg (by omega)]
  · rcases (show i = 0 ∨ i = 1 ∨ i = 2 ∨ i = 3 by omega) with rfl | rfl | rfl | rfl <;> simp [zk_set] <;> (repeat rw [if_neg (by omega)])
  · rw [zk_set_s]; push_cast; omega
  · simp [zk_set, hi]
end
/-- the class's tape behind five times four, then the reference's: bytes and length on their own -/
def zf_b5 (μ μ' : zk_M) (l b : Nat) (j : Int) (n : Nat) (x : Nat → Int) (m : Nat) : Prop := (∀ i : Int, i < n → μ' b i = μ b i) ∧ (∀ i : Nat, i < 4 * m → μ' b (n + i) = zk_and (zk_shr (x (i / 4)) (24 - 8 * (i % 4 : Nat))) 255) ∧ μ' l j = (n : Int) + 4 * m ∧ ∀ i : Int, i ≠ j → μ' l i = μ l i
theorem zf_b0 {μ : zk_M} {l b : Nat} {j : Int} {n : Nat} {x : Nat → Int} (h : μ l j = (n : Int)) : zf_b5 μ μ l b j n x 0 := ⟨fun _ _ => rfl, fun i hi => by omega, by rw [h]; simp, fun _ _ => rfl⟩
theorem zf_bs {μ ν ξ : zk_M} {l b : Nat} {j : Int} {n m : Nat} {x : Nat → Int} (h : zf_b5 μ ν l b j n x m) (k : zf_4 ν ξ l b j (n + 4 * m) (x m)) : zf_b5 μ ξ l b j n x (m + 1) := by
  obtain ⟨a1, a2, a3, a4⟩ := h
  obtain ⟨b1, b2, b3, b4⟩ := k
  refine ⟨fun i hi => by rw [b1 i (by omega), a1 i hi], fun i hi => ?_, by rw [b3]; omega, fun i hi => by rw [b4 i hi, a4 i hi]⟩
  by_cases q : i < 4 * m
  · rw [b1 _ (by omega), a2 i q]
  · have := b2 (i - 4 * m) (by omega)
    rw [show i / 4 = m by omega, show ((n : Int) + i) = ((n + 4 * m : Nat) : Int) + ((i - 4 * m : Nat) : Int) by omega, this]
    congr 2
    omega
theorem zo_feed (a b c d e : Int) : zo 117 159 [.inl a, .inl b, .inl c, .inl d, .inl e] := fun μ hi => by
  have hj := hi
  obtain ⟨h1, h2, h4, ⟨t1, t2, t3, t4⟩, h6, h7⟩ := hj
  obtain ⟨n, hn⟩ := Int.eq_ofNat_of_zero_le t2
  have ln : μ 42 1 = (n : Int) := by rw [t1, hn]
  refine c_Vos_feed (c_Tap_hasRoomFor ⟨by omega, fun q => ⟨fun q => absurd rfl q, fun _ => ⟨rfl, c_Mod_feed ⟨by omega, fun p => by omega, fun _ => ⟨rfl, hi, rfl⟩⟩⟩⟩, fun q => ⟨fun _ => ?_, fun q => absurd q (by decide)⟩⟩)
  let x : Nat → Int := fun i => if i = 0 then a else if i = 1 then b else if i = 2 then c else if i = 3 then d else e
  refine sp_add4 (n := n + 4 * 0) (by omega) (by rw [ln]; simp) fun μ1 z1 k1 => ?_
  have g1 := zf_bs (x := x) (zf_b0 ln) k1
  refine sp_add4 (n := n + 4 * 1) (by omega) (by rw [g1.2.2.1]; push_cast; omega) fun μ2 z2 k2 => ?_
  have g2 := zf_bs (x := x) g1 k2
  refine sp_add4 (n := n + 4 * 2) (by omega) (by rw [g2.2.2.1]; push_cast; omega) fun μ3 z3 k3 => ?_
  have g3 := zf_bs (x := x) g2 k3
  refine sp_add4 (n := n + 4 * 3) (by omega) (by rw [g3.2.2.1]; push_cast; omega) fun μ4 z4 k4 => ?_
  have g4 := zf_bs (x := x) g3 k4
  refine sp_add4 (n := n + 4 * 4) (by omega) (by rw [g4.2.2.1]; push_cast; omega) fun μ5 z5 k5 => ?_
  have g5 := zf_bs (x := x) g4 k5
  have z : zq [42, 43] μ μ5 := (((z1.tr z2).tr z3).tr z4).tr z5
  have e60 : μ5 60 = μ 60 := z 60 (by decide)
  have hn5 : μ5 60 4 = (n : Int) := by rw [e60, hn]
  refine ⟨z 0 (by decide), c_Mod_feed ⟨by omega, fun p => ?_, fun q => by omega⟩⟩
  refine sp_four (n := n + 4 * 0) (by omega) (by rw [hn5]; simp) fun ν1 y1 l1 => ?_
  have f1 := zf_bs (x := x) (zf_b0 hn5) l1
  refine sp_four (n := n + 4 * 1) (by omega) (by rw [f1.2.2.1]; push_cast; omega) fun ν2 y2 l2 => ?_
  have f2 := zf_bs (x := x) f1 l2
  refine sp_four (n := n + 4 * 2) (by omega) (by rw [f2.2.2.1]; push_cast; omega) fun ν3 y3 l3 => ?_
  have f3 := zf_bs (x := x) f2 l3
  refine sp_four (n := n + 4 * 3) (by omega) (by rw [f3.2.2.1]; push_cast; omega) fun ν4 y4 l4 => ?_
  have f4 := zf_bs (x := x) f3 l4
  refine sp_four (n := n + 4 * 4) (by omega) (by rw [f4.2.2.1]; push_cast; omega) fun ν5 y5 l5 => ?_
  have f5 := zf_bs (x := x) f4 l5
  have y : zq [60, 64] μ5 ν5 := (((y1.tr y2).tr y3).tr y4).tr y5
  have yz : zq [42, 43, 60, 64] μ ν5 := (z.up (by decide)).tr (y.up (by decide))
  obtain ⟨a1, a2, a3, a4⟩ := g5
  obtain ⟨b1, b2, b3, b4⟩ := f5
  refine ⟨by rw [a3, b3], ⟨zi_cv_cg (fun c hc => yz c (by simp; omega)) h1, zi_cv_cg (fun c hc => yz c (by simp; omega)) h2, by rw [yz 61 (by decide), yz 62 (by decide)]; exact h4, ⟨by rw [y 42 (by decide), a3, b3], by omega, by omega, fun i i1 i2 => ?_⟩, by rw [yz 44 (by decide), b4 5 (by decide), b4 6 (by decide), e60]; exact h6, fun t ht => ?_⟩, yz 0 (by decide)⟩
  · rw [y 43 (by decide)]
    by_cases q : i < n
    · rw [a1 i q, b1 i q, z 64 (by decide)]
      exact t4 i i1 (by omega)
    · obtain ⟨j, hj⟩ := Int.eq_ofNat_of_zero_le (show 0 ≤ i - n by omega)
      have e : i = (n : Int) + j := by omega
      rw [e, a2 j (by omega), b2 j (by omega)]
      exact ⟨rfl, zf_r _⟩
  · rw [yz 61 (by decide)] at ht
    have := h1.2.1.2.2
    exact zx_txt_cg (yz 63 (by decide)) (yz _ (by simp; omega)) (yz _ (by simp; omega)) (yz _ (by simp; omega)) (h7 t ht)
