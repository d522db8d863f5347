/-! weightBy and goes of the reference *-/
section
variable {μ : zk_M} {BV : zk_M → Prop} {B : Int → zk_M → Prop} {σ : za_S} {sis : Int}
theorem sp_work {t j f : Nat} (ht : t < 4) (hj : j < 24) {nm : Int → Int} (hnm : ∀ i : Int, 0 ≤ i → i < 5 → -1000000 ≤ nm i ∧ nm i ≤ 1000000) {l : List (Int × Int)} {p : Nat × Nat} (f1 : μ 63 (680 * t + 2 + 3 * j) = (f : Int)) (f2 : μ 63 (680 * t + 3 + 3 * j) = (f : Int) + l.length) (f3 : f + l.length ≤ 302) (f4 : ∀ (i : Nat) (q : Int × Int), l[i]? = some q → μ 63 (680 * t + 75 + 2 * (f + i)) = q.1 ∧ μ 63 (680 * t + 76 + 2 * (f + i)) = q.2) (hty : zx_ty l (0, 0) = some p) (hn : ∀ n : Int, 0 ≤ n → n < 5 → μ 66 n = nm n) (hB : ∀ μ', zq [67, 68] μ μ' → zr (μ' 67) (zv_run nm l ([], [])).2.length (zv_run nm l ([], [])).2 → zr (μ' 68) (zv_run nm l ([], [])).1.length (zv_run nm l ([], [])).1 → p = ((zv_run nm l ([], [])).1.length, (zv_run nm l ([], [])).2.length) → zv_ok (zv_run nm l ([], [])) → BV μ') : zk_C 197 [.inr (.inr (.inl 60)), .inl (t : Int), .inl (j : Int)] μ (zk_RV BV) := by
  refine c_Mod_work ?_
  have e1 : 680 * (t : Int) + 1 + 3 * (j : Int) = ((680 * t + 1 + 3 * j : Nat) : Int) := by omega
  have e2 : 680 * (t : Int) + 75 = ((680 * t + 75 : Nat) : Int) := by omega
  have e3 : μ 63 (((680 * t + 1 + 3 * j : Nat) : Int) + 1) = (f : Int) := by
    rw [← f1]
    congr 1
    omega
  rw [e1, e2, e3]
  refine ⟨by omega, by omega, by omega, by omega, by omega, by omega, by omega, by omega, sp_workK hnm (by omega) (by omega) l f μ [] [] p (fun i q hq => ?_) f3 ?_ hty (by decide) ⟨fun x hx => absurd hx (by simp), fun x hx => absurd hx (by simp)⟩ rfl rfl hn hB⟩
  · have := f4 i q hq
    rw [show (((680 * t + 75 : Nat) : Int) + 2 * ((f : Int) + (i : Int))) = 680 * (t : Int) + 75 + 2 * ((f : Int) + (i : Int)) by omega, show 680 * (t : Int) + 75 + 2 * ((f : Int) + (i : Int)) + 1 = 680 * (t : Int) + 76 + 2 * ((f : Int) + (i : Int)) by omega]
    exact this
  · rw [show (((680 * t + 1 + 3 * j : Nat) : Int) + 2) = 680 * (t : Int) + 3 + 3 * (j : Int) by omega, f2]
    omega
theorem sp_weightM {x n : Int} {L : Option (List (Int × Int))} (hk : za_ok σ sis) (hs : sis ≤ 6) (h : za_M (μ 61) σ) (h0 : 0 ≤ n) (hn : n < σ.1.1) (hL : zvM μ x 0 (0, 1) L) (hB : ∀ μ', zq zi_lm μ μ' → B (zv_wt L (σ.1.2.2 n.toNat) σ.1.2.1 n) μ') : zk_C 200 [.inr (.inr (.inl 60)), .inl x, .inl n] μ (zk_RI B) := by
  have hw := hk.1.2.2.1 n.toNat (by omega)
  have hd := hk.1.2.1
  have hc30 := hk.1.1
  have hw5 := hw
  unfold za_w1 at hw5
  refine c_Mod_weightBy (sp_clauseOf hL (fun e => ⟨fun q => absurd q (by decide), fun _ => za_getM hk h h0 hn (by decide) (by decide) ⟨by simp only [za_k, if_true]; omega, ?_⟩⟩) (fun l t j f e ht hx hj f1 f2 f3 f4 ty => ⟨fun _ => sp_nameM hk h h0 hn fun μ3 z3 g3 => ?_, fun q => by omega⟩))
  · subst e
    exact hB μ (zq.rf _ _)
  · subst e hx
    have e63 : μ3 63 = μ 63 := z3 63 (by decide)
    refine sp_work ht hj (nm := zv_nm (σ.1.2.2 n.toNat) σ.1.2.1 n 0) (fun i _ _ => zv_nm_r (n := n) (sin := 0) hw hd.2 hs (by omega) (by decide) i) (by rw [e63]; exact f1) (by rw [e63]; exact f2) f3 (by rw [e63]; exact f4) ty g3 (fun μ4 z4 k1 k2 k3 k4 => ?_)
    have hz : zq zi_lm μ μ4 := (z3.up (by decide)).tr (z4.up (by decide))
    have hb := hB μ4 hz
    have hb2 : B (max 0 (min 99 ((zv_run (zv_nm (σ.1.2.2 n.toNat) σ.1.2.1 n 0) l ([], [])).2.headD 0))) μ4 := hb
    generalize zv_run (zv_nm (σ.1.2.2 n.toNat) σ.1.2.1 n 0) l ([], []) = s at *
    injection k3 with p1 p2
    obtain ⟨y, hy⟩ := List.length_eq_one_iff.mp p2.symm
    rw [hy] at k1 hb2
    obtain ⟨m, hm, hf, hm0⟩ := k1
    have hm0 : m = 0 := hm0
    subst hm0
    have hf : μ4 67 0 = y := hf
    have hyr := k4.2 y (by rw [hy]; exact List.mem_cons_self)
    have c0 := (@zv_cmpI y 0).2.1
    have c99 := (@zv_cmpI y 99).1
    simp only [List.headD_cons] at hb2
    rw [hf]
    refine ⟨fun q => ⟨fun r => ⟨by omega, ?_⟩, fun r => ?_⟩, fun q => ?_⟩
    · rw [show max 0 (min 99 y) = y by omega] at hb2
      exact hb2
    · rw [show max 0 (min 99 y) = 99 by omega] at hb2
      exact hb2
    · rw [show max 0 (min 99 y) = 0 by omega] at hb2
      exact hb2
theorem sp_goesM {n sin : Int} {L : Option (List (Int × Int))} (hk : za_ok σ sis) (hs : sis ≤ 6) (h : za_M (μ 61) σ) (h0 : 0 ≤ n) (hn : n < σ.1.1) (hsin : 0 ≤ sin ∧ sin ≤ 5) (hL : zvM μ (μ 61 4) 1 (1, 0) L) (hB : ∀ μ', zq zi_lm μ μ' → B (if zv_go L (σ.1.2.2 n.toNat) σ.1.2.1 n sin then 1 else 0) μ') : zk_C 201 [.inr (.inr (.inl 60)), .inl n, .inl sin] μ (zk_RI B) := by
  have hw := hk.1.2.2.1 n.toNat (by omega)
  have hd := hk.1.2.1
  have hc30 := hk.1.1
  refine c_Mod_goes (sp_clauseOf hL (fun e => ⟨fun q => absurd q (by decide), fun _ => za_getM hk h h0 hn (by decide) (by decide) ?_⟩) (fun l t j f e ht hx hj f1 f2 f3 f4 ty => ⟨fun _ => sp_nameM hk h h0 hn fun μ3 z3 g3 => ?_, fun q => by omega⟩))
  · subst e
    have hb := hB μ (zq.rf _ _)
    show (¬ (σ.1.2.2 n.toNat).1 = sin → _) ∧ ((σ.1.2.2 n.toNat).1 = sin → _)
    refine ⟨fun q => ?_, fun q => ?_⟩
    · simpa [zv_go, q] using hb
    · simpa [zv_go, q] using hb
  · subst e
    have e63 : μ3 63 = μ 63 := z3 63 (by decide)
    rw [z3 61 (by decide), hx]
    refine sp_work ht hj (nm := zv_nm (σ.1.2.2 n.toNat) σ.1.2.1 n sin) (fun i _ _ => zv_nm_r (n := n) (sin := sin) hw hd.2 hs (by omega) (by omega) i) (by rw [e63]; exact f1) (by rw [e63]; exact f2) f3 (by rw [e63]; exact f4) ty g3 (fun μ4 z4 k1 k2 k3 k4 => ?_)
    have hz : zq zi_lm μ μ4 := (z3.up (by decide)).tr (z4.up (by decide))
    have hb := hB μ4 hz
    injection k3 with p1 p2
    obtain ⟨y, hy⟩ := List.length_eq_one_iff.mp p1.symm
    have hyr := k4.1 y (by rw [hy]; exact List.mem_cons_self)
    rw [hy] at k2
    obtain ⟨m, hm, hf, hm0⟩ := k2
    have hm0 : m = 0 := hm0
    subst hm0
    have hf : μ4 68 0 = y := hf
    have ego : zv_go (some l) (σ.1.2.2 n.toNat) σ.1.2.1 n sin = (y != 0) := by
      show ((zv_run (zv_nm (σ.1.2.2 n.toNat) σ.1.2.1 n sin) l ([], [])).1.headD 0 != 0) = _
      rw [hy]
      rfl
    rw [ego] at hb
    rw [hf]
    refine ⟨hyr, ?_⟩
    rcases hyr with r | r
    · rw [r] at hb ⊢
      simpa using hb
    · rw [r] at hb ⊢
      simpa using hb
end
