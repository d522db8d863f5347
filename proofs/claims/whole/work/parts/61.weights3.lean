/-! weights and who goes on the reference's side *-/
def zvM (μ : zk_M) (x : Int) (s : Int) (p : Nat × Nat) (L : Option (List (Int × Int))) : Prop := (x = -1 ∧ L = none) ∨ ∃ t : Nat, t < 4 ∧ x = (t : Int) ∧ (0 ≤ μ 63 (680 * t) ∧ μ 63 (680 * t) ≤ 24) ∧ zx_law μ t s L ∧ ∀ l, L = some l → zx_ty l (0, 0) = some p
def zi_lm : List Nat := [66, 67, 68]
section
variable {μ : zk_M} {BV : zk_M → Prop} {B : Int → zk_M → Prop} {σ : za_S} {sis : Int}
theorem sp_clauseOf {x s : Int} {p : Nat × Nat} {L : Option (List (Int × Int))} (hL : zvM μ x s p L) (hn : L = none → B (-1) μ) (hy : ∀ (l : List (Int × Int)) (t j f : Nat), L = some l → t < 4 → x = (t : Int) → j < 24 → μ 63 (680 * t + 2 + 3 * j) = (f : Int) → μ 63 (680 * t + 3 + 3 * j) = (f : Int) + l.length → f + l.length ≤ 302 → (∀ (i : Nat) (q : Int × Int), l[i]? = some q → μ 63 (680 * t + 75 + 2 * (f + i)) = q.1 ∧ μ 63 (680 * t + 76 + 2 * (f + i)) = q.2) → zx_ty l (0, 0) = some p → B (j : Int) μ) : zk_C 198 [.inr (.inr (.inl 60)), .inl x, .inl s] μ (zk_RI B) := by
  rcases hL with ⟨rfl, rfl⟩ | ⟨t, ht, rfl, hc, hl, hty⟩
  · exact c_Mod_clauseOf (t_Mod_clauseOf_2 ⟨fun _ => hn rfl, fun q => absurd (by decide) q⟩)
  · obtain ⟨c, hcc⟩ := Int.eq_ofNat_of_zero_le hc.1
    have step : ∀ (n : Nat), n < c → (μ 63 (680 * (t : Int) + 1 + 3 * n) = s → B (n : Int) μ) → (μ 63 (680 * (t : Int) + 1 + 3 * n) ≠ s → zk_K 198 2 [.inr (.inr (.inl 60)), .inl (t : Int), .inl s, .inl ((n + 1 : Nat) : Int)] [] μ (zk_RI B)) → zk_K 198 2 [.inr (.inr (.inl 60)), .inl (t : Int), .inl s, .inl (n : Int)] [] μ (zk_RI B) := fun n hn h1 h2 =>
      t_Mod_clauseOf_2 ⟨fun q => by omega, fun _ => ⟨by omega, by omega, fun q => by omega, fun _ => ⟨by omega, by omega, by omega, by omega, by omega, fun q => ⟨by omega, h2 q⟩, fun q => h1 q⟩⟩⟩
    cases L with
    | none =>
      have lp : ∀ n, n ≤ c → zk_K 198 2 [.inr (.inr (.inl 60)), .inl (t : Int), .inl s, .inl (n : Int)] [] μ (zk_RI B) :=
        zl_up (t_Mod_clauseOf_2 ⟨fun q => by omega, fun _ => ⟨by omega, by omega, fun _ => hn rfl, fun q => absurd (Int.le_of_eq hcc) q⟩⟩) (fun n hn ih => step n hn (fun e => absurd e (hl n (by omega))) (fun _ => ih))
      exact c_Mod_clauseOf (lp 0 (Nat.zero_le _))
    | some l =>
      obtain ⟨j, f, j1, j2, j3, j4, j5, j6, j7⟩ := hl
      have lp : ∀ n, n ≤ j → zk_K 198 2 [.inr (.inr (.inl 60)), .inl (t : Int), .inl s, .inl (n : Int)] [] μ (zk_RI B) :=
        zl_up (step j (by omega) (fun _ => hy l t j f rfl ht rfl (by omega) j4 j5 j6 j7 (hty l rfl)) (fun e => absurd j2 e)) (fun n hn ih => step n (by omega) (fun e => absurd e (j3 n hn)) (fun _ => ih))
      exact c_Mod_clauseOf (lp 0 (Nat.zero_le _))
theorem sp_nameM {n sin : Int} (hk : za_ok σ sis) (h : za_M (μ 61) σ) (h0 : 0 ≤ n) (hn : n < σ.1.1) (hB : ∀ μ', zq [66] μ μ' → (∀ i : Int, 0 ≤ i → i < 5 → μ' 66 i = zv_nm (σ.1.2.2 n.toNat) σ.1.2.1 n sin i) → BV μ') : zk_C 199 [.inr (.inr (.inl 60)), .inl n, .inl sin] μ (zk_RV BV) := by
  have hw := hk.1.2.2.1 n.toNat (by omega)
  have hd := hk.1.2.1
  unfold za_w1 at hw
  refine c_Mod_name (za_getM hk h h0 hn (by decide) (by decide) (za_getM hk (by rw [zk_set_o (by decide)]; exact h) h0 hn (by decide) (by decide) ?_))
  rw [h.2.1]
  refine ⟨by show _ ≤ σ.1.2.1 - (σ.1.2.2 n.toNat).2.1 ∧ σ.1.2.1 - (σ.1.2.2 n.toNat).2.1 ≤ _; omega, za_getM hk (by rw [zk_set_o (by decide), zk_set_o (by decide)]; exact h) h0 hn (by decide) (by decide) (hB _ (((((zq.rf _ _).set (by decide) _ _).set (by decide) _ _ |>.set (by decide) _ _).set (by decide) _ _).set (by decide) _ _) (fun i i1 i2 => ?_))⟩
  rcases (show i = 0 ∨ i = 1 ∨ i = 2 ∨ i = 3 ∨ i = 4 by omega) with rfl | rfl | rfl | rfl | rfl <;> simp [zk_set, zv_nm, za_k]
end
