/-! the walk by computation is right *-/
theorem zk_pcAt_of {cs : List zk_E} {k : Nat} {t : Int} {e : zk_E} {cs' : List zk_E} (h : zk_pcAt cs k t = true) (hd : cs.drop k = e :: cs') : (e.1 : Int) = t := by
  unfold zk_pcAt at h
  rw [hd] at h
  exact eq_of_beq h
theorem zk_nl_of {ls : List zk_V} {i : Nat} (h : zk_nl ls i = true) : ∀ x, i ≠ 0 → ls[i - 1]? ≠ some (.inr (.inl x)) := by
  intro x hi hx
  match i, h, hi with
  | j + 1, h, _ =>
    simp only [zk_nl] at h
    rw [Nat.add_sub_cancel] at hx
    rw [hx] at h
    cases h
theorem zk_cond {b : Bool} {P : Prop} (h : cond b P False) : b = true ∧ P := by
  cases b with
  | true => exact ⟨rfl, h⟩
  | false => exact h.elim
theorem zk_rho_N (k c : Nat) : zk_rho k (c : Int) = zk_rhoN k c := by
  unfold zk_rho zk_rhoN
  rw [if_pos (by omega)]
  rfl
theorem zk_fvN_eq (μ : zk_M) (k t c : Nat) : zk_fv (80, zk_rho, μ) k t (c : Int) = zk_fvN μ k t c (c : Int) := by
  match t with
  | 0 => rfl
  | 1 => rfl
  | 2 => rfl
  | 3 => show (.inr (.inr (.inl (zk_rho k (c : Int)))) : zk_V) = _; rw [zk_rho_N]; rfl
  | (_ + 4) => rfl
theorem zk_sh_lt {k t : Nat} (h : zk_sh k = t) (ht : t ≠ 99) : 1 ≤ k ∧ k ≤ 80 := by
  have h0 : k ≠ 0 := by
    rintro rfl
    exact ht h.symm
  refine ⟨by omega, ?_⟩
  rcases Nat.lt_or_ge k 81 with hk | hk
  · omega
  · exfalso
    apply ht
    rw [← h]
    unfold zk_sh
    rw [List.getD_eq_getElem?_getD, List.getElem?_eq_none (by show 81 ≤ k; exact hk)]
    rfl
theorem zk_take {st : List zk_V} {c : Nat} : st = ((st.take c).reverse).reverse ++ st.drop c := by rw [List.reverse_reverse, List.take_append_drop]
theorem zk_elem {α : Type} [BEq α] [LawfulBEq α] {a : α} {l : List α} (h : l.elem a = true) : a ∈ l := List.elem_iff.mp h
theorem zk_rI_of' {x : Int} (h : -2147483648 ≤ x ∧ x ≤ 2147483647) : zk_rI x := h
theorem zk_kK {mid pc : Nat} {ls st : List zk_V} {μ : zk_M} {Q : Option zk_V → zk_M → Prop} (h : zk_K mid pc ls st μ Q) : zk_Ok mid (zk_N1 mid) pc ls st (80, zk_rho, μ) (fun v S' => ∃ μ', S' = (80, zk_rho, μ') ∧ Q v μ') := h
section zk_sound
variable {mid pc a b c d : Nat} {z : Int} {cs : List zk_E} {K L : Nat → List zk_V → List zk_V → zk_M → Prop} {ls st : List zk_V} {μ : zk_M} {Q : Option zk_V → zk_M → Prop}
/-- a call: behind it -/
theorem zk_inv_sound {callee : Nat} {as rest : List zk_V} (hn : ∀ ls st μ, K 0 ls st μ → zk_K mid (pc + 3) ls st μ Q) (hL : ∀ pc ls st μ, L pc ls st μ → zk_K mid pc ls st μ Q) (h : zk_inv callee d pc as rest ls μ K L) :
    ∃ Q1 : Option zk_V → zk_S → Prop, zk_Ct callee as (80, zk_rho, μ) Q1 ∧ ∀ v S', Q1 v S' → zk_Ok mid (zk_N1 mid) (pc + 3) ls (v.toList ++ rest) S' (fun v S' => ∃ μ', S' = (80, zk_rho, μ') ∧ Q v μ') := by
  unfold zk_inv at h
  split at h
  · refine ⟨_, h, fun v S' hv => ?_⟩
    obtain ⟨μ', rfl, hq⟩ := hv
    match v, hq with
    | none, hq => exact hn _ _ _ hq
  · refine ⟨_, h, fun v S' hv => ?_⟩
    obtain ⟨μ', rfl, hq⟩ := hv
    match v, hq with
    | some (.inl r), hq => exact hn _ _ _ hq
  · refine ⟨_, h, fun v S' hv => ?_⟩
    obtain ⟨μ', rfl, hq⟩ := hv
    match v, hq with
    | some (.inr (.inl r)), hq => exact hn _ _ _ hq
  · refine ⟨_, h, fun v S' hv => ?_⟩
    obtain ⟨μ', rfl, hq⟩ := hv
    match v, hq with
    | some (.inr (.inr (.inl r))), hq => exact hL _ _ _ _ hq
theorem zk_if_sound {cnd : Jvm.ClassFile.Cond} {x y : Int} {A B : Prop} {P1 P2 : Prop} (h : zk_if cnd x y A B) (hA : A → P1) (hB : B → P2) : zk_if cnd x y P1 P2 := by
  cases cnd <;> exact ⟨fun q => hA (h.1 q), fun q => hB (h.2 q)⟩
theorem zk_chkC_of {mid b c d idx recv : Nat} (h : zk_chkC mid b c d idx recv = true) : (zk_own mid, idx, b) ∈ zk_LK ∧ b < zk_mtab.length ∧ c = zk_np b + recv ∧ zk_fr b + 1 ≤ zk_fr mid ∧ 8 + (zk_mL b + 11) + zk_lo b ≤ zk_lo mid ∧ zk_mc b = 0 ∧ zk_ms b = 0 := by
  unfold zk_chkC at h
  simp only [Bool.and_eq_true] at h
  obtain ⟨⟨h1, h2, h3, -, h5, h6⟩, h7, h8⟩ := h
  exact ⟨zk_elem h1, Nat.blt_eq.mp h2, Nat.eq_of_beq_eq_true h3, Nat.le_of_ble_eq_true h5, Nat.le_of_ble_eq_true h6, Nat.eq_of_beq_eq_true h7, Nat.eq_of_beq_eq_true h8⟩
theorem zk_tsw_pick {dflt x : Int} {J : Int → Prop} : ∀ (l : List Int) (v : Int), zk_tsw dflt x J l v → (∀ (j : Nat) (off : Int), l[j]? = some off → x = v + (j : Int) → J off) ∧ ((∀ j : Nat, j < l.length → x ≠ v + (j : Int)) → J dflt)
  | [], v, h => ⟨fun j off hj => by simp at hj, fun _ => h⟩
  | o :: l, v, h => by
    unfold zk_tsw at h
    by_cases ho : o = dflt
    · rw [if_pos ho] at h
      have ih := zk_tsw_pick l (v + 1) h
      refine ⟨fun j off hj hx => ?_, fun hx => ih.2 (fun j hj => by have := hx (j + 1) (by simp; omega); omega)⟩
      match j, hj, hx with
      | 0, hj, hx =>
        simp at hj
        rw [← hj, ho]
        exact ih.2 (fun j _ => by omega)
      | j + 1, hj, hx => exact ih.1 j off hj (by omega)
    · rw [if_neg ho] at h
      by_cases hv : x = v
      · refine ⟨fun j off hj hx => ?_, fun hx => absurd hv (by have := hx 0 (by simp); simpa using this)⟩
        have : j = 0 := by omega
        subst this
        simp at hj
        rw [← hj]
        exact h.1 hv
      · have ih := zk_tsw_pick l (v + 1) (h.2 hv)
        refine ⟨fun j off hj hx => ?_, fun hx => ih.2 (fun j hj => by have := hx (j + 1) (by simp; omega); omega)⟩
        match j, hj, hx with
        | 0, hj, hx => exact absurd (by omega) hv
        | j + 1, hj, hx => exact ih.1 j off hj (by omega)
theorem zk_chkJ_t {pc b c : Nat} {cs : List zk_E} {off : Int} (h : zk_chkJ pc b c cs off = true) : ∃ t : Nat, (pc : Int) + off = (t : Int) := by
  unfold zk_chkJ at h
  cases b with
  | zero => exact ⟨c, (eq_of_beq h).symm⟩
  | succ s =>
    simp only [zk_pcAt] at h
    split at h
    · cases h
    · exact ⟨_, (eq_of_beq h).symm⟩
theorem zk_sh_16' : ∀ k, k < 81 → zk_sh k ≠ 16 := by decide +kernel
theorem zk_sh_16 (k : Nat) : zk_sh k ≠ 16 := by
  intro h
  have := zk_sh_lt h (by omega)
  exact zk_sh_16' k (by omega) h
end zk_sound
