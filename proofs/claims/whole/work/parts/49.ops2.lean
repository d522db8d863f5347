/-! pass, forgive, later, undo *-/
theorem zb_s_st {f : Nat → Bool} {c n : Nat} (h : n < c) : zb_s f (c - n) n = if f n then (n : Int) else zb_s f (c - (n + 1)) (n + 1) := by
  rw [show c - n = (c - (n + 1)) + 1 by omega]
  rfl
theorem zb_s_rg (f : Nat → Bool) (c : Nat) : zb_s f c 0 = -1 ∨ 0 ≤ zb_s f c 0 ∧ zb_s f c 0 < (c : Int) := by
  rcases zb_s_spec f c 0 with h | ⟨j, _, h2, h3, _⟩
  · exact Or.inl h.1
  · right
    rw [h3]
    omega
/-- the first stone of kind k at f -/
def za_find (k f : Int) (σ : za_S) : Int := zb_s (fun n => (σ.1.2.2 n).2.2.1 == f && (σ.1.2.2 n).1 == k) σ.1.1 0
def za_pass (k f t sis : Int) (σ : za_S) : Int × za_S := if (0 ≤ f ∧ f < sis) ∧ (0 ≤ t ∧ t < sis) ∧ f ≠ t ∧ za_n σ t < 8 ∧ za_find k f σ ≠ -1 then (za_find k f σ, za_mv (za_find k f σ).toNat t t (za_keep σ)) else (-1, σ)
theorem za_pass_ok {k f t sis : Int} {σ : za_S} (h : za_ok σ sis) : za_ok (za_pass k f t sis σ).2 sis := by
  unfold za_pass
  split
  · rename_i q
    have r := zb_s_rg (fun n => (σ.1.2.2 n).2.2.1 == f && (σ.1.2.2 n).1 == k) σ.1.1
    rw [← za_find] at r
    exact za_mv_ok (za_keep_ok h) (show _ < σ.1.1 by omega) (Or.inl ⟨q.2.1.1, q.2.1.2, q.2.2.2.1⟩) q.2.1
  · exact h
def za_forg (n : Int) (σ : za_S) : Int × za_S := if (0 ≤ n ∧ n < σ.1.1) ∧ (σ.1.2.2 n.toNat).2.2.1 = 6 ∧ za_n σ (σ.1.2.2 n.toNat).2.2.2 < 8 then ((σ.1.2.2 n.toNat).2.2.2, za_mv n.toNat (σ.1.2.2 n.toNat).2.2.2 (σ.1.2.2 n.toNat).2.2.2 (za_keep σ)) else (-1, σ)
theorem za_forg_ok {n sis : Int} {σ : za_S} (h : za_ok σ sis) : za_ok (za_forg n σ).2 sis := by
  unfold za_forg
  split
  · rename_i q
    have w := (h.1.2.2.1 n.toNat (by omega)).2.2.2.2.2
    exact za_mv_ok (za_keep_ok h) (show _ < σ.1.1 by omega) (Or.inl ⟨w.1, w.2, q.2.2⟩) w
  · exact h
theorem za_strip_ok {n sis : Int} {σ : za_S} (h : za_ok σ sis) (hn : n = -1 ∨ 0 ≤ n ∧ n < σ.1.1) : za_ok (za_strip n σ).2 sis := by
  unfold za_strip
  split
  · exact h
  · have w := (h.1.2.2.1 n.toNat (by omega)).2.2.2.2.2
    exact za_mv_ok (za_keep_ok h) (show _ < σ.1.1 by omega) (Or.inr rfl) w
def za_days : Nat → za_S → za_S
  | 0, σ => σ
  | n + 1, σ => za_days n (za_day (za_keep σ))
theorem za_days_d : ∀ (n : Nat) (σ : za_S), (za_days n σ).1.2.1 = σ.1.2.1 + n
  | 0, σ => by simp [za_days]
  | n + 1, σ => by
    rw [za_days, za_days_d n]
    show σ.1.2.1 + 1 + (n : Int) = _
    push_cast
    omega
theorem za_days_ok {sis : Int} : ∀ (n : Nat) (σ : za_S), za_ok σ sis → σ.1.2.1 + n ≤ 999 → za_ok (za_days n σ) sis
  | 0, _, h, _ => h
  | n + 1, σ, h, hd => za_days_ok n _ (za_day_ok (za_keep_ok h) (by show σ.1.2.1 + 1 ≤ 999; omega)) (by show σ.1.2.1 + 1 + (n : Int) ≤ 999; omega)
def za_later (d : Int) (σ : za_S) : Int × za_S := if (1 ≤ d ∧ d ≤ 99) ∧ σ.1.2.1 + d ≤ 999 then (σ.1.2.1 + d, za_days d.toNat σ) else (-1, σ)
theorem za_later_ok {d sis : Int} {σ : za_S} (h : za_ok σ sis) : za_ok (za_later d σ).2 sis := by
  unfold za_later
  split
  · exact za_days_ok _ _ h (by omega)
  · exact h
def za_undo (σ : za_S) : Int × za_S := match σ.2.getLast? with
  | none => (-1, σ)
  | some r => ((σ.2.length : Int) - 1, (r, σ.2.dropLast))
theorem za_undo_ok {sis : Int} {σ : za_S} (h : za_ok σ sis) : za_ok (za_undo σ).2 sis := by
  obtain ⟨h1, h2, h3, h4⟩ := h
  unfold za_undo
  cases e : σ.2.getLast? with
  | none => exact ⟨h1, h2, h3, h4⟩
  | some r =>
    rw [List.getLast?_eq_getElem?] at e
    have dl : ∀ (j : Nat) (q : za_R), σ.2.dropLast[j]? = some q → j < σ.2.length - 1 ∧ σ.2[j]? = some q := fun j q hj => by
      rw [List.getElem?_dropLast] at hj
      split at hj
      · exact ⟨by assumption, hj⟩
      · exact absurd hj (by simp)
    refine ⟨(h3 _ _ e).1, by simp only [List.length_dropLast]; omega, fun j q hj => ?_, fun i j q p hij hi hj => h4 i j q p hij (dl _ _ hi).2 (dl _ _ hj).2⟩
    obtain ⟨a, b⟩ := dl j q hj
    exact ⟨(h3 _ _ b).1, h4 _ _ _ _ (by omega) b e⟩
section
variable {μ : zk_M} {BV : zk_M → Prop} {B : Int → zk_M → Prop} {σ : za_S} {sis : Int}
theorem za_passC {k f t : Int} (hk : za_ok σ sis) (hs6 : sis ≤ 6) (hs : μ 2 0 = sis) (h : za_C μ 4 σ) (hB : ∀ μ', zq [4, 5, 6] μ μ' → za_C μ' 4 (za_pass k f t sis σ).2 → B (za_pass k f t sis σ).1 μ') : zk_C 8 [.inr (.inr (.inl 2)), .inl k, .inl f, .inl t] μ (zk_RI B) := by
  have hf : ¬ ((0 ≤ f ∧ f < sis) ∧ (0 ≤ t ∧ t < sis) ∧ f ≠ t ∧ za_n σ t < 8 ∧ za_find k f σ ≠ -1) → B (-1) μ := fun q => by
    have e : za_pass k f t sis σ = (-1, σ) := if_neg q
    rw [e] at hB
    exact hB μ (zq.rf _ _) h
  have hc := za_C_c h
  have hc30 := hk.1.1
  refine c_Con_passOn (sp_hasSister (fun a1 a2 => ⟨fun q => absurd q (by decide), fun _ => sp_hasSister (fun b1 b2 => ⟨fun q => absurd q (by decide), fun _ => ⟨fun q => hf (by omega), fun q3 => za_roomC hk h (fun q4 => ⟨fun _ => ?_, fun q => absurd q (by decide)⟩) (fun q => ⟨fun q => absurd rfl q, fun _ => hf (by omega)⟩)⟩⟩) (fun q => ⟨fun _ => hf (by omega), fun q => absurd rfl q⟩)⟩) (fun q => ⟨fun _ => hf (by omega), fun q => absurd rfl q⟩))
  have lp : ∀ n, n ≤ σ.1.1 → (zb_s (fun n => (σ.1.2.2 n).2.2.1 == f && (σ.1.2.2 n).1 == k) (σ.1.1 - n) n = za_find k f σ → zk_K 8 34 [.inr (.inr (.inl 2)), .inl k, .inl f, .inl t, .inl (n : Int)] [] μ (zk_RI B)) := by
    refine zl_up (fun e => t_Con_passOn_34 (c_Sto_count ⟨fun _ => ?_, fun q => absurd (Int.le_of_eq hc) q⟩)) (fun n hn ih e => t_Con_passOn_34 (c_Sto_count ⟨fun q => by omega, fun _ => za_plC hk h (by omega) (by omega) ?_⟩))
    · rw [Nat.sub_self] at e
      exact hf (fun q => q.2.2.2.2 e.symm)
    · rw [Int.toNat_natCast]
      rw [zb_s_st hn] at e
      refine ⟨fun q => ⟨by omega, ih ?_⟩, fun q => za_kdC hk h (by omega) (by omega) ?_⟩
      · rw [← e, if_neg (by simp [q])]
      · rw [Int.toNat_natCast]
        refine ⟨fun p => ⟨by omega, ih ?_⟩, fun p => ?_⟩
        · rw [← e, if_neg (by simp [p])]
        · rw [if_pos (by simp [q, p])] at e
          have e2 : za_pass k f t sis σ = (za_find k f σ, za_mv (za_find k f σ).toNat t t (za_keep σ)) := if_pos ⟨by omega, by omega, q3, q4, by omega⟩
          rw [e2, ← e, Int.toNat_natCast] at hB
          refine za_keepC hk h fun μ1 z1 c1 => c_Sto_give (za_mvC (za_keep_ok hk) hs6 c1 (by omega) (by show (n : Int) < (σ.1.1 : Int); omega) (by omega) (by omega) fun μ2 z2 c2 => hB μ2 ((z1.up (by decide)).tr (z2.up (by decide))) ?_)
          rw [Int.toNat_natCast] at c2
          exact c2
  exact lp 0 (Nat.zero_le _) rfl
theorem za_lowM {k f : Int} (hk : za_ok σ sis) (h : za_M (μ 61) σ) (hB : B (za_find k f σ) μ) : zk_C 209 [.inr (.inr (.inl 60)), .inl k, .inl f] μ (zk_RI B) := by
  have hc := h.1
  have hc30 := hk.1.1
  have lp : ∀ n, n ≤ σ.1.1 → (zb_s (fun n => (σ.1.2.2 n).2.2.1 == f && (σ.1.2.2 n).1 == k) (σ.1.1 - n) n = za_find k f σ → zk_K 209 2 [.inr (.inr (.inl 60)), .inl k, .inl f, .inl (n : Int)] [] μ (zk_RI B)) := by
    refine zl_up (fun e => t_Mod_lowestOf_2 ⟨fun _ => ?_, fun q => absurd (Int.le_of_eq hc) q⟩) (fun n hn ih e => t_Mod_lowestOf_2 ⟨fun q => by omega, fun _ => za_getM hk h (by omega) (by omega) (by decide) (by decide) ?_⟩)
    · rw [Nat.sub_self] at e
      rw [← e] at hB
      exact hB
    · rw [Int.toNat_natCast]
      rw [zb_s_st hn] at e
      show (¬ (σ.1.2.2 n).2.2.1 = f → _) ∧ ((σ.1.2.2 n).2.2.1 = f → _)
      refine ⟨fun q => ⟨by omega, ih ?_⟩, fun q => za_getM hk h (by omega) (by omega) (by decide) (by decide) ?_⟩
      · rw [← e, if_neg (by simp [q])]
      · rw [Int.toNat_natCast]
        show (¬ (σ.1.2.2 n).1 = k → _) ∧ ((σ.1.2.2 n).1 = k → _)
        refine ⟨fun p => ⟨by omega, ih ?_⟩, fun p => ?_⟩
        · rw [← e, if_neg (by simp [p])]
        · rw [if_pos (by simp [q, p])] at e
          rw [← e] at hB
          exact hB
  exact c_Mod_lowestOf (lp 0 (Nat.zero_le _) rfl)
theorem za_find_k {k f : Int} (hk : za_ok σ sis) (h : za_find k f σ ≠ -1) : 0 ≤ k ∧ k ≤ 5 := by
  rcases zb_s_spec (fun n => (σ.1.2.2 n).2.2.1 == f && (σ.1.2.2 n).1 == k) σ.1.1 0 with q | ⟨j, _, q2, _, q4, _⟩
  · exact absurd q.1 h
  · have w := hk.1.2.2.1 j (by omega)
    unfold za_w1 at w
    simp at q4
    omega
theorem za_passM {k f t : Int} (hk : za_ok σ sis) (hs6 : 0 ≤ sis ∧ sis ≤ 6) (hs : μ 61 0 = sis) (h : za_M (μ 61) σ) (hB : ∀ μ', zq [61] μ μ' → (∀ i : Int, i < 46 → i ≠ 1 → i ≠ 2 → i ≠ 5 → μ' 61 i = μ 61 i) → za_M (μ' 61) (za_pass k f t sis σ).2 → B (za_pass k f t sis σ).1 μ') : zk_C 210 [.inr (.inr (.inl 60)), .inl k, .inl f, .inl t] μ (zk_RI B) := by
  have hf : ¬ ((0 ≤ f ∧ f < sis) ∧ (0 ≤ t ∧ t < sis) ∧ f ≠ t ∧ za_n σ t < 8 ∧ za_find k f σ ≠ -1) → B (-1) μ := fun q => by
    have e : za_pass k f t sis σ = (-1, σ) := if_neg q
    rw [e] at hB
    exact hB μ (zq.rf _ _) (fun _ _ _ _ _ => rfl) h
  have hc := h.1
  have hc30 := hk.1.1
  have hr := zb_s_rg (fun n => (σ.1.2.2 n).2.2.1 == f && (σ.1.2.2 n).1 == k) σ.1.1
  rw [← za_find] at hr
  refine c_Mod_pass (sp_isKind (fun a1 a2 => ⟨fun q => absurd q (by decide), fun _ => sp_isSister (by omega) (fun b1 b2 => ⟨fun q => absurd q (by decide), fun _ => sp_isSister (by omega) (fun c1 c2 => ⟨fun q => absurd q (by decide), fun _ => ⟨fun q => hf (by omega), fun q3 => za_roomM hk h (fun q4 => ⟨fun _ => za_lowM hk h ⟨fun q5 => ?_, fun q => hf (by omega)⟩, fun q => absurd q (by decide)⟩) (fun q => ⟨fun q => absurd rfl q, fun _ => hf (by omega)⟩)⟩⟩) (fun q => ⟨fun _ => hf (by omega), fun q => absurd rfl q⟩)⟩) (fun q => ⟨fun _ => hf (by omega), fun q => absurd rfl q⟩)⟩) (fun q => ⟨fun _ => hf (fun p => q (za_find_k hk p.2.2.2.2)), fun q => absurd rfl q⟩))
  have e2 : za_pass k f t sis σ = (za_find k f σ, za_mv (za_find k f σ).toNat t t (za_keep σ)) := if_pos ⟨by omega, by omega, q3, q4, by omega⟩
  rw [e2] at hB
  obtain ⟨n, en⟩ := Int.eq_ofNat_of_zero_le q5
  rw [en] at hB hr ⊢
  rw [Int.toNat_natCast] at hB
  refine za_keepM hk h fun μ1 z1 g1 c1 => sp_set (by omega) (by omega) (by decide) (by decide) (sp_set (by omega) (by omega) (by decide) (by decide) (hB _ ((z1.set (by decide) _ _).set (by decide) _ _) (fun i i1 i2 i3 i4 => ?_) (za_mvM (za_keep_ok hk) (show n < σ.1.1 by omega) c1 ?_ ?_ fun i i1 i2 => ?_)))
  · rw [zk_set_n (by omega), zk_set_n (by omega), g1 i (by omega) i4]
  · rw [zk_set_n (by omega), zk_set_e (by omega)]
  · rw [zk_set_e (by omega)]
  · rw [zk_set_n (by omega), zk_set_n (by omega)]
end
