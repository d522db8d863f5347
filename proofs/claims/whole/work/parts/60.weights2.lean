/-! the laws of a text on each side *-/
def zvC (μ : zk_M) (x : Int) (L : Option (List (Int × Int))) : Prop := (x = -1 ∧ L = none) ∨ ∃ t : Nat, t < 4 ∧ x = (t : Int) ∧ zx_cls μ t 4 L ∧ ∀ l, L = some l → zx_ty l (0, 0) = some (0, 1) ∧ ∀ q ∈ l, q.1 = 1 → q.2 < 4
def zgC (μ : zk_M) (x : Int) (L : Option (List (Int × Int))) : Prop := (x = -1 ∧ L = none) ∨ ∃ t : Nat, t < 4 ∧ x = (t : Int) ∧ zx_cls μ t 6 L ∧ ∀ l, L = some l → zx_ty l (0, 0) = some (1, 0)
theorem zk_rho23 {t : Nat} (h : t < 4) : zk_rho 23 (t : Int) = 26 + 4 * t := by
  rcases (show t = 0 ∨ t = 1 ∨ t = 2 ∨ t = 3 by omega) with rfl | rfl | rfl | rfl <;> rfl
theorem zk_26 {t : Nat} (h : t < 4) : 26 + 4 * t = 26 ∨ 26 + 4 * t = 30 ∨ 26 + 4 * t = 34 ∨ 26 + 4 * t = 38 := by omega
def zi_lc : List Nat := [24, 29, 33, 37, 41]
theorem zx_cls_q {μ μ' : zk_M} {t : Nat} {c : Int} {L : Option (List (Int × Int))} (ht : t < 4) (z : zq zi_lc μ μ') (h : zx_cls μ t c L) : zx_cls μ' t c L := (zx_cls_cg (z _ (by simp [zi_lc]; omega)) (z _ (by simp [zi_lc]; omega)) c L).mpr h
theorem zx_ty_5 : ∀ {l : List (Int × Int)} {p p' : Nat × Nat}, zx_ty l p = some p' → ∀ q ∈ l, q.1 = 1 → q.2 < 5
  | [], _, _, _, q, hq, _ => absurd hq (by simp)
  | r :: l, p, p', h, q, hq, e => by
    unfold zx_ty at h
    cases ho : zx_ok1 r p with
    | none => rw [ho] at h; exact absurd h (by simp)
    | some o =>
      rw [ho] at h
      simp only at h
      split at h
      · rcases List.mem_cons.mp hq with rfl | hq
        · rcases zx_ok1_some ho with a | a | a | a | a | a | a <;> omega
        · exact zx_ty_5 h q hq e
      · exact absurd h (by simp)
theorem zv_h2 {s : List Int × List Int} {x : Int} (h : s.2 ++ s.1 = [x]) (hp : ((0, 1) : Nat × Nat) = (s.1.length, s.2.length)) : s.2.headD 0 = x := by
  injection hp with p1 p2
  rw [List.length_eq_zero_iff.mp p1.symm, List.append_nil] at h
  rw [h]
  rfl
theorem zv_h1 {s : List Int × List Int} {x : Int} (h : s.2 ++ s.1 = [x]) (hp : ((1, 0) : Nat × Nat) = (s.1.length, s.2.length)) : s.1.headD 0 = x := by
  injection hp with p1 p2
  rw [List.length_eq_zero_iff.mp p2.symm, List.nil_append] at h
  rw [h]
  rfl
section
variable {μ : zk_M} {BV : zk_M → Prop} {B : Int → zk_M → Prop} {σ : za_S} {sis : Int}
theorem sp_run {t : Nat} (ht : t < 4) {nm : Int → Int} {m : Int} (hm5 : m ≤ 5) (hnm : ∀ i : Int, 0 ≤ i → i < m → -1000000 ≤ nm i ∧ nm i ≤ 1000000) {l : List (Int × Int)} {f : Nat} {p : Nat × Nat} (hl : f + l.length ≤ 300) (hc : ∀ (i : Nat) (q : Int × Int), l[i]? = some q → μ (28 + 4 * t) (f + i) = zx_enc q) (hlm : ∀ q ∈ l, q.1 = 1 → q.2 < m) (hty : zx_ty l (0, 0) = some p) (hp : p.1 + p.2 = 1) (hn : ∀ n : Int, 0 ≤ n → n < m → μ 24 n = nm n) (hB : ∀ μ' x, zq [29 + 4 * t] μ μ' → (zv_run nm l ([], [])).2 ++ (zv_run nm l ([], [])).1 = [x] → p = ((zv_run nm l ([], [])).1.length, (zv_run nm l ([], [])).2.length) → B x μ') : zk_C 79 [.inr (.inr (.inl (26 + 4 * t))), .inl (f : Int), .inl ((f : Int) + l.length), .inr (.inr (.inl 24))] μ (zk_RI B) := by
  refine c_Scr_run (zk_26 ht) ?_
  rw [show max (f : Int) 0 = (f : Int) by omega]
  have e2 : 26 + 4 * t + 2 = 28 + 4 * t := by omega
  have e3 : 26 + 4 * t + 3 = 29 + 4 * t := by omega
  exact sp_runK (zk_26 ht) hm5 hnm l f μ [] [] p hlm (by rw [e2]; exact hc) hl hty hp (by decide) ⟨fun x hx => absurd hx (by simp), fun x hx => absurd hx (by simp)⟩ rfl hn (by rw [e3]; exact hB)
theorem sp_weightC {x n : Int} {L : Option (List (Int × Int))} (hk : za_ok σ sis) (hs : sis ≤ 6) (h : za_C μ 4 σ) (h0 : 0 ≤ n) (hn : n < σ.1.1) (hL : zvC μ x L) (hB : ∀ μ', zq zi_lc μ μ' → B (zv_wt L (σ.1.2.2 n.toNat) σ.1.2.1 n) μ') : zk_C 15 [.inr (.inr (.inl 22)), .inl x, .inr (.inr (.inl 3)), .inl n] μ (zk_RI B) := by
  have hw := hk.1.2.2.1 n.toNat (by omega)
  have hd := hk.1.2.1
  have hc30 := hk.1.1
  have hw5 := hw
  unfold za_w1 at hw5
  rcases hL with ⟨rfl, rfl⟩ | ⟨t, ht, rfl, hcl, hty⟩
  · exact c_Law_weightBy (c_Law_scriptAt ⟨fun _ => t_Law_weightBy_5n (za_kdC hk h h0 hn ⟨by omega, hB μ (zq.rf _ _)⟩), fun q => absurd (by decide) q⟩)
  · refine c_Law_weightBy (c_Law_scriptAt ⟨fun q => by omega, fun _ => ⟨fun q => by omega, fun _ => ⟨by omega, ?_⟩⟩⟩)
    rw [zk_rho23 ht]
    refine t_Law_weightBy_5 (zk_26 ht) ⟨fun q => absurd q (by omega), fun _ => c_Scr_weighs (zk_26 ht) ?_⟩
    cases L with
    | none =>
      exact ⟨fun _ => ⟨fun q => absurd rfl q, fun _ => za_kdC hk h h0 hn ⟨by omega, hB μ (zq.rf _ _)⟩⟩, fun q => absurd hcl q⟩
    | some l =>
      obtain ⟨f, f1, f2, f3, f4, f5⟩ := hcl
      obtain ⟨ty, tm⟩ := hty l rfl
      have hlen : 0 < l.length := List.length_pos_iff.mpr f1
      refine ⟨fun q => by simp only [Int.reduceAdd] at f3; omega, fun _ => ⟨fun _ => sp_nameC hk h h0 hn fun μ7 z7 g7 => ?_, fun q => absurd q (by decide)⟩⟩
      rw [z7 (26 + 4 * t) (by simp; omega), f2, show μ (26 + 4 * t) 5 = (f : Int) + l.length from f3]
      refine sp_run ht (m := 4) (by decide) (fun i _ _ => zv_nm_r (n := n) (sin := 0) hw hd.2 hs (by omega) (by decide) i) f4 (fun i q hq => by rw [z7 _ (by simp; omega)]; exact f5 i q hq) tm ty (by decide) (fun i i1 i2 => g7 i i1 i2 0) (fun μ8 y z8 hy hpy => ?_)
      have hz : zq zi_lc μ μ8 := (z7.up (by decide)).tr (z8.up (by simp [zi_lc]; omega))
      have hb := hB μ8 hz
      have e : zv_wt (some l) (σ.1.2.2 n.toNat) σ.1.2.1 n = max 0 (min 99 y) := by
        show max 0 (min 99 ((zv_run (zv_nm (σ.1.2.2 n.toNat) σ.1.2.1 n 0) l ([], [])).2.headD 0)) = _
        rw [zv_h2 hy hpy]
      rw [e] at hb
      exact hb
theorem sp_goesC {x n sin : Int} {L : Option (List (Int × Int))} (hk : za_ok σ sis) (hs : sis ≤ 6) (h : za_C μ 4 σ) (h0 : 0 ≤ n) (hn : n < σ.1.1) (hsin : 0 ≤ sin ∧ sin ≤ 5) (hL : zgC μ x L) (hy : zv_go L (σ.1.2.2 n.toNat) σ.1.2.1 n sin = true → ∀ μ', zq zi_lc μ μ' → B 1 μ') (hno : zv_go L (σ.1.2.2 n.toNat) σ.1.2.1 n sin = false → ∀ μ', zq zi_lc μ μ' → B 0 μ') : zk_C 16 [.inr (.inr (.inl 22)), .inl x, .inr (.inr (.inl 3)), .inl n, .inl sin] μ (zk_RI B) := by
  have hw := hk.1.2.2.1 n.toNat (by omega)
  have hd := hk.1.2.1
  have hc30 := hk.1.1
  have dflt : L = none → (¬ (σ.1.2.2 n.toNat).1 = sin → B 0 μ) ∧ ((σ.1.2.2 n.toNat).1 = sin → B 1 μ) := fun e => by
    subst e
    exact ⟨fun q => hno (by simp [zv_go, q]) μ (zq.rf _ _), fun q => hy (by simp [zv_go, q]) μ (zq.rf _ _)⟩
  rcases hL with ⟨rfl, rfl⟩ | ⟨t, ht, rfl, hcl, hty⟩
  · exact c_Law_goesBy (c_Law_scriptAt ⟨fun _ => t_Law_goesBy_5n (za_kdC hk h h0 hn (dflt rfl)), fun q => absurd (by decide) q⟩)
  · refine c_Law_goesBy (c_Law_scriptAt ⟨fun q => by omega, fun _ => ⟨fun q => by omega, fun _ => ⟨by omega, ?_⟩⟩⟩)
    rw [zk_rho23 ht]
    refine t_Law_goesBy_5 (zk_26 ht) ⟨fun q => absurd q (by omega), fun _ => c_Scr_goes (zk_26 ht) ?_⟩
    cases L with
    | none =>
      exact ⟨fun _ => ⟨fun q => absurd rfl q, fun _ => za_kdC hk h h0 hn (dflt rfl)⟩, fun q => absurd hcl q⟩
    | some l =>
      obtain ⟨f, f1, f2, f3, f4, f5⟩ := hcl
      have ty := hty l rfl
      have hlen : 0 < l.length := List.length_pos_iff.mpr f1
      refine ⟨fun q => by simp only [Int.reduceAdd] at f3; omega, fun _ => ⟨fun _ => sp_nameC hk h h0 hn fun μ7 z7 g7 => ?_, fun q => absurd q (by decide)⟩⟩
      rw [z7 (26 + 4 * t) (by simp; omega), f2, show μ (26 + 4 * t) 7 = (f : Int) + l.length from f3]
      have z7' : zq [24] μ (zk_set μ7 24 4 sin) := z7.set (by decide) _ _
      refine sp_run ht (m := 5) (nm := zv_nm (σ.1.2.2 n.toNat) σ.1.2.1 n sin) (by decide) (fun i _ _ => zv_nm_r (n := n) (sin := sin) hw hd.2 hs (by omega) (by omega) i) f4 (fun i q hq => by rw [z7' _ (by simp; omega)]; exact f5 i q hq) (fun q hq e => ?_) ty (by decide) (fun i i1 i2 => ?_) (fun μ8 y z8 hyy hpy => ?_)
      · exact zx_ty_5 ty q hq e
      · by_cases w : i = 4
        · rw [w, zk_set_s]
          simp [zv_nm]
        · rw [zk_set_n w]
          exact g7 i i1 (by omega) sin
      · have hz : zq zi_lc μ μ8 := (z7'.up (by decide)).tr (z8.up (by simp [zi_lc]; omega))
        have e := zv_h1 hyy hpy
        refine ⟨fun w => hno ?_ μ8 hz, fun w => hy ?_ μ8 hz⟩
        · simp only [zv_go, e, w]
          rfl
        · simp only [zv_go, e]
          simpa using w
end
