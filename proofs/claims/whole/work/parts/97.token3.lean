/-! tokens on the reference's side *-/
/-- nothing but the token has changed *-/
def zt_n (μ μ' : zk_M) : Prop := zq [60] μ μ' ∧ ∀ i : Int, i < 7 ∨ 11 < i → μ' 60 i = μ 60 i
theorem zt_n.rf (μ : zk_M) : zt_n μ μ := ⟨zq.rf _ _, fun _ _ => rfl⟩
theorem zt_n.tr {μ μ1 μ2 : zk_M} (h : zt_n μ μ1) (h2 : zt_n μ1 μ2) : zt_n μ μ2 := ⟨h.1.tr h2.1, fun i hi => (h2.2 i hi).trans (h.2 i hi)⟩
theorem zt_n.set {μ μ1 : zk_M} (h : zt_n μ μ1) {k : Int} (hk : 7 ≤ k ∧ k ≤ 11) (x : Int) : zt_n μ (zk_set μ1 60 k x) := ⟨h.1.set (by decide) _ _, fun i hi => by rw [zk_set_n (by omega)]; exact h.2 i hi⟩
def zt_rc (c : Nat) : Int := if c = 3 then 60 else if c = 4 then 4 else if c = 5 then 62 else if c = 6 then 5 else if c = 7 then 61 else if c = 8 then 35 else if c = 9 then 43 else if c = 10 then 45 else if c = 11 then 42 else if c = 12 then 47 else if c = 13 then 40 else if c = 14 then 41 else 59
def zt_rt (c : Nat) (v tk num wd : Int) : Prop := (c = 0 ∧ tk = 0) ∨ (c = 2 ∧ tk = 1 ∧ 0 ≤ num ∧ num ≤ 1000000 ∧ v = min num 10000) ∨ (16 ≤ c ∧ c ≤ 31 ∧ tk = 2 ∧ wd = zt_pk (zt_ws.getD (c - 16) [])) ∨ (c = 1 ∧ (tk = 3 ∨ tk = 2 ∧ ∀ w ∈ zt_ws, wd ≠ zt_pk w)) ∨ (3 ≤ c ∧ c ≤ 15 ∧ tk = zt_rc c)
def zt_R0 (μ : zk_M) (f : Nat → Int) (len : Nat) : Prop := μ 60 4 = (len : Int) ∧ ∀ i : Nat, i < len → μ 64 i = f i
def zt_R (μ : zk_M) (t : zt_T) : Prop := μ 60 8 = (t.2.2.1 : Int) ∧ μ 60 7 = (t.2.2.2 : Int) ∧ zt_rt t.1 t.2.1 (μ 60 9) (μ 60 10) (μ 60 11)
theorem zt_rc_sg {c : Int} (h : zt_sg c ≠ 1) : zt_rc (zt_sg c) = c ∧ 3 ≤ zt_sg c ∧ zt_sg c ≤ 15 := by
  unfold zt_sg at *
  repeat' split at h
  all_goals first | (rename_i q; simp [q, zt_rc]) | skip
  all_goals simp_all [zt_rc]
section
variable {μ : zk_M} {BV : zk_M → Prop} {B : Int → zk_M → Prop} {f : Nat → Int} {len : Nat}
theorem zt_R0_q {μ' : zk_M} (h : zt_R0 μ f len) (z : zt_n μ μ') : zt_R0 μ' f len := ⟨by rw [z.2 4 (by decide)]; exact h.1, fun i hi => by rw [z.1 64 (by decide)]; exact h.2 i hi⟩
theorem sp_mb {n : Nat} (hb : zt_by f len) (h : zt_R0 μ f len) (hy : n < len → B (f n) μ) (hn : ¬ n < len → B (-1) μ) : zk_C 161 [.inr (.inr (.inl 60)), .inl (n : Int)] μ (zk_RI B) := by
  have h1 := h.1
  have h3 := hb.1
  refine c_Mod_byteAt ⟨fun q => hn (by omega), fun q => ⟨by omega, ?_⟩⟩
  rw [h.2 n (by omega)]
  exact hy (by omega)
theorem sp_mdi {c : Int} (hy : zt_di c = true → B 1 μ) (hn : zt_di c = false → B 0 μ) : zk_C 163 [.inl c] μ (zk_RI B) := by
  simp only [zt_di, decide_eq_true_eq, decide_eq_false_iff_not] at hy hn
  exact c_Mod_isDigit (sp_isIn (fun a b => ⟨Or.inr rfl, hy ⟨a, b⟩⟩) (fun q => ⟨Or.inl rfl, hn q⟩))
theorem sp_mle {c : Int} (hy : zt_le c = true → B 1 μ) (hn : zt_le c = false → B 0 μ) : zk_C 162 [.inl c] μ (zk_RI B) := by
  simp only [zt_le, decide_eq_true_eq, decide_eq_false_iff_not] at hy hn
  exact c_Mod_isLetter (sp_isIn (fun a b => ⟨fun _ => hy (Or.inl ⟨a, b⟩), fun q => absurd q (by decide)⟩) (fun q => ⟨fun q => absurd rfl q, fun _ => sp_isIn (fun a b => ⟨fun q => absurd q (by decide), fun _ => hy (Or.inr ⟨a, b⟩)⟩) (fun q2 => ⟨fun _ => hn (by omega), fun q => absurd rfl q⟩)⟩))
theorem sp_mnum {p : Nat} (hb : zt_by f len) (h : zt_R0 μ f len) (hp : p < len) (h7 : μ 60 7 = (p : Int)) (h8 : μ 60 8 = (p : Int)) (h9 : μ 60 9 = 1) (h10 : μ 60 10 = 0) (hB : ∀ μ', zt_n μ μ' → zt_R μ' (2, zt_nv f p (zt_sk (fun i => zt_di (f i)) (len - p) p - p), p, zt_sk (fun i => zt_di (f i)) (len - p) p) → BV μ') : zk_K 164 85 [.inr (.inr (.inl 60)), .inr (.inr (.inr 0)), .inr (.inr (.inr 0))] [] μ (zk_RV BV) := by
  have hlen := hb.1
  have lp : ∀ n, n ≤ len → (p ≤ n → ∀ ν, zt_n μ ν → ν 60 7 = (n : Int) → ν 60 8 = (p : Int) → ν 60 9 = 1 → 0 ≤ ν 60 10 → ν 60 10 ≤ 1000000 → zt_nv f p (n - p) = min (ν 60 10) 10000 → zt_sk (fun i => zt_di (f i)) (len - n) n = zt_sk (fun i => zt_di (f i)) (len - p) p → zk_K 164 85 [.inr (.inr (.inl 60)), .inr (.inr (.inr 0)), .inr (.inr (.inr 0))] [] ν (zk_RV BV)) := by
    have fin : ∀ (n : Nat) (ν : zk_M), zt_n μ ν → ν 60 7 = (n : Int) → ν 60 8 = (p : Int) → ν 60 9 = 1 → 0 ≤ ν 60 10 → ν 60 10 ≤ 1000000 → zt_nv f p (n - p) = min (ν 60 10) 10000 → n = zt_sk (fun i => zt_di (f i)) (len - p) p → BV ν := fun n ν z k7 k8 k9 k10 k11 kv e => hB ν z ⟨k8, by rw [k7, e], Or.inr (Or.inl ⟨rfl, k9, k10, k11, by rw [← e]; exact kv⟩)⟩
    refine zl_up (fun hpn ν z k7 k8 k9 k10 k11 kv e => ?_) (fun n hn ih hpn ν z k7 k8 k9 k10 k11 kv e => ?_)
    · rw [Nat.sub_self] at e
      refine t_Mod_nextToken_85 ?_
      rw [k7]
      exact sp_mb hb (zt_R0_q h z) (fun q => absurd q (Nat.lt_irrefl _)) (fun _ => sp_mdi (fun d => absurd d (by decide)) (fun _ => ⟨fun _ => fin len ν z k7 k8 k9 k10 k11 kv e, fun q => absurd rfl q⟩))
    · rw [zt_sk_st hn] at e
      have h0 := zt_R0_q h z
      refine t_Mod_nextToken_85 ?_
      rw [k7]
      refine sp_mb hb h0 (fun _ => sp_mdi (fun d => ⟨fun q => absurd q (by decide), fun _ => ?_⟩) (fun d => ⟨fun _ => fin n ν z k7 k8 k9 k10 k11 kv (by rw [← e, if_neg (by simp [d])]), fun q => absurd rfl q⟩)) (fun q => absurd hn q)
      rw [if_pos d] at e
      simp only [zt_di, decide_eq_true_eq] at d
      have nv : zt_nv f p (n + 1 - p) = min (zt_nv f p (n - p) * 10 + f n - 48) 10000 := by
        rw [show n + 1 - p = (n - p) + 1 by omega, zt_nv, show p + (n - p) = n by omega]
      refine ⟨fun q => ⟨by omega, ih (by omega) _ (z.set (by decide) _) (by rw [zk_set_s, k7]; rfl) (by rw [zk_set_n (by decide)]; exact k8) (by rw [zk_set_n (by decide)]; exact k9) (by rw [zk_set_n (by decide)]; exact k10) (by rw [zk_set_n (by decide)]; exact k11) (by rw [zk_set_n (by decide), nv]; omega) e⟩, fun q => ⟨by omega, ?_⟩⟩
      rw [k7]
      refine sp_mb hb h0 (fun _ => ⟨by omega, by omega, by omega, ih (by omega) _ ((z.set (by decide) _).set (by decide) _) (by rw [zk_set_s, k7]; rfl) (by rw [zk_set_n (by decide), zk_set_n (by decide)]; exact k8) (by rw [zk_set_n (by decide), zk_set_n (by decide)]; exact k9) (by rw [zk_set_n (by decide), zk_set_s]; omega) (by rw [zk_set_n (by decide), zk_set_s]; omega) (by rw [zk_set_n (by decide), zk_set_s, nv]; omega) e⟩) (fun q => absurd hn q)
  exact lp p (by omega) (Nat.le_refl _) μ (zt_n.rf _) h7 h8 h9 (by rw [h10]; decide) (by rw [h10]; decide) (by rw [Nat.sub_self, h10]; rfl) rfl
theorem zt_wl_s {p n : Nat} (h : p ≤ n) : zt_wl f p (n + 1) = zt_wl f p n ++ [f n] := by
  unfold zt_wl
  rw [show n + 1 - p = (n - p) + 1 by omega, List.range_succ, List.map_append]
  simp [show p + (n - p) = n by omega]
theorem sp_mword {p : Nat} (hb : zt_by f len) (h : zt_R0 μ f len) (hp : p < len) (h7 : μ 60 7 = (p : Int)) (h8 : μ 60 8 = (p : Int)) (h9 : μ 60 9 = 2) (h11 : μ 60 11 = 0) (hB : ∀ μ', zt_n μ μ' → zt_R μ' (zt_cd (zt_wl f p (zt_sk (fun i => zt_le (f i)) (len - p) p)) zt_ws 16 1, 0, p, zt_sk (fun i => zt_le (f i)) (len - p) p) → BV μ') : zk_K 164 161 [.inr (.inr (.inl 60)), .inr (.inr (.inr 0)), .inr (.inr (.inr 0))] [] μ (zk_RV BV) := by
  have hlen := hb.1
  have er := zt_sk_r (p := fun i => zt_le (f i)) (len - p) p
  have hby : ∀ n, n ≤ zt_sk (fun i => zt_le (f i)) (len - p) p → ∀ c ∈ zt_wl f p n, 1 ≤ c ∧ c ≤ 255 := fun n hn c hc => by
    simp only [zt_wl, List.mem_map, List.mem_range] at hc
    obtain ⟨i, hi, e⟩ := hc
    have := er.2.2.1 (p + i) (by omega) (by omega)
    simp only [zt_le, decide_eq_true_eq] at this
    omega
  have lp : ∀ n, n ≤ len → (p ≤ n → n ≤ zt_sk (fun i => zt_le (f i)) (len - p) p → ∀ ν, zt_n μ ν → ν 60 7 = (n : Int) → ν 60 8 = (p : Int) → ν 60 9 = 2 → (n - p ≤ 7 → ν 60 11 = zt_pk (zt_wl f p n)) → zt_sk (fun i => zt_le (f i)) (len - n) n = zt_sk (fun i => zt_le (f i)) (len - p) p → zk_K 164 161 [.inr (.inr (.inl 60)), .inr (.inr (.inr 0)), .inr (.inr (.inr 0))] [] ν (zk_RV BV)) := by
    have fin : ∀ (n : Nat) (ν : zk_M), p ≤ n → n ≤ len → zt_n μ ν → ν 60 7 = (n : Int) → ν 60 8 = (p : Int) → ν 60 9 = 2 → (n - p ≤ 7 → ν 60 11 = zt_pk (zt_wl f p n)) → n = zt_sk (fun i => zt_le (f i)) (len - p) p → ((-2147483648 : Int) ≤ ((ν 60 7) - (ν 60 8)) ∧ (((ν 60 7) - (ν 60 8)) : Int) ≤ 2147483647) ∧ ((((ν 60 7) - (ν 60 8)) ≤ 7 → (BV ν)) ∧ (¬ (((ν 60 7) - (ν 60 8)) ≤ 7) → (BV (zk_set ν 60 11 0)))) := fun n ν hpn hnl z k7 k8 k9 kw e => by
      rw [k7, k8]
      rw [← e] at hB hby
      have hcd := zt_cd_p (zt_wl f p n) zt_ws 16 1
      have hwl : (zt_wl f p n).length = n - p := by simp [zt_wl]
      refine ⟨by omega, fun q => hB ν z ⟨k8, k7, ?_⟩, fun q => hB _ (z.set (by decide) _) ⟨by rw [zk_set_n (by decide)]; exact k8, by rw [zk_set_n (by decide)]; exact k7, ?_⟩⟩
      · rw [kw (by omega)]
        rcases hcd with ⟨i, c1, c2, c3⟩ | ⟨c1, c2⟩
        · have : i < 16 := c1
          refine Or.inr (Or.inr (Or.inl ⟨by rw [c3]; omega, by rw [c3]; omega, k9, ?_⟩))
          rw [c3, Nat.add_sub_cancel_left, ← c2]
        · refine Or.inr (Or.inr (Or.inr (Or.inl ⟨c2, Or.inr ⟨k9, fun w hw e2 => ?_⟩⟩)))
          exact c1 w hw (zt_pk_inj _ _ _ rfl (hby n (Nat.le_refl _)) (zt_ws_b w hw).1 e2)
      · rw [zk_set_s]
        have : zt_cd (zt_wl f p n) zt_ws 16 1 = 1 := by
          rcases hcd with ⟨i, c1, c2, c3⟩ | ⟨c1, c2⟩
          · have hm : zt_ws.getD i [] ∈ zt_ws := by
              rw [List.getD_eq_getElem?_getD, List.getElem?_eq_getElem c1]
              exact List.getElem_mem c1
            have := (zt_ws_b _ hm).2.1
            rw [← c2] at this
            omega
          · exact c2
        exact Or.inr (Or.inr (Or.inr (Or.inl ⟨this, Or.inr ⟨by rw [zk_set_n (by decide)]; exact k9, fun w hw e2 => (zt_ws_b w hw).2.2 e2.symm⟩⟩)))
    refine zl_up (fun hpn hne ν z k7 k8 k9 kw e => ?_) (fun n hn ih hpn hne ν z k7 k8 k9 kw e => ?_)
    · rw [Nat.sub_self] at e
      refine t_Mod_nextToken_161 ?_
      rw [k7]
      refine sp_mb hb (zt_R0_q h z) (fun q => absurd q (Nat.lt_irrefl _)) (fun _ => sp_mle (fun d => absurd d (by decide)) (fun _ => ⟨fun _ => ?_, fun q => absurd rfl q⟩))
      exact fin len ν hpn (Nat.le_refl _) z k7 k8 k9 kw e
    · rw [zt_sk_st hn] at e
      have h0 := zt_R0_q h z
      refine t_Mod_nextToken_161 ?_
      rw [k7]
      refine sp_mb hb h0 (fun _ => sp_mle (fun d => ⟨fun q => absurd q (by decide), fun _ => ?_⟩) (fun d => ⟨fun _ => ?_, fun q => absurd rfl q⟩)) (fun q => absurd hn q)
      · rw [if_pos d] at e
        have e2 := zt_sk_r (p := fun i => zt_le (f i)) (len - (n + 1)) (n + 1)
        rw [e] at e2
        rw [k7, k8]
        refine ⟨by omega, fun q => ⟨by omega, ih (by omega) e2.1 _ (z.set (by decide) _) (by rw [zk_set_s]; rfl) (by rw [zk_set_n (by decide)]; exact k8) (by rw [zk_set_n (by decide)]; exact k9) (fun q2 => by omega) e⟩, fun q => ?_⟩
        refine sp_mb hb h0 (fun _ => ?_) (fun q => absurd hn q)
        rw [k7]
        refine ⟨by omega, ih (by omega) e2.1 _ ((z.set (by decide) _).set (by decide) _) (by rw [zk_set_s]; rfl) (by rw [zk_set_n (by decide), zk_set_n (by decide)]; exact k8) (by rw [zk_set_n (by decide), zk_set_n (by decide)]; exact k9) (fun q2 => ?_) e⟩
        rw [zk_set_n (by decide), zk_set_s, kw (by omega), zt_wl_s hpn, zt_pk_app]
        have pr := zt_pk_r _ (zt_wl f p n) rfl (fun c hc => by have := hby n hne c hc; omega)
        have hwl : (zt_wl f p n).length = n - p := by simp [zt_wl]
        rw [hwl] at pr
        have p6 : (256 : Int) ^ (n - p) ≤ 281474976710656 := by
          have : 256 ^ (n - p) ≤ 256 ^ 6 := Nat.pow_le_pow_right (by decide) (by omega)
          have e3 : ((256 ^ (n - p) : Nat) : Int) = (256 : Int) ^ (n - p) := Int.natCast_pow 256 (n - p)
          omega
        have fb := hb.2 n hn
        obtain ⟨a, ha⟩ := Int.eq_ofNat_of_zero_le pr.1
        obtain ⟨b, hbb⟩ := Int.eq_ofNat_of_zero_le fb.1
        rw [ha, hbb, zt_lor (by omega) (by omega)]
        omega
      · rw [if_neg (by simp [d])] at e
        exact fin n ν hpn (by omega) z k7 k8 k9 kw e
  exact lp p (by omega) (Nat.le_refl _) er.1 μ (zt_n.rf _) h7 h8 h9 (fun _ => by rw [h11]; simp [zt_wl, zt_pk]) rfl
theorem sp_msign {p : Nat} {y0 : Int} (hb : zt_by f len) (h : zt_R0 μ f len) (hp : p < len) (h7 : μ 60 7 = ((p + 1 : Nat) : Int)) (h8 : μ 60 8 = (p : Int)) (hy : (y0 = 1 ∧ zt_sg (f p) ≠ 1) ∨ (y0 = 0 ∧ zt_sg (f p) = 1)) (hB : ∀ μ', zt_n μ μ' → zt_R μ' (if (zt_sg (f p) = 3 ∨ zt_sg (f p) = 5) ∧ p + 1 < len ∧ f (p + 1) = 61 then (if zt_sg (f p) = 3 then 4 else 6, 0, p, p + 2) else (zt_sg (f p), 0, p, p + 1)) → BV μ') : zk_K 164 326 [.inr (.inr (.inl 60)), .inl (f p), .inr (.inr (.inr 0))] [.inl y0] μ (zk_RV BV) := by
  have hlen := hb.1
  have s60 : zt_sg 60 = 3 := by decide
  have s62 : zt_sg 62 = 5 := by decide
  have s3 : zt_sg (f p) = 3 → f p = 60 := fun e => by have := (zt_rc_sg (c := f p) (by omega)).1; rw [e] at this; exact this.symm
  have s5 : zt_sg (f p) = 5 → f p = 62 := fun e => by have := (zt_rc_sg (c := f p) (by omega)).1; rw [e] at this; exact this.symm
  refine t_Mod_nextToken_326 ⟨fun q => ?_, fun q => ?_⟩
  · have e1 : zt_sg (f p) = 1 := by omega
    refine ⟨fun q2 => by rw [q2, s60] at e1; omega, fun q2 => ⟨fun q3 => ?_, fun q3 => by rw [q3, s62] at e1; omega⟩⟩
    rw [if_neg (by omega), e1] at hB
    exact hB _ ((zt_n.rf _).set (by decide) _) ⟨by rw [zk_set_n (by decide)]; exact h8, by rw [zk_set_n (by decide)]; exact h7, Or.inr (Or.inr (Or.inr (Or.inl ⟨rfl, Or.inl (zk_set_s _ _ _ _)⟩)))⟩
  · have e1 : zt_sg (f p) ≠ 1 := by omega
    have rc := zt_rc_sg e1
    have z1 : zt_n μ (zk_set μ 60 9 (f p)) := (zt_n.rf _).set (by decide) _
    have c1 := zt_R0_q h z1
    have one : ¬ ((zt_sg (f p) = 3 ∨ zt_sg (f p) = 5) ∧ p + 1 < len ∧ f (p + 1) = 61) → BV (zk_set μ 60 9 (f p)) := fun w => by
      rw [if_neg w] at hB
      exact hB _ z1 ⟨by rw [zk_set_n (by decide)]; exact h8, by rw [zk_set_n (by decide)]; exact h7, Or.inr (Or.inr (Or.inr (Or.inr ⟨rc.2.1, rc.2.2, by rw [zk_set_s]; exact rc.1.symm⟩)))⟩
    have k7 : zk_set μ 60 9 (f p) 60 7 = ((p + 1 : Nat) : Int) := by rw [zk_set_n (by decide)]; exact h7
    have k8 : zk_set μ 60 9 (f p) 60 8 = (p : Int) := by rw [zk_set_n (by decide)]; exact h8
    have two : ∀ (x : Nat) (y : Int), ((zt_sg (f p) = 3 ∨ zt_sg (f p) = 5) ∧ p + 1 < len ∧ f (p + 1) = 61) → x = (if zt_sg (f p) = 3 then 4 else 6) → y = zt_rc x → BV (zk_set (zk_set (zk_set μ 60 9 (f p)) 60 7 (((p + 1 : Nat) : Int) + 1)) 60 9 y) := fun x y w hx hy => by
      rw [if_pos w, ← hx] at hB
      refine hB _ ((z1.set (by decide) _).set (by decide) _) ⟨by rw [zk_set_n (by decide), zk_set_n (by decide)]; exact k8, by rw [zk_set_n (by decide), zk_set_s]; rfl, Or.inr (Or.inr (Or.inr (Or.inr ⟨?_, ?_, by rw [zk_set_s]; exact hy⟩)))⟩
      · show 3 ≤ x
        split at hx <;> omega
      · show x ≤ 15
        split at hx <;> omega
    rw [h7]
    refine ⟨fun q2 => sp_mb hb c1 (fun g => ⟨fun w => one (fun e => w e.2.2), fun w => ?_⟩) (fun g => ⟨fun _ => one (fun e => g e.2.1), fun w => absurd w (by decide)⟩), fun q2 => ⟨fun q3 => one (fun e => by rcases e.1 with e | e; exact q2 (s3 e); exact q3 (s5 e)), fun q3 => sp_mb hb c1 (fun g => ⟨fun w => one (fun e => w e.2.2), fun w => ?_⟩) (fun g => ⟨fun _ => one (fun e => g e.2.1), fun w => absurd w (by decide)⟩)⟩⟩
    · have e3 : zt_sg (f p) = 3 := by rw [q2]; exact s60
      rw [k7]
      exact ⟨by omega, fun q3 => absurd q2 q3, fun _ => two 4 4 ⟨Or.inl e3, g, w⟩ (by rw [if_pos e3]) rfl⟩
    · have e5 : zt_sg (f p) = 5 := by rw [q3]; exact s62
      rw [k7]
      exact ⟨by omega, fun _ => two 6 5 ⟨Or.inr e5, g, w⟩ (by rw [if_neg (by omega)]) rfl, fun q4 => absurd q4 q2⟩
theorem sp_nextTok {n : Nat} (hb : zt_by f len) (h : zt_R0 μ f len) (hn : n ≤ len) (h7 : μ 60 7 = (n : Int)) (hB : ∀ μ', zt_n μ μ' → zt_R μ' (zt_tok f len n) → BV μ') : zk_C 164 [.inr (.inr (.inl 60))] μ (zk_RV BV) := by
  have hlen := hb.1
  have lp : ∀ k, k ≤ len → (∀ ν, zt_n μ ν → ν 60 7 = (k : Int) → zt_sk (fun i => zt_bl (f i)) (len - k) k = zt_sk (fun i => zt_bl (f i)) (len - n) n → zk_K 164 0 [.inr (.inr (.inl 60)), .inr (.inr (.inr 0)), .inr (.inr (.inr 0))] [] ν (zk_RV BV)) := by
    refine zl_up (fun ν z k7 e => ?_) (fun k hk ih ν z k7 e => ?_)
    · rw [Nat.sub_self] at e
      have e1 : zt_tok f len n = (0, 0, len, len) := by
        unfold zt_tok
        rw [← e]
        exact if_pos (Nat.le_refl _)
      rw [e1] at hB
      have h0 := zt_R0_q h z
      have ir : ¬ len < len := Nat.lt_irrefl _
      refine t_Mod_nextToken_0 ?_
      rw [k7]
      refine sp_mb hb h0 (fun q => absurd q ir) (fun _ => ⟨fun q => absurd q (by decide), fun _ => ?_⟩)
      rw [k7]
      refine sp_mb hb h0 (fun q => absurd q ir) (fun _ => ⟨fun _ => ?_, fun q => absurd q (by decide)⟩)
      rw [k7]
      have z3 : zt_n ν (zk_set ν 60 8 (len : Int)) := (zt_n.rf _).set (by decide) _
      refine sp_mb hb (zt_R0_q h0 z3) (fun q => absurd q ir) (fun _ => ⟨fun q => absurd q (by decide), fun _ => hB _ ((z.tr z3).set (by decide) _) ⟨by rw [zk_set_n (by decide), zk_set_s], by rw [zk_set_n (by decide), zk_set_n (by decide)]; exact k7, Or.inl ⟨rfl, zk_set_s _ _ _ _⟩⟩⟩)
    · rw [zt_sk_st hk] at e
      have h0 := zt_R0_q h z
      have blank : zt_bl (f k) = true → zk_K 164 26 [.inr (.inr (.inl 60)), .inr (.inr (.inr 0)), .inr (.inr (.inr 0))] [] ν (zk_RV BV) := fun d => by
        rw [if_pos d] at e
        refine t_Mod_nextToken_26 ?_
        rw [k7]
        exact ⟨by omega, ih _ (z.set (by decide) _) (by rw [zk_set_s]; rfl) e⟩
      refine t_Mod_nextToken_0 ?_
      rw [k7]
      refine sp_mb hb h0 (fun _ => ⟨fun q => blank (by simp [zt_bl, q]), fun q => ?_⟩) (fun q => absurd hk q)
      rw [k7]
      refine sp_mb hb h0 (fun _ => ⟨fun q2 => ?_, fun q2 => blank (by simp [zt_bl, q2])⟩) (fun q => absurd hk q)
      have nb : zt_bl (f k) = false := by simp [zt_bl, q, q2]
      rw [if_neg (by simp [nb])] at e
      have et : zt_tok f len n = zt_tp f len k := by
        unfold zt_tok
        rw [← e]
      rw [et] at hB
      unfold zt_tp at hB
      rw [if_neg (by omega)] at hB
      rw [k7]
      have z3 : zt_n ν (zk_set ν 60 8 (k : Int)) := (zt_n.rf _).set (by decide) _
      have c3 := zt_R0_q h0 z3
      have n7 : zk_set ν 60 8 (k : Int) 60 7 = (k : Int) := by rw [zk_set_n (by decide)]; exact k7
      have n8 : zk_set ν 60 8 (k : Int) 60 8 = (k : Int) := zk_set_s _ _ _ _
      generalize zk_set ν 60 8 (k : Int) = ξ at *
      have fb := hb.2 k hk
      have zz := z.tr z3
      refine sp_mb hb c3 (fun _ => ⟨fun _ => sp_mdi (fun d => ⟨fun q => absurd q (by decide), fun _ => ?_⟩) (fun d => ⟨fun _ => sp_mle (fun d2 => ⟨fun q => absurd q (by decide), fun _ => ?_⟩) (fun d2 => ⟨fun _ => ?_, fun q => absurd rfl q⟩), fun q => absurd rfl q⟩), fun q => absurd fb.1 q⟩) (fun q => absurd hk q)
      · have nl : zt_le (f k) = false := by
          simp only [zt_le, zt_di, decide_eq_true_eq, decide_eq_false_iff_not] at d ⊢
          omega
        rw [if_neg (by simp [nl]), if_pos d] at hB
        have z4 : zt_n ξ (zk_set (zk_set ξ 60 9 1) 60 10 0) := ((zt_n.rf _).set (by decide) _).set (by decide) _
        exact sp_mnum hb (zt_R0_q c3 z4) hk (by rw [zk_set_n (by decide), zk_set_n (by decide)]; exact n7) (by rw [zk_set_n (by decide), zk_set_n (by decide)]; exact n8) (by rw [zk_set_n (by decide), zk_set_s]) (zk_set_s _ _ _ _) (fun μ' z' r => hB μ' (zz.tr (z4.tr z')) r)
      · rw [if_pos d2] at hB
        have z4 : zt_n ξ (zk_set (zk_set ξ 60 9 2) 60 11 0) := ((zt_n.rf _).set (by decide) _).set (by decide) _
        exact sp_mword hb (zt_R0_q c3 z4) hk (by rw [zk_set_n (by decide), zk_set_n (by decide)]; exact n7) (by rw [zk_set_n (by decide), zk_set_n (by decide)]; exact n8) (by rw [zk_set_n (by decide), zk_set_s]) (zk_set_s _ _ _ _) (fun μ' z' r => hB μ' (zz.tr (z4.tr z')) r)
      · rw [if_neg (by simp [d2]), if_neg (by simp [d])] at hB
        rw [n7]
        have z4 : zt_n ξ (zk_set ξ 60 7 ((k : Int) + 1)) := (zt_n.rf _).set (by decide) _
        have sg : ∀ y0 : Int, (y0 = 1 ∧ zt_sg (f k) ≠ 1) ∨ (y0 = 0 ∧ zt_sg (f k) = 1) → zk_K 164 326 [.inr (.inr (.inl 60)), .inl (f k), .inr (.inr (.inr 0))] [.inl y0] (zk_set ξ 60 7 ((k : Int) + 1)) (zk_RV BV) := fun y0 hy => sp_msign hb (zt_R0_q c3 z4) hk (by rw [zk_set_s]; rfl) (by rw [zk_set_n (by decide)]; exact n8) hy (fun μ' z' r => hB μ' (zz.tr (z4.tr z')) r)
        have yes : ∀ x : Int, zt_sg x ≠ 1 → f k = x → zk_K 164 326 [.inr (.inr (.inl 60)), .inl (f k), .inr (.inr (.inr 0))] [.inl 1] (zk_set ξ 60 7 ((k : Int) + 1)) (zk_RV BV) := fun x hx e => sg 1 (Or.inl ⟨rfl, by rw [e]; exact hx⟩)
        refine ⟨by omega, fun w => yes 60 (by decide) w, fun w1 => ⟨fun w => yes 62 (by decide) w, fun w2 => ⟨fun w => yes 61 (by decide) w, fun w3 => ⟨fun w => yes 35 (by decide) w, fun w4 => ⟨fun w => yes 43 (by decide) w, fun w5 => ⟨fun w => yes 45 (by decide) w, fun w6 => ⟨fun w => yes 42 (by decide) w, fun w7 => ⟨fun w => yes 47 (by decide) w, fun w8 => ⟨fun w => yes 40 (by decide) w, fun w9 => ⟨fun w => yes 41 (by decide) w, fun w10 => ⟨fun w11 => sg 0 (Or.inr ⟨rfl, ?_⟩), fun w => yes 59 (by decide) w⟩⟩⟩⟩⟩⟩⟩⟩⟩⟩⟩
        unfold zt_sg
        simp [w1, w2, w3, w4, w5, w6, w7, w8, w9, w10, w11]
  exact c_Mod_nextToken (lp n hn μ (zt_n.rf _) h7 rfl)
end
