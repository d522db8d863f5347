/-! words and signs on the class's side *-/
section
variable {μ : zk_M} {BV : zk_M → Prop} {B : Int → zk_M → Prop} {f : Nat → Int} {len : Nat}
theorem zt_wl_eq {f : Nat → Int} {p e : Nat} (h : p ≤ e) {w : List Int} : zt_wl f p e = w ↔ (w.length = e - p ∧ ∀ k, k < w.length → f (p + k) = w.getD k 0) := by
  constructor
  · intro q
    have hl : w.length = e - p := by rw [← q]; simp [zt_wl]
    refine ⟨hl, fun k hk => ?_⟩
    rw [← q, List.getD_eq_getElem?_getD]
    simp [zt_wl, show k < e - p by omega]
  · intro ⟨h1, h2⟩
    apply List.ext_getElem?
    intro i
    by_cases q : i < e - p
    · have h3 := h2 i (by omega)
      have h4 : (zt_wl f p e)[i]? = some (f (p + i)) := by simp [zt_wl, q]
      have h5 : w[i]? = some (w.getD i 0) := by
        rw [List.getD_eq_getElem?_getD, List.getElem?_eq_getElem (show i < w.length by omega)]
        rfl
      rw [h4, h5, h3]
    · rw [List.getElem?_eq_none (show w.length ≤ i by omega), List.getElem?_eq_none (show (zt_wl f p e).length ≤ i by simp [zt_wl]; omega)]
/-- the table of words gone through -/
theorem sp_ctab {p e : Nat} (hb : zt_by f len) (hpe : p ≤ e) (hel : e ≤ len) : ∀ (ws : List (List Int)) (c t i : Nat) (μ : zk_M), zt_C0 μ f len → μ 42 2 = (t : Int) → μ 42 3 = (p : Int) → μ 42 5 = (e : Int) → (∀ w ∈ ws, ∀ x ∈ w, x ≠ 32) → i + (zt_fl ws).length = 77 → (∀ j, j < (zt_fl ws).length → zt_W (i + j) = (zt_fl ws).getD j 0) → c + ws.length ≤ 100 → (∀ μ', zq [42] μ μ' → zt_C0 μ' f len → μ' 42 2 = (zt_cd (zt_wl f p e) ws c t : Int) → μ' 42 3 = (p : Int) → μ' 42 5 = (e : Int) → BV μ') → zk_K 112 56 [.inr (.inr (.inl 42)), .inl (c : Int), .inl (p : Int), .inl 1, .inl (i : Int)] [] μ (zk_RV BV)
  | [], c, t, i, μ, h0, h2, h3, h5, _, hi, _, _, hB => by
    have : i = 77 := by simpa [zt_fl] using hi
    refine t_Tap_readWord_56 (sp_slen ⟨fun _ => hB μ (zq.rf _ _) h0 h2 h3 h5, fun q => absurd (by omega) q⟩)
  | w :: ws, c, t, i, μ, h0, h2, h3, h5, hne, hi, hW, hc, hB => by
    have hlen := hb.1
    have fl : (zt_fl (w :: ws)).length = w.length + 1 + (zt_fl ws).length := by
      rw [zt_fl, List.length_append, List.length_cons]
      omega
    have wj : ∀ j, j < w.length → zt_W (i + j) = w.getD j 0 := fun j hj => by
      rw [hW j (by omega), zt_fl, List.getD_eq_getElem?_getD, List.getD_eq_getElem?_getD, List.getElem?_append_left hj]
    have wsp : zt_W (i + w.length) = 32 := by
      rw [hW w.length (by omega), zt_fl, List.getD_eq_getElem?_getD, List.getElem?_append_right (Nat.le_refl _), Nat.sub_self]
      rfl
    have wr : ∀ j, j < (zt_fl ws).length → zt_W ((i + w.length + 1) + j) = (zt_fl ws).getD j 0 := fun j hj => by
      rw [show i + w.length + 1 + j = i + (w.length + 1 + j) by omega, hW _ (by omega), zt_fl, List.getD_eq_getElem?_getD, List.getD_eq_getElem?_getD, List.getElem?_append_right (by omega), show w.length + 1 + j - w.length = j + 1 by omega, List.getElem?_cons_succ]
    have next : ∀ (t' : Nat) (ν : zk_M), zq [42] μ ν → zt_C0 ν f len → ν 42 2 = (t' : Int) → ν 42 3 = (p : Int) → ν 42 5 = (e : Int) → t' = (if zt_wl f p e = w then c else t) → zk_K 112 151 [.inr (.inr (.inl 42)), .inl ((c : Int) + 1), .inl (p : Int), .inl 1, .inl ((i + w.length : Nat) : Int)] [] ν (zk_RV BV) := fun t' ν z k0 k2 k3 k5 et => by
      have key := sp_ctab hb hpe hel ws (c + 1) t' (i + w.length + 1) ν k0 k2 k3 k5 (fun w' hw' => hne w' (List.mem_cons_of_mem _ hw')) (by omega) wr (by rw [List.length_cons] at hc; omega) (fun μ' z' a1 a2 a3 a4 => hB μ' (z.tr z') a1 (by rw [zt_cd, ← et]; exact a2) a3 a4)
      exact t_Tap_readWord_151 ⟨by omega, key⟩
    have lp : ∀ j, j ≤ w.length → (∀ same : Int, (same = 1 ∧ (∀ k, k < j → p + k < e ∧ f (p + k) = w.getD k 0)) ∨ (same = 0 ∧ ¬ (∀ k, k < j → p + k < e ∧ f (p + k) = w.getD k 0)) → zk_K 112 56 [.inr (.inr (.inl 42)), .inl (c : Int), .inl ((p + j : Nat) : Int), .inl same, .inl ((i + j : Nat) : Int)] [] μ (zk_RV BV)) := by
      refine zl_up (fun same hs => t_Tap_readWord_56 (sp_slen ⟨fun q => by omega, fun _ => sp_schar (by omega) ?_⟩)) (fun j hj ih same hs => t_Tap_readWord_56 (sp_slen ⟨fun q => by omega, fun _ => sp_schar (by omega) ?_⟩))
      · rw [wsp]
        refine ⟨fun q => absurd rfl q, fun _ => ?_⟩
        rw [h2, h3, h5]
        have z2 : ∀ x : Int, zq [42] μ (zk_set μ 42 2 x) := fun x => (zq.rf _ _).set (by decide) _ _
        have n3 : ∀ x : Int, zk_set μ 42 2 x 42 3 = (p : Int) := fun x => by rw [zk_set_n (by decide)]; exact h3
        have n5 : ∀ x : Int, zk_set μ 42 2 x 42 5 = (e : Int) := fun x => by rw [zk_set_n (by decide)]; exact h5
        have n0 : ∀ x : Int, zt_C0 (zk_set μ 42 2 x) f len := fun x => zt_C0_q h0 (z2 x) (zk_set_n (by decide))
        refine ⟨fun q => ⟨by omega, next t _ (z2 _) (n0 _) (zk_set_s _ _ _ _) (n3 _) (n5 _) ?_⟩, fun q => ⟨fun q2 => ⟨by omega, next t _ (z2 _) (n0 _) (zk_set_s _ _ _ _) (n3 _) (n5 _) ?_⟩, fun q2 => ⟨by omega, next c _ (z2 _) (n0 _) (zk_set_s _ _ _ _) (n3 _) (n5 _) ?_⟩⟩⟩
        · rw [if_neg]
          rw [zt_wl_eq hpe]
          intro ⟨g1, g2⟩
          rcases hs with hs | hs
          · omega
          · exact hs.2 (fun k hk => ⟨by omega, g2 k hk⟩)
        · rw [if_neg]
          rw [zt_wl_eq hpe]
          intro ⟨g1, g2⟩
          omega
        · rw [if_pos]
          rw [zt_wl_eq hpe]
          rcases hs with hs | hs
          · exact ⟨by omega, fun k hk => (hs.2 k hk).2⟩
          · omega
      · rw [wj j hj]
        have hne' : w.getD j 0 ≠ 32 := hne w (List.mem_cons_self) _ (by
          rw [List.getD_eq_getElem?_getD, List.getElem?_eq_getElem hj]
          exact List.getElem_mem hj)
        have go : ∀ s' : Int, (s' = 1 ∧ (∀ k, k < j + 1 → p + k < e ∧ f (p + k) = w.getD k 0)) ∨ (s' = 0 ∧ ¬ (∀ k, k < j + 1 → p + k < e ∧ f (p + k) = w.getD k 0)) → zk_K 112 151 [.inr (.inr (.inl 42)), .inl (c : Int), .inl (((p + j : Nat) : Int) + 1), .inl s', .inl ((i + j : Nat) : Int)] [] μ (zk_RV BV) := fun s' h' => t_Tap_readWord_151 ⟨by omega, ih s' h'⟩
        refine ⟨fun _ => ⟨fun q => ⟨by omega, go 0 (Or.inr ⟨rfl, fun g => ?_⟩)⟩, fun q => ?_⟩, fun q => absurd q hne'⟩
        · rcases hs with hs | hs
          · omega
          · exact hs.2 (fun k hk => g k (by omega))
        · have hs1 : ∀ k, k < j → p + k < e ∧ f (p + k) = w.getD k 0 := by
            rcases hs with hs | hs
            · exact hs.2
            · omega
          rw [h5]
          refine ⟨fun q2 => ⟨by omega, go 0 (Or.inr ⟨rfl, fun g => by have := (g j (by omega)).1; omega⟩)⟩, fun q2 => sp_cb hb h0 (fun _ => sp_schar (by omega) ?_) (fun q3 => by omega)⟩
          rw [wj j hj]
          refine ⟨fun q3 => ⟨by omega, go 0 (Or.inr ⟨rfl, fun g => q3 (g j (by omega)).2⟩)⟩, fun q3 => ⟨by omega, go 1 (Or.inl ⟨rfl, fun k hk => ?_⟩)⟩⟩
          by_cases e1 : k = j
          · rw [e1]
            exact ⟨by omega, q3⟩
          · exact hs1 k (by omega)
    exact lp 0 (Nat.zero_le _) 1 (Or.inl ⟨rfl, fun k hk => by omega⟩)
theorem sp_cword {p : Nat} (hb : zt_by f len) (h : zt_C0 μ f len) (hp : p < len) (h5 : μ 42 5 = (p : Int)) (h3 : μ 42 3 = (p : Int)) (hB : ∀ μ', zq [42] μ μ' → zt_C0 μ' f len → zt_C μ' (zt_cd (zt_wl f p (zt_sk (fun i => zt_le (f i)) (len - p) p)) zt_ws 16 1, 0, p, zt_sk (fun i => zt_le (f i)) (len - p) p) → BV μ') : zk_C 112 [.inr (.inr (.inl 42))] μ (zk_RV BV) := by
  have hlen := hb.1
  have er := zt_sk_r (p := fun i => zt_le (f i)) (len - p) p
  have lp : ∀ n, n ≤ len → (p ≤ n → ∀ ν, zq [42] μ ν → zt_C0 ν f len → ν 42 5 = (n : Int) → ν 42 3 = (p : Int) → zt_sk (fun i => zt_le (f i)) (len - n) n = zt_sk (fun i => zt_le (f i)) (len - p) p → zk_K 112 0 [.inr (.inr (.inl 42)), .inr (.inr (.inr 0)), .inr (.inr (.inr 0)), .inr (.inr (.inr 0)), .inr (.inr (.inr 0))] [] ν (zk_RV BV)) := by
    have fin : ∀ (n : Nat) (ν : zk_M), zq [42] μ ν → zt_C0 ν f len → ν 42 5 = (n : Int) → ν 42 3 = (p : Int) → n = zt_sk (fun i => zt_le (f i)) (len - p) p → zk_K 112 56 [.inr (.inr (.inl 42)), .inl 16, .inl (p : Int), .inl 1, .inl 0] [] (zk_set ν 42 2 1) (zk_RV BV) := fun n ν z h0 k5 k3 e => by
      refine sp_ctab hb er.1 (by omega) zt_ws 16 1 0 (zk_set ν 42 2 1) (zt_C0_q h0 ((zq.rf _ _).set (by decide) _ _) (zk_set_n (by decide))) (zk_set_s _ _ _ _) (by rw [zk_set_n (by decide)]; exact k3) (by rw [zk_set_n (by decide), k5, e]) zt_ws_ne (by decide +kernel) (fun j hj => ?_) (by decide) (fun μ' z' a0 a2 a3 a5 => hB μ' (z.tr (((zq.rf _ _).set (by decide) _ _).tr z')) a0 ⟨a2, a3, a5, fun q => ?_⟩)
      · rw [Nat.zero_add]
        exact zt_fl_W j (by have : (zt_fl zt_ws).length = 77 := by decide +kernel
                            omega)
      · exfalso
        have hc : ∀ (ws : List (List Int)) (wl : List Int) (c t : Nat), 3 ≤ c → t ≠ 2 → zt_cd wl ws c t ≠ 2 := by
          intro ws wl
          induction ws with
          | nil => intro c t _ ht; exact ht
          | cons w ws ih =>
            intro c t hc ht
            rw [zt_cd]
            refine ih (c + 1) _ (by omega) ?_
            split <;> omega
        exact hc _ _ 16 1 (by decide) (by decide) q
    refine zl_up (fun hpn ν z h0 k5 k3 e => ?_) (fun n hn ih hpn ν z h0 k5 k3 e => ?_)
    · rw [Nat.sub_self] at e
      refine t_Tap_readWord_0 ⟨fun _ => ?_, fun q => absurd (by rw [h0.1, k5]; exact Int.le_refl _) q⟩
      rw [k3]
      exact fin len ν z h0 k5 k3 e
    · rw [zt_sk_st hn] at e
      refine t_Tap_readWord_0 ⟨fun q => by have := h0.1; omega, fun _ => ?_⟩
      rw [k5]
      refine sp_cb hb h0 (fun _ => sp_cle (fun d => ⟨fun q => absurd q (by decide), fun _ => ⟨by omega, ?_⟩⟩) (fun d => ⟨fun _ => ?_, fun q => absurd rfl q⟩)) (fun q => absurd hn q)
      · rw [if_pos d] at e
        exact ih (by omega) _ (z.set (by decide) _ _) (zt_C0_q h0 ((zq.rf _ _).set (by decide) _ _) (zk_set_n (by decide))) (by rw [zk_set_s, k5]; rfl) (by rw [zk_set_n (by decide)]; exact k3) e
      · rw [if_neg (by simp [d])] at e
        rw [k3]
        exact fin n ν z h0 k5 k3 e
  exact c_Tap_readWord (lp p (by omega) (Nat.le_refl _) μ (zq.rf _ _) h h5 h3 rfl)
theorem zt_sg_2 (c : Int) : zt_sg c ≠ 2 := by
  unfold zt_sg
  repeat' split
  all_goals decide
theorem sp_csign {p : Nat} (hb : zt_by f len) (h : zt_C0 μ f len) (hp : p < len) (h5 : μ 42 5 = (p : Int)) (h3 : μ 42 3 = (p : Int)) (hB : ∀ μ', zq [42] μ μ' → zt_C0 μ' f len → zt_C μ' (if (zt_sg (f p) = 3 ∨ zt_sg (f p) = 5) ∧ p + 1 < len ∧ f (p + 1) = 61 then (if zt_sg (f p) = 3 then 4 else 6, 0, p, p + 2) else (zt_sg (f p), 0, p, p + 1)) → BV μ') : zk_C 113 [.inr (.inr (.inl 42))] μ (zk_RV BV) := by
  have hlen := hb.1
  refine c_Tap_readSign ?_
  rw [h5]
  refine sp_cb hb h (fun _ => sp_signOf ?_) (fun q => absurd hp q)
  rw [h5, show (p : Int) + 1 = ((p + 1 : Nat) : Int) by omega]
  have z1 : zq [42] μ (zk_set (zk_set μ 42 2 (zt_sg (f p) : Int)) 42 5 ((p + 1 : Nat) : Int)) := ((zq.rf _ _).set (by decide) _ _).set (by decide) _ _
  have c1 : zt_C0 (zk_set (zk_set μ 42 2 (zt_sg (f p) : Int)) 42 5 ((p + 1 : Nat) : Int)) f len := zt_C0_q h z1 (by rw [zk_set_n (by decide), zk_set_n (by decide)])
  have k2 : zk_set (zk_set μ 42 2 (zt_sg (f p) : Int)) 42 5 ((p + 1 : Nat) : Int) 42 2 = (zt_sg (f p) : Int) := by rw [zk_set_n (by decide), zk_set_s]
  have k3 : zk_set (zk_set μ 42 2 (zt_sg (f p) : Int)) 42 5 ((p + 1 : Nat) : Int) 42 3 = (p : Int) := by rw [zk_set_n (by decide), zk_set_n (by decide)]; exact h3
  have k5 : zk_set (zk_set μ 42 2 (zt_sg (f p) : Int)) 42 5 ((p + 1 : Nat) : Int) 42 5 = ((p + 1 : Nat) : Int) := zk_set_s _ _ _ _
  generalize zk_set (zk_set μ 42 2 (zt_sg (f p) : Int)) 42 5 ((p + 1 : Nat) : Int) = ν at *
  have one : ¬ ((zt_sg (f p) = 3 ∨ zt_sg (f p) = 5) ∧ p + 1 < len ∧ f (p + 1) = 61) → BV ν := fun q => by
    rw [if_neg q] at hB
    exact hB ν z1 c1 ⟨k2, k3, k5, fun e => absurd e (zt_sg_2 _)⟩
  have two : ∀ x : Nat, ((zt_sg (f p) = 3 ∨ zt_sg (f p) = 5) ∧ p + 1 < len ∧ f (p + 1) = 61) → x = (if zt_sg (f p) = 3 then 4 else 6) → BV (zk_set (zk_set ν 42 2 (x : Int)) 42 5 (((p + 1 : Nat) : Int) + 1)) := fun x q hx => by
    rw [if_pos q, ← hx] at hB
    refine hB _ ((z1.set (by decide) _ _).set (by decide) _ _) (zt_C0_q c1 (((zq.rf _ _).set (by decide) _ _).set (by decide) _ _) (by rw [zk_set_n (by decide), zk_set_n (by decide)])) ⟨by rw [zk_set_n (by decide), zk_set_s], by rw [zk_set_n (by decide), zk_set_n (by decide)]; exact k3, by rw [zk_set_s]; rfl, fun e => ?_⟩
    have e2 : x = 2 := e
    rw [e2] at hx
    split at hx <;> omega
  refine ⟨by omega, fun q => sp_cb hb c1 (fun g => ⟨fun w => one (fun e => w e.2.2), fun w => ?_⟩) (fun g => ⟨fun _ => one (fun e => g e.2.1), fun w => absurd w (by decide)⟩), fun q => ⟨fun q2 => one (by omega), fun q2 => sp_cb hb c1 (fun g => ⟨fun w => one (fun e => w e.2.2), fun w => ?_⟩) (fun g => ⟨fun _ => one (fun e => g e.2.1), fun w => absurd w (by decide)⟩)⟩⟩
  · rw [k2, k5]
    exact ⟨fun q3 => by omega, fun q3 => ⟨by omega, two 4 ⟨by omega, g, w⟩ (by rw [if_pos (by omega)])⟩⟩
  · rw [k2, k5]
    exact ⟨fun q3 => ⟨by omega, two 6 ⟨by omega, g, w⟩ (by rw [if_neg (by omega)])⟩, fun q3 => by omega⟩
theorem sp_advance {n : Nat} (hb : zt_by f len) (h : zt_C0 μ f len) (hn : n ≤ len) (h5 : μ 42 5 = (n : Int)) (hB : ∀ μ', zq [42] μ μ' → zt_C0 μ' f len → zt_C μ' (zt_tok f len n) → BV μ') : zk_C 107 [.inr (.inr (.inl 42))] μ (zk_RV BV) := by
  have hlen := hb.1
  have lp : ∀ k, k ≤ len → (∀ ν, zq [42] μ ν → zt_C0 ν f len → ν 42 5 = (k : Int) → zt_sk (fun i => zt_bl (f i)) (len - k) k = zt_sk (fun i => zt_bl (f i)) (len - n) n → zk_K 107 0 [.inr (.inr (.inl 42))] [] ν (zk_RV BV)) := by
    refine zl_up (fun ν z h0 k5 e => ?_) (fun k hk ih ν z h0 k5 e => ?_)
    · rw [Nat.sub_self] at e
      have e1 : zt_tok f len n = (0, 0, len, len) := by
        unfold zt_tok
        rw [← e]
        exact if_pos (Nat.le_refl _)
      rw [e1] at hB
      refine t_Tap_advance_0 ⟨fun _ => ⟨fun q => by have := h0.1; omega, fun _ => ?_⟩, fun q => absurd (by rw [h0.1, k5]; exact Int.le_refl _) q⟩
      rw [k5]
      exact hB _ ((z.set (by decide) _ _).set (by decide) _ _) (zt_C0_q h0 (((zq.rf _ _).set (by decide) _ _).set (by decide) _ _) (by rw [zk_set_n (by decide), zk_set_n (by decide)])) ⟨zk_set_s _ _ _ _, by rw [zk_set_n (by decide), zk_set_s], by rw [zk_set_n (by decide), zk_set_n (by decide)]; exact k5, fun q => absurd (show (0 : Nat) = 2 from q) (by decide)⟩
    · rw [zt_sk_st hk] at e
      refine t_Tap_advance_0 ⟨fun q => by have := h0.1; omega, fun _ => ?_⟩
      rw [k5]
      have blank : zt_bl (f k) = true → zk_K 107 0 [.inr (.inr (.inl 42))] [] (zk_set ν 42 5 ((k : Int) + 1)) (zk_RV BV) := fun d => by
        rw [if_pos d] at e
        exact ih _ (z.set (by decide) _ _) (zt_C0_q h0 ((zq.rf _ _).set (by decide) _ _) (zk_set_n (by decide))) (by rw [zk_set_s]; rfl) e
      refine sp_cb hb h0 (fun _ => ⟨fun q => ⟨by omega, ?_⟩, fun q => ?_⟩) (fun q => absurd hk q)
      · rw [k5]
        exact blank (by simp [zt_bl, q])
      · rw [k5]
        refine sp_cb hb h0 (fun _ => ⟨fun q2 => ⟨fun _ => ?_, fun q3 => by have := h0.1; omega⟩, fun q2 => ⟨by omega, ?_⟩⟩) (fun q => absurd hk q)
        · have nb : zt_bl (f k) = false := by simp [zt_bl, q, q2]
          rw [if_neg (by simp [nb])] at e
          have et : zt_tok f len n = zt_tp f len k := by
            unfold zt_tok
            rw [← e]
          rw [et] at hB
          unfold zt_tp at hB
          rw [if_neg (by omega)] at hB
          rw [k5]
          have z3 : zq [42] ν (zk_set ν 42 3 (k : Int)) := (zq.rf _ _).set (by decide) _ _
          have c3 : zt_C0 (zk_set ν 42 3 (k : Int)) f len := zt_C0_q h0 z3 (zk_set_n (by decide))
          have n5 : zk_set ν 42 3 (k : Int) 42 5 = (k : Int) := by rw [zk_set_n (by decide)]; exact k5
          have n3 : zk_set ν 42 3 (k : Int) 42 3 = (k : Int) := zk_set_s _ _ _ _
          generalize zk_set ν 42 3 (k : Int) = ξ at *
          refine sp_cb hb c3 (fun _ => sp_cle (fun d => ⟨fun q => absurd q (by decide), fun _ => ?_⟩) (fun d => ⟨fun _ => ?_, fun q => absurd rfl q⟩)) (fun q => absurd hk q)
          · rw [if_pos d] at hB
            exact sp_cword hb c3 hk n5 n3 (fun μ' z' a b => hB μ' (z.tr (z3.tr z')) a b)
          · rw [if_neg (by simp [d]), ] at hB
            rw [n5]
            refine sp_cb hb c3 (fun _ => sp_cdi (fun d2 => ⟨fun q => absurd q (by decide), fun _ => ?_⟩) (fun d2 => ⟨fun _ => ?_, fun q => absurd rfl q⟩)) (fun q => absurd hk q)
            · rw [if_pos d2] at hB
              exact sp_cnum hb c3 hk n5 n3 (fun μ' z' a b => hB μ' (z.tr (z3.tr z')) a b)
            · rw [if_neg (by simp [d2])] at hB
              exact sp_csign hb c3 hk n5 n3 (fun μ' z' a b => hB μ' (z.tr (z3.tr z')) a b)
        · rw [k5]
          exact blank (by simp [zt_bl, q2])
  exact c_Tap_advance (lp n hn μ (zq.rf _ _) h h5 rfl)
end
