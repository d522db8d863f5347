/-! the reference reads a deed *-/
def zt_h (p : Int) (μ ν : zk_M) : Prop := zq [60, 63] μ ν ∧ (∀ i : Int, i < 7 ∨ 11 < i → ν 60 i = μ 60 i) ∧ ∀ i : Int, i ≠ p + 1 → i ≠ p + 2 → ν 63 i = μ 63 i
theorem zt_h.rf (p : Int) (μ : zk_M) : zt_h p μ μ := ⟨zq.rf _ _, fun _ _ => rfl, fun _ _ _ => rfl⟩
theorem zt_h.tr {p : Int} {μ μ1 μ2 : zk_M} (h : zt_h p μ μ1) (h2 : zt_h p μ1 μ2) : zt_h p μ μ2 := ⟨h.1.tr h2.1, fun i hi => (h2.2.1 i hi).trans (h.2.1 i hi), fun i h1 h2' => (h2.2.2 i h1 h2').trans (h.2.2 i h1 h2')⟩
theorem zt_n.h {p : Int} {μ ν : zk_M} (h : zt_n μ ν) : zt_h p μ ν := ⟨h.1.up (by simp), h.2, fun i _ _ => by rw [h.1 63 (by decide)]⟩
section
variable {μ : zk_M} {BV : zk_M → Prop} {B : Int → zk_M → Prop} {f : Nat → Int} {len w : Nat} {t : zt_T} {p : Int}
theorem sp_fig {x lo hi : Int} (hb : zt_by f len) (hx : x = p + 1 ∨ x = p + 2) (hp : 0 ≤ p ∧ p < 2700) (hr : hi ≤ 9999) (h : zt_R0 μ f len) (hR : zt_R μ t) (ht : zt_tf len t) (hT : zt_num lo hi t = 0 → ∀ ν, zt_h p μ ν → ν 63 x = t.2.1 → (∀ i : Int, i ≠ x → ν 63 i = μ 63 i) → zt_R0 ν f len → zt_R ν (zt_tok f len t.2.2.2) → zt_tf len (zt_tok f len t.2.2.2) → B 0 ν) (hF : zt_num lo hi t ≠ 0 → B (zt_num lo hi t) μ) : zk_C 185 [.inr (.inr (.inl 60)), .inl x, .inl lo, .inl hi] μ (zk_RI B) := by
  obtain ⟨k, k0, k1, _⟩ := zt_tk9 hR.2.2
  unfold zt_num at hT hF
  refine c_Mod_figure ⟨fun e1 => ?_, fun n1 => ?_⟩
  · have e2 := k1.1 e1
    have rt : 0 ≤ μ 60 10 ∧ t.2.1 = min (μ 60 10) 10000 := by
      rcases hR.2.2 with h | h | h | h | h
      · omega
      · exact ⟨h.2.2.1, h.2.2.2.2⟩
      · omega
      · omega
      · omega
    rw [if_neg (by omega)] at hT hF
    refine sp_isIn (fun a b => ⟨fun _ => ⟨by omega, ?_⟩, fun q => absurd q (by decide)⟩) (fun q => ⟨fun q2 => absurd rfl q2, fun _ => ?_⟩)
    · rw [if_neg (by omega)] at hT
      have n1 : zk_set μ 63 x (μ 60 10) 60 = μ 60 := zk_set_o (by decide)
      have z1 : zt_h p μ (zk_set μ 63 x (μ 60 10)) := ⟨(zq.rf _ _).set (by simp) _ _, fun i _ => by rw [n1], fun i h1 h2 => by rw [zk_set_n (by omega)]⟩
      refine sp_nextTok hb (n := t.2.2.2) ⟨by rw [n1]; exact h.1, fun i hi => by rw [zk_set_o (by decide)]; exact h.2 i hi⟩ ht.2.1 (by rw [n1]; exact hR.2.1) (fun ν z r => ?_)
      have e63 : ν 63 = zk_set μ 63 x (μ 60 10) 63 := z.1 63 (by decide)
      exact hT rfl ν (z1.tr z.h) (by rw [e63, zk_set_s]; omega) (fun i hi => by rw [e63, zk_set_n hi]) (zt_R0_q ⟨by rw [n1]; exact h.1, fun i hi => by rw [zk_set_o (by decide)]; exact h.2 i hi⟩ z) r (zt_tok_f (f := f) ht.2.1).1
    · rw [if_pos (by omega)] at hF
      exact hF (by decide)
  · rw [if_pos (fun e => n1 (k1.2 e))] at hF
    exact hF (by decide)
theorem zt_wd {c : Nat} {x : Int} (hR : zt_R μ t) (hc : 16 ≤ c ∧ c ≤ 31) (hx : x = zt_pk (zt_ws.getD (c - 16) [])) {P Q : Prop} (hy : t.1 = c → P) (hn : t.1 ≠ c → Q) : (¬ (μ 60 9) = 2 → Q) ∧ ((μ 60 9) = 2 → ((zk_cmp (μ 60 11) x = 0 → P) ∧ (¬ zk_cmp (μ 60 11) x = 0 → Q))) := by
  have k := (zt_tk9 hR.2.2).2.2.2.2.2.2.2.2.2.2.2.2.2.2.2.2.2
  refine ⟨fun q => hn (fun e => q (k (by omega))), fun q => ?_⟩
  rw [zt_isW hR hc hx q]
  exact ⟨hy, hn⟩
theorem sp_ofOne (hb : zt_by f len) (hp : 0 ≤ p ∧ p < 2700) (hw : w ≠ 20 ∧ w ≠ 21) (h : zt_R0 μ f len) (hR : zt_R μ t) (ht : zt_tf len t) (hF : (zt_deed (zt_tok f len) w t).1 ≠ 0 → ∀ ν, zt_h p μ ν → ν 60 8 = ((zt_deed (zt_tok f len) w t).2.1 : Int) → B (zt_deed (zt_tok f len) w t).1 ν) (hT : ∀ (a c : Int) (t' : zt_T) ν, zt_deed (zt_tok f len) w t = (if w = 19 then zt_deed4 (zt_tok f len) a c t' else zt_semi (zt_tok f len) a c (-1) t') → zt_h p μ ν → ν 63 (p + 1) = a → ν 63 (p + 2) = c → 0 ≤ c → c ≤ 5 → zt_R0 ν f len → zt_R ν t' → zt_tf len t' → B 0 ν) : zk_C 186 [.inr (.inr (.inl 60)), .inl p] μ (zk_RI B) := by
  unfold zt_deed at hF hT
  rw [if_neg hw.1, if_neg hw.2] at hF hT
  refine c_Mod_ofOne ⟨by omega, sp_fig hb (Or.inl rfl) hp (by decide) h hR ht (fun e ν1 z1 v1 f1 r1 R1 tf1 => ⟨fun _ => ?_, fun q => absurd rfl q⟩) (fun e => ⟨fun q => absurd q e, fun _ => ?_⟩)⟩
  · rw [if_neg (fun q => q e)] at hF hT
    unfold zt_deed2 at hF hT
    refine zt_wd R1 (c := 22) (by decide) (by decide +kernel) (fun e22 => ?_) (fun n22 => ?_)
    · rw [if_neg (fun q => q e22)] at hF hT
      refine sp_nextTok hb r1 tf1.2.1 R1.2.1 (fun ν2 z2 R2 => ⟨by omega, ?_⟩)
      have tf2 := (zt_tok_f (f := f) tf1.2.1).1
      unfold zt_deed3 at hF hT
      refine sp_fig hb (Or.inr rfl) hp (by decide) (zt_R0_q r1 z2) R2 tf2 (fun e3 ν3 z3 v3 f3 r3 R3 tf3 => ?_) (fun e3 => ?_)
      · rw [if_neg (fun q => q e3)] at hT
        have rg := zt_num_r (fun q => q e3)
        exact hT t.2.1 (zt_tok f len (zt_tok f len t.2.2.2).2.2.2).2.1 _ ν3 rfl (z1.tr (z2.h.tr z3)) (by rw [f3 _ (by omega), z2.1 63 (by decide)]; exact v1) v3 rg.1 rg.2 r3 R3 tf3
      · rw [if_pos e3] at hF
        exact hF e3 ν2 (z1.tr z2.h) R2.1
    · rw [if_pos n22] at hF
      exact hF (show ¬ (1 : Int) = 0 by decide) ν1 z1 R1.1
  · rw [if_pos e] at hF
    exact hF e μ (zt_h.rf _ _) hR.1
theorem sp_toOther (hb : zt_by f len) (hp : 0 ≤ p ∧ p < 2700) (h : zt_R0 μ f len) (hR : zt_R μ t) (ht : zt_tf len t) (hF : (zt_deed (zt_tok f len) 19 t).1 ≠ 0 → ∀ ν, zt_h p μ ν → ν 60 8 = ((zt_deed (zt_tok f len) 19 t).2.1 : Int) → B (zt_deed (zt_tok f len) 19 t).1 ν) (hT : ∀ (a c c2 : Int) (t' : zt_T) ν, zt_deed (zt_tok f len) 19 t = zt_semi (zt_tok f len) a c c2 t' → zt_h p μ ν → ν 63 (p + 1) = a → ν 63 (p + 2) = 6 * c + c2 → 0 ≤ c → c ≤ 5 → 0 ≤ c2 → c2 ≤ 5 → zt_R0 ν f len → zt_R ν t' → zt_tf len t' → B 0 ν) : zk_C 187 [.inr (.inr (.inl 60)), .inl p] μ (zk_RI B) := by
  refine c_Mod_toOther (sp_ofOne hb hp (by decide) h hR ht (fun e ν z e8 => ⟨fun q => absurd q e, fun _ => hF e ν z e8⟩) (fun a c t1 ν1 le z1 v1 v2 c0 c5 r1 R1 tf1 => ⟨fun _ => ?_, fun q => absurd rfl q⟩))
  rw [if_pos rfl] at le
  rw [le] at hF hT
  unfold zt_deed4 at hF hT
  refine zt_wd R1 (c := 23) (by decide) (by decide +kernel) (fun e23 => ?_) (fun n23 => ?_)
  · rw [if_neg (fun q => q e23)] at hF hT
    refine sp_nextTok hb r1 tf1.2.1 R1.2.1 (fun ν2 z2 R2 => ⟨by omega, by omega, by omega, ?_⟩)
    have tf2 := (zt_tok_f (f := f) tf1.2.1).1
    have e2 : ν2 63 (p + 2) = c := by rw [z2.1 63 (by decide)]; exact v2
    have e1 : ν2 63 (p + 1) = a := by rw [z2.1 63 (by decide)]; exact v1
    unfold zt_deed5 at hF hT
    rw [e2]
    have fs : ∀ (ν : zk_M) (x : Int), zt_h p ν (zk_set ν 63 (p + 2) x) := fun ν x => ⟨(zq.rf _ _).set (by simp) _ _, fun i _ => by rw [zk_set_o (by decide)], fun i h1 h2 => by rw [zk_set_n h2]⟩
    refine sp_fig hb (Or.inr rfl) hp (by decide) (zt_R0_q r1 z2) R2 tf2 (fun e3 ν3 z3 v3 f3 r3 R3 tf3 => ?_) (fun e3 => ?_)
    · rw [if_neg (fun q => q e3)] at hT
      have rg := zt_num_r (fun q => q e3)
      rw [v3]
      refine ⟨by omega, by omega, by omega, by omega, by omega, ?_⟩
      exact hT a c _ _ _ rfl (z1.tr (z2.h.tr (z3.tr (fs ν3 _)))) (by rw [zk_set_n (by omega), f3 _ (by omega)]; exact e1) (by rw [zk_set_s]; omega) c0 c5 rg.1 rg.2 ⟨by rw [zk_set_o (by decide)]; exact r3.1, fun i hi => by rw [zk_set_o (by decide)]; exact r3.2 i hi⟩ (R3.cg (fun i _ _ => by rw [zk_set_o (by decide)])) tf3
    · rw [if_pos e3] at hF
      rw [e2]
      refine ⟨by omega, by omega, by omega, by omega, by omega, ?_⟩
      exact hF e3 _ (z1.tr (z2.h.tr (fs ν2 _))) (by rw [zk_set_o (by decide)]; exact R2.1)
  · rw [if_pos n23] at hF
    exact hF (show ¬ (1 : Int) = 0 by decide) ν1 z1 R1.1
theorem sp_line (hb : zt_by f len) (hp : 0 ≤ p ∧ p < 2700) (hw : w = 18 ∨ w = 31 ∨ w = 19 ∨ w = 20 ∨ w = 21) (h : zt_R0 μ f len) (hR : zt_R μ t) (ht : zt_tf len t) (hF : (zt_deed (zt_tok f len) w t).1 ≠ 0 → ∀ ν, zt_h p μ ν → ν 60 8 = ((zt_deed (zt_tok f len) w t).2.1 : Int) → B (zt_deed (zt_tok f len) w t).1 ν) (hT : ∀ (a c c2 : Int) (t' : zt_T) ν, zt_deed (zt_tok f len) w t = zt_semi (zt_tok f len) a c c2 t' → zt_h p μ ν → zx_cla (w : Int) a c c2 (zt_so w) (ν 63 (p + 1)) (ν 63 (p + 2)) → zt_R0 ν f len → zt_R ν t' → zt_tf len t' → B 0 ν) : zk_C 188 [.inr (.inr (.inl 60)), .inl (zt_so w), .inl p] μ (zk_RI B) := by
  have two : (w = 18 ∨ w = 31) → zk_C 186 [.inr (.inr (.inl 60)), .inl p] μ (zk_RI B) := fun hw2 => by
    refine sp_ofOne hb hp (by omega) h hR ht hF (fun a c t' ν le z v1 v2 _ _ r1 R1 tf1 => ?_)
    rw [if_neg (by omega)] at le
    refine hT a c (-1) t' ν le z ?_ r1 R1 tf1
    unfold zx_cla
    rcases hw2 with rfl | rfl
    · exact Or.inr (Or.inr (Or.inl ⟨rfl, rfl, v1.symm, v2.symm⟩))
    · exact Or.inr (Or.inr (Or.inr (Or.inl ⟨rfl, rfl, v1.symm, v2.symm⟩)))
  rcases hw with rfl | rfl | rfl | rfl | rfl
  · exact c_Mod_line ⟨fun _ => ⟨fun _ => ⟨fun _ => two (Or.inl rfl), fun q => absurd q (by decide)⟩, fun q => absurd q (by decide)⟩, fun q => absurd q (by decide)⟩
  · exact c_Mod_line ⟨fun _ => ⟨fun _ => ⟨fun _ => two (Or.inr rfl), fun q => absurd q (by decide)⟩, fun q => absurd q (by decide)⟩, fun q => absurd q (by decide)⟩
  · refine c_Mod_line ⟨fun _ => ⟨fun _ => ⟨fun q => absurd rfl q, fun _ => ?_⟩, fun q => absurd q (by decide)⟩, fun q => absurd q (by decide)⟩
    refine sp_toOther hb hp h hR ht hF (fun a c c2 t' ν le z v1 v2 c0 c5 d0 d5 r1 R1 tf1 => hT a c c2 t' ν le z ?_ r1 R1 tf1)
    exact Or.inr (Or.inr (Or.inr (Or.inr (Or.inl ⟨rfl, rfl, v1.symm, c0, c5, d0, d5, v2⟩))))
  · refine c_Mod_line ⟨fun q => absurd rfl q, fun _ => ⟨by omega, ?_⟩⟩
    unfold zt_deed at hF hT
    rw [if_pos rfl] at hF hT
    refine sp_fig hb (Or.inl rfl) hp (by decide) h hR ht (fun e ν1 z1 v1 f1 r1 R1 tf1 => ?_) (fun e => ?_)
    · rw [if_neg (fun q => q e)] at hT
      exact hT _ _ _ _ ν1 rfl z1 (Or.inr (Or.inr (Or.inr (Or.inr (Or.inr (Or.inl ⟨rfl, rfl, v1.symm⟩)))))) r1 R1 tf1
    · rw [if_pos e] at hF
      exact hF e μ (zt_h.rf _ _) hR.1
  · refine c_Mod_line ⟨fun _ => ⟨fun q => absurd rfl q, fun _ => ⟨by omega, ?_⟩⟩, fun q => absurd q (by decide)⟩
    unfold zt_deed at hF hT
    rw [if_neg (by decide), if_pos rfl] at hF hT
    refine sp_fig hb (Or.inl rfl) hp (by decide) h hR ht (fun e ν1 z1 v1 f1 r1 R1 tf1 => ?_) (fun e => ?_)
    · rw [if_neg (fun q => q e)] at hT
      exact hT _ _ _ _ ν1 rfl z1 (Or.inr (Or.inr (Or.inr (Or.inr (Or.inr (Or.inr ⟨rfl, rfl, v1.symm⟩)))))) r1 R1 tf1
    · rw [if_pos e] at hF
      exact hF e μ (zt_h.rf _ _) hR.1
end
