/-! the reference reads a clause *-/
def zt_XR (ν : zk_M) (b : Nat) (X : zt_X) : Prop := zt_M ν b X.2.1 ∧ ν 63 (b : Int) = (X.1.length : Int) ∧ (∀ (j : Nat) q, X.1[j]? = some q → zx_cla (q.1 : Int) q.2.1 q.2.2.1 q.2.2.2 (ν 63 ((b : Int) + 1 + 3 * j)) (ν 63 ((b : Int) + 2 + 3 * j)) (ν 63 ((b : Int) + 3 + 3 * j))) ∧ ∀ g L, X.2.2 g = some L → L.1 < X.1.length ∧ ν 63 ((b : Int) + 2 + 3 * L.1) = (L.2.1 : Int) ∧ ν 63 ((b : Int) + 3 + 3 * L.1) = (L.2.1 : Int) + L.2.2.length
def zt_XG (ν : zk_M) (X : zt_X) : Prop := ν 60 21 = (if (X.2.2 false).isSome then 1 else 0) + (if (X.2.2 true).isSome then 2 else 0)
/-- what reading a text may change *-/
def zt_u (b : Nat) (μ ν : zk_M) : Prop := zq [60, 63, 65] μ ν ∧ (∀ i : Int, i < 7 → ν 60 i = μ 60 i) ∧ ∀ i : Int, i < (b : Int) → ν 63 i = μ 63 i
theorem zt_u.rf (b : Nat) (μ : zk_M) : zt_u b μ μ := ⟨zq.rf _ _, fun _ _ => rfl, fun _ _ => rfl⟩
theorem zt_u.tr {b : Nat} {μ μ1 μ2 : zk_M} (h : zt_u b μ μ1) (h2 : zt_u b μ1 μ2) : zt_u b μ μ2 := ⟨h.1.tr h2.1, fun i hi => (h2.2.1 i hi).trans (h.2.1 i hi), fun i hi => (h2.2.2 i hi).trans (h.2.2 i hi)⟩
theorem zt_g.u {b : Nat} {μ ν : zk_M} (h : zt_g b μ ν) : zt_u b μ ν := ⟨h.1, fun i hi => h.2.1 i (by omega), fun i hi => h.2.2 i (by omega)⟩
theorem zt_h.u {b : Nat} {p : Int} {μ ν : zk_M} (h : zt_h p μ ν) (hp : (b : Int) ≤ p) : zt_u b μ ν := ⟨h.1.up (by simp), fun i hi => h.2.1 i (by omega), fun i hi => h.2.2 i (by omega) (by omega)⟩
theorem zt_u_63 (b : Nat) (μ : zk_M) {i : Int} (hi : (b : Int) ≤ i) (x : Int) : zt_u b μ (zk_set μ 63 i x) := ⟨(zq.rf _ _).set (by simp) _ _, fun j hj => by rw [zk_set_o (by decide)], fun j hj => by rw [zk_set_n (by omega)]⟩
theorem zt_u_60 (b : Nat) (μ : zk_M) {i : Int} (hi : 7 ≤ i) (x : Int) : zt_u b μ (zk_set μ 60 i x) := ⟨(zq.rf _ _).set (by simp) _ _, fun j hj => by rw [zk_set_n (by omega)], fun j hj => by rw [zk_set_o (by decide)]⟩
theorem zt_R0.u {μ ν : zk_M} {b : Nat} {f : Nat → Int} {len : Nat} (h : zt_R0 μ f len) (z : zt_u b μ ν) : zt_R0 ν f len := ⟨by rw [z.2.1 4 (by decide)]; exact h.1, fun i hi => by rw [z.1 64 (by decide)]; exact h.2 i hi⟩
theorem zt_bits : ∀ a c : Bool, zk_and (zk_shr ((if a then 1 else 0) + (if c then 2 else 0)) 0) 1 = (if a then 1 else 0) ∧ zk_and (zk_shr ((if a then 1 else 0) + (if c then 2 else 0)) 1) 1 = (if c then 1 else 0) ∧ zk_or ((if a then 1 else 0) + (if c then 2 else 0)) (zk_shl 1 0) = 1 + (if c then 2 else 0) ∧ zk_or ((if a then 1 else 0) + (if c then 2 else 0)) (zk_shl 1 1) = (if a then 1 else 0) + 2 := by decide +kernel
section
variable {μ : zk_M} {BV : zk_M → Prop} {B : Int → zk_M → Prop} {f : Nat → Int} {len w b : Nat} {t : zt_T} {g : Bool}
/-- a weighs law, and a goes law *-/
theorem sp_lawR {X : zt_X} {n : Nat} (hb : zt_by f len) (hbb : b ≤ 2040) (hS : zt_E μ b g f len 0 X.2.1 t) (ht : zt_tf len t) (hl : X.2.1.length ≤ t.2.2.1) (hf : len + 1 ≤ t.2.2.1 + n) (hF : (zt_law (zt_tok f len) g n true [] false [] t).1 ≠ 0 → ∀ ν', zt_g b μ ν' → ν' 60 8 = ((zt_law (zt_tok f len) g n true [] false [] t).2.1 : Int) → B (zt_law (zt_tok f len) g n true [] false [] t).1 ν') (hT : ∀ (l' : List (Int × Int)) (t' : zt_T) (ν' : zk_M), zt_law (zt_tok f len) g n true [] false [] t = (if t'.1 = 15 then (0, 0, l', zt_tok f len t'.2.2.2) else zt_bad 1 t') → zt_g b μ ν' → zt_E ν' b g f len 0 (X.2.1 ++ l') t' → zt_tf len t' → B 0 ν') : if g then zk_C 183 [.inr (.inr (.inl 60))] μ (zk_RI B) else zk_C 180 [.inr (.inr (.inl 60))] μ (zk_RI B) := by
  have hlen := hb.1
  cases g with
  | true =>
    rw [if_pos rfl]
    exact sp_either hb hbb (zt_g.rf _ _) hS ht hl hf hF hT
  | false =>
    rw [if_neg (by decide)]
    refine sp_sum (D := []) (l := []) (cmp := false) hb hbb (fun s D' e => absurd e (by simp)) rfl (zt_g.rf _ _) (by rw [List.append_nil]; exact hS) (zt_I_0 false) ht (by show X.2.1.length + 0 + 0 ≤ _; omega) hf (fun q => absurd q (by decide)) hF (fun n' l' t' ν' le z E I tf b1 f1 nn m1 => hT l' t' ν' ?_ z E tf)
    rw [le]
    have tl := tf.1
    obtain ⟨m, rfl⟩ : ∃ m, n' = m + 1 := ⟨n' - 1, by omega⟩
    have cfe : zt_cf false [] false t'.1 = decide (t'.1 = 15) := by
      unfold zt_cf
      rw [if_neg nn, if_neg (by decide), if_pos rfl]
    by_cases e15 : t'.1 = 15
    · rw [if_pos e15, zt_law, cfe, e15, if_neg (by decide), if_neg (by decide), if_pos rfl]
      rfl
    · rw [if_neg e15, zt_law, if_pos]
      rw [cfe]
      exact decide_eq_false e15
/-- the end of a clause *-/
theorem sp_128 {x1 p x4 : Int} {N : Nat} (hb : zt_by f len) (h12 : μ 60 12 = (b : Int)) (hbb : b ≤ 2040) (hN : N < 24) (h63 : μ 63 (b : Int) = (N : Int)) (hp : p = (b : Int) + 1 + 3 * N) (h0 : zt_R0 μ f len) (hR : zt_R μ t) (ht : zt_tf len t) (hB : ∀ ν, (ν = (if 2 ≤ x1 then zk_set μ 63 (b : Int) ((N : Int) + 1) else zk_set (zk_set (zk_set μ 63 (p + 1) x4) 63 (p + 2) (μ 60 14)) 63 (b : Int) ((N : Int) + 1))) → (t.1 ≠ 15 → B 1 ν) ∧ (t.1 = 15 → ∀ ν', zt_n ν ν' → zt_R ν' (zt_tok f len t.2.2.2) → B 0 ν')) : zk_K 189 128 [.inr (.inr (.inl 60)), .inl x1, .inr (.inr (.inr 0)), .inl p, .inl x4, .inr (.inr (.inr 0))] [.inl 0] μ (zk_RI B) := by
  obtain ⟨k, k0, k1, k2, k3, k4, k5, k6, k7, k8, _⟩ := zt_tk9 hR.2.2
  have go : ∀ ν, (ν = (if 2 ≤ x1 then zk_set μ 63 (b : Int) ((N : Int) + 1) else zk_set (zk_set (zk_set μ 63 (p + 1) x4) 63 (p + 2) (μ 60 14)) 63 (b : Int) ((N : Int) + 1))) → ((μ 60 9) = 59 → zk_C 164 [.inr (.inr (.inl 60))] ν (zk_RV fun μ10 => B 0 μ10)) ∧ (¬ (μ 60 9) = 59 → B 1 ν) := fun ν e => by
    have h := hB ν e
    have e60 : ν 60 = μ 60 := by
      rw [e]
      split
      · rw [zk_set_o (by decide)]
      · rw [zk_set_o (by decide), zk_set_o (by decide), zk_set_o (by decide)]
    have e64 : ν 64 = μ 64 := by
      rw [e]
      split
      · rw [zk_set_o (by decide)]
      · rw [zk_set_o (by decide), zk_set_o (by decide), zk_set_o (by decide)]
    refine ⟨fun q => ?_, fun q => h.1 (fun e => q (k8.2 e))⟩
    exact sp_nextTok hb (n := t.2.2.2) ⟨by rw [e60]; exact h0.1, fun i hi => by rw [e64]; exact h0.2 i hi⟩ ht.2.1 (by rw [e60]; exact hR.2.1) (fun ν' z r => h.2 (k8.1 q) ν' z r)
  refine t_Mod_clause_128 ⟨fun _ => ⟨fun q => ?_, fun q => ?_⟩, fun q => absurd rfl q⟩
  · rw [if_pos q] at go
    rw [h12, h63]
    exact ⟨by omega, by omega, by omega, go _ rfl⟩
  · rw [if_neg q] at go
    have e : zk_set (zk_set μ 63 (p + 1) x4) 63 (p + 2) (μ 60 14) 63 (b : Int) = (N : Int) := by
      rw [zk_set_n (by omega), zk_set_n (by omega)]
      exact h63
    rw [h12, e]
    exact ⟨by omega, by omega, by omega, by omega, by omega, by omega, by omega, go _ rfl⟩
end
