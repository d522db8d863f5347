/-! the reference reads a clause, and a text *-/
def zt_RS (ν : zk_M) (b : Nat) (X : zt_X) (f : Nat → Int) (len : Nat) (t : zt_T) : Prop := zt_XR ν b X ∧ zt_XG ν X ∧ ν 60 18 = 0 ∧ zt_R0 ν f len ∧ zt_R ν t
theorem zt_XR_d {μ ν : zk_M} {b w : Nat} {X : zt_X} {p : Int} {q : Int × Int × Int} (h : zt_XR μ b X) (hN : X.1.length < 24) (hp : p = (b : Int) + 1 + 3 * X.1.length) (h12 : ν 60 12 = μ 60 12) (h14 : ν 60 14 = μ 60 14) (f63 : ∀ i : Int, i ≠ b → i ≠ p → i ≠ p + 1 → i ≠ p + 2 → ν 63 i = μ 63 i) (eb : ν 63 (b : Int) = (X.1.length : Int) + 1) (hc : zx_cla (w : Int) q.1 q.2.1 q.2.2 (ν 63 p) (ν 63 (p + 1)) (ν 63 (p + 2))) : zt_XR ν b (zt_xd X w q) := by
  obtain ⟨⟨h1, h2, h3⟩, h4, h5, h6⟩ := h
  refine ⟨⟨by rw [h12]; exact h1, by rw [h14]; exact h2, fun i q' hq => ?_⟩, ?_, fun j q' hq => ?_, fun g L hL => ?_⟩
  · rw [f63 _ (by omega) (by omega) (by omega) (by omega), f63 _ (by omega) (by omega) (by omega) (by omega)]
    exact h3 i q' hq
  · rw [eb]
    show _ = (((X.1 ++ [_]).length : Nat) : Int)
    rw [List.length_append, List.length_singleton]
    rfl
  · rcases zt_snoc hq with ⟨e, r⟩ | ⟨e, r⟩
    · rw [f63 _ (by omega) (by omega) (by omega) (by omega), f63 _ (by omega) (by omega) (by omega) (by omega), f63 _ (by omega) (by omega) (by omega) (by omega)]
      exact h5 j q' r
    · rw [r, e, ← hp, show (b : Int) + 2 + 3 * (X.1.length : Int) = p + 1 by omega, show (b : Int) + 3 + 3 * (X.1.length : Int) = p + 2 by omega]
      exact hc
  · obtain ⟨l1, l2, l3⟩ := h6 g L hL
    refine ⟨?_, ?_, ?_⟩
    · show L.1 < (X.1 ++ [_]).length
      rw [List.length_append, List.length_singleton]
      omega
    · rw [f63 _ (by omega) (by omega) (by omega) (by omega)]
      exact l2
    · rw [f63 _ (by omega) (by omega) (by omega) (by omega)]
      exact l3
theorem zt_XR_l {μ ν : zk_M} {b w : Nat} {X : zt_X} {p : Int} {l : List (Int × Int)} (h : zt_XR μ b X) (hN : X.1.length < 24) (hp : p = (b : Int) + 1 + 3 * X.1.length) (hw : w = 16 ∨ w = 17) (hM : zt_M ν b (X.2.1 ++ l)) (f63 : ∀ i : Int, i < (b : Int) + 75 → i ≠ b → i ≠ p → i ≠ p + 1 → i ≠ p + 2 → ν 63 i = μ 63 i) (eb : ν 63 (b : Int) = (X.1.length : Int) + 1) (e0 : ν 63 p = zt_so w) (e1 : ν 63 (p + 1) = (X.2.1.length : Int)) (e2 : ν 63 (p + 2) = (X.2.1.length : Int) + l.length) : zt_XR ν b (zt_xl X w l) := by
  obtain ⟨_, h4, h5, h6⟩ := h
  refine ⟨hM, ?_, fun j q' hq => ?_, fun g L hL => ?_⟩
  · rw [eb]
    show _ = (((X.1 ++ [_]).length : Nat) : Int)
    rw [List.length_append, List.length_singleton]
    rfl
  · rcases zt_snoc hq with ⟨e, r⟩ | ⟨e, r⟩
    · rw [f63 _ (by omega) (by omega) (by omega) (by omega) (by omega), f63 _ (by omega) (by omega) (by omega) (by omega) (by omega), f63 _ (by omega) (by omega) (by omega) (by omega) (by omega)]
      exact h5 j q' r
    · rw [r, e, ← hp, e0]
      rcases hw with rfl | rfl
      · exact Or.inl ⟨rfl, rfl⟩
      · exact Or.inr (Or.inl ⟨rfl, rfl⟩)
  · have ll : (zt_xl X w l).1.length = X.1.length + 1 := by
      show (X.1 ++ [_]).length = _
      rw [List.length_append, List.length_singleton]
    rw [ll]
    have hL : (if g = decide (w = 17) then some (X.1.length, X.2.1.length, l) else X.2.2 g) = some L := hL
    by_cases q : g = decide (w = 17)
    · rw [if_pos q] at hL
      have hL : (X.1.length, X.2.1.length, l) = L := by simpa using hL
      rw [← hL]
      refine ⟨by show X.1.length < X.1.length + 1; omega, ?_, ?_⟩
      · show ν 63 ((b : Int) + 2 + 3 * (X.1.length : Int)) = _
        rw [show (b : Int) + 2 + 3 * (X.1.length : Int) = p + 1 by omega]
        exact e1
      · show ν 63 ((b : Int) + 3 + 3 * (X.1.length : Int)) = _
        rw [show (b : Int) + 3 + 3 * (X.1.length : Int) = p + 2 by omega]
        exact e2
    · rw [if_neg q] at hL
      obtain ⟨l1, l2, l3⟩ := h6 g L hL
      refine ⟨by omega, ?_, ?_⟩
      · rw [f63 _ (by omega) (by omega) (by omega) (by omega) (by omega)]
        exact l2
      · rw [f63 _ (by omega) (by omega) (by omega) (by omega) (by omega)]
        exact l3
section
variable {μ : zk_M} {BV : zk_M → Prop} {B : Int → zk_M → Prop} {f : Nat → Int} {len w b : Nat} {t : zt_T} {g : Bool}
theorem sp_66d {X : zt_X} (hb : zt_by f len) (hbb : b ≤ 2040) (hw : w = 18 ∨ w = 31 ∨ w = 19 ∨ w = 20 ∨ w = 21) (hS : zt_RS μ b X f len t) (hN : X.1.length < 24) (ht : zt_tf len t) (hF : (zt_deed (zt_tok f len) w (zt_tok f len t.2.2.2)).1 ≠ 0 → ∀ ν, zt_u b μ ν → ν 60 8 = ((zt_deed (zt_tok f len) w (zt_tok f len t.2.2.2)).2.1 : Int) → B (zt_deed (zt_tok f len) w (zt_tok f len t.2.2.2)).1 ν) (hT : (zt_deed (zt_tok f len) w (zt_tok f len t.2.2.2)).1 = 0 → ∀ ν, zt_u b μ ν → zt_RS ν b (zt_xd X w (zt_deed (zt_tok f len) w (zt_tok f len t.2.2.2)).2.2.1) f len (zt_deed (zt_tok f len) w (zt_tok f len t.2.2.2)).2.2.2 → B 0 ν) : zk_K 189 66 [.inr (.inr (.inl 60)), .inl (zt_so w), .inl (X.1.length : Int), .inr (.inr (.inr 0)), .inr (.inr (.inr 0)), .inr (.inr (.inr 0))] [] μ (zk_RI B) := by
  obtain ⟨XR, XG, h18, hR0, hR⟩ := hS
  have s2 : 2 ≤ zt_so w := by rcases hw with rfl | rfl | rfl | rfl | rfl <;> decide
  have n0 : ∀ i : Int, i ≠ 20 → zk_set μ 60 20 (zt_so w) 60 i = μ 60 i := fun i hi => zk_set_n hi
  have u0 : zt_u b μ (zk_set μ 60 20 (zt_so w)) := zt_u_60 b μ (by decide) _
  refine t_Mod_clause_66 (sp_nextTok hb (n := t.2.2.2) (hR0.u u0) ht.2.1 (by rw [n0 7 (by decide)]; exact hR.2.1) (fun ν1 z1 R1 => ?_))
  have h12 : ν1 60 12 = (b : Int) := by rw [z1.2 12 (by decide), n0 12 (by decide)]; exact XR.1.1
  have u1 : zt_u b μ ν1 := u0.tr (z1.g (b := b)).u
  have tf1 := (zt_tok_f (f := f) ht.2.1).1
  rw [h12]
  refine ⟨by omega, by omega, by omega, by omega, fun _ => ⟨fun _ => ?_, fun q => by omega⟩, fun q => by omega⟩
  obtain ⟨p, hp⟩ : ∃ p : Int, p = (b : Int) + 1 + 3 * (X.1.length : Int) := ⟨_, rfl⟩
  rw [← hp]
  have u2 : zt_u b ν1 (zk_set ν1 63 p (zt_so w)) := zt_u_63 b ν1 (by omega) _
  have o2 : zk_set ν1 63 p (zt_so w) 60 = ν1 60 := zk_set_o (by decide)
  refine sp_line hb (p := p) (by omega) hw (hR0.u (u1.tr u2)) (R1.cg (fun i _ _ => by rw [o2])) tf1 (fun e ν z e8 => t_Mod_clause_128 ⟨fun q => absurd q e, fun _ => hF e ν (u1.tr (u2.tr (z.u (by omega)))) e8⟩) (fun a c c2 t' ν3 le z3 cl r3 R3 tf3 => ?_)
  rw [le] at hF hT
  have u3 : zt_u b μ ν3 := u1.tr (u2.tr (z3.u (by omega)))
  have h12' : ν3 60 12 = (b : Int) := by rw [z3.2.1 12 (by decide), o2, h12]
  have e63 : ∀ i : Int, i ≠ p → i ≠ p + 1 → i ≠ p + 2 → ν3 63 i = μ 63 i := fun i h0 h1 h2 => by rw [z3.2.2 i h1 h2, zk_set_n h0, z1.1 63 (by decide), zk_set_o (by decide)]
  have ep : ν3 63 p = zt_so w := by rw [z3.2.2 p (by omega) (by omega), zk_set_s]
  refine sp_128 (N := X.1.length) hb h12' hbb hN (by rw [e63 _ (by omega) (by omega) (by omega)]; exact XR.2.1) hp r3 R3 tf3 (fun ν4 e4 => ?_)
  rw [if_pos s2] at e4
  have u4 : zt_u b μ ν4 := by
    rw [e4]
    exact u3.tr (zt_u_63 b ν3 (by omega) _)
  have n4 : ν4 60 = ν3 60 := by rw [e4, zk_set_o (by decide)]
  unfold zt_semi at hF hT
  refine ⟨fun n15 => ?_, fun e15 ν5 z5 R5 => ?_⟩
  · rw [if_pos n15] at hF
    exact hF (show ¬ (1 : Int) = 0 by decide) ν4 u4 (by rw [n4]; exact R3.1)
  · rw [if_neg (fun q => q e15)] at hT
    have u5 := u4.tr (z5.g (b := b)).u
    have f60 : ∀ i : Int, 11 < i → i ≠ 20 → ν5 60 i = μ 60 i := fun i h1 h2 => by rw [z5.2 i (Or.inr h1), n4, z3.2.1 i (Or.inr h1), o2, z1.2 i (Or.inr h1), n0 i h2]
    have f63 : ν5 63 = ν4 63 := z5.1 63 (by decide)
    refine hT rfl ν5 u5 ⟨zt_XR_d (p := p) XR hN hp (f60 12 (by decide) (by decide)) (f60 14 (by decide) (by decide)) (fun i hb' h0 h1 h2 => by rw [f63, e4, zk_set_n hb']; exact e63 i h0 h1 h2) (by rw [f63, e4, zk_set_s]) ?_, ?_, ?_, hR0.u u5, R5⟩
    · rw [f63, e4, zk_set_n (by omega), zk_set_n (by omega), zk_set_n (by omega), ep]
      exact cl
    · show ν5 60 21 = _
      rw [f60 21 (by decide) (by decide)]
      exact XG
    · rw [f60 18 (by decide) (by decide)]
      exact h18
theorem sp_66l {X : zt_X} (hb : zt_by f len) (hbb : b ≤ 2040) (hw : (w = 16 ∧ g = false) ∨ (w = 17 ∧ g = true)) (hX : zt_XR μ b X) (hG : ∀ l, zt_XG μ (zt_xl X w l)) (h18 : μ 60 18 = 0) (hR0 : zt_R0 μ f len) (hR : zt_R μ t) (hN : X.1.length < 24) (h0 : t.1 ≠ 0) (ht : zt_tf len t) (hl : X.2.1.length ≤ t.2.2.1) (hF : (zt_law (zt_tok f len) g 301 true [] false [] (zt_tok f len t.2.2.2)).1 ≠ 0 → ∀ ν, zt_u b μ ν → ν 60 8 = ((zt_law (zt_tok f len) g 301 true [] false [] (zt_tok f len t.2.2.2)).2.1 : Int) → B (zt_law (zt_tok f len) g 301 true [] false [] (zt_tok f len t.2.2.2)).1 ν) (hT : (zt_law (zt_tok f len) g 301 true [] false [] (zt_tok f len t.2.2.2)).1 = 0 → ∀ ν, zt_u b μ ν → zt_RS ν b (zt_xl X w (zt_law (zt_tok f len) g 301 true [] false [] (zt_tok f len t.2.2.2)).2.2.1) f len (zt_law (zt_tok f len) g 301 true [] false [] (zt_tok f len t.2.2.2)).2.2.2 → B 0 ν) : zk_K 189 66 [.inr (.inr (.inl 60)), .inl (zt_so w), .inl (X.1.length : Int), .inr (.inr (.inr 0)), .inr (.inr (.inr 0)), .inr (.inr (.inr 0))] [] μ (zk_RI B) := by
  have hlen := hb.1
  have sw : zt_so w = (if g then 1 else 0) ∧ ¬ 2 ≤ zt_so w := by rcases hw with ⟨rfl, rfl⟩ | ⟨rfl, rfl⟩ <;> decide
  have n0 : ∀ i : Int, i ≠ 20 → zk_set μ 60 20 (zt_so w) 60 i = μ 60 i := fun i hi => zk_set_n hi
  have u0 : zt_u b μ (zk_set μ 60 20 (zt_so w)) := zt_u_60 b μ (by decide) _
  refine t_Mod_clause_66 (sp_nextTok hb (n := t.2.2.2) (hR0.u u0) ht.2.1 (by rw [n0 7 (by decide)]; exact hR.2.1) (fun ν1 z1 R1 => ?_))
  have h12 : ν1 60 12 = (b : Int) := by rw [z1.2 12 (by decide), n0 12 (by decide)]; exact hX.1.1
  have h14 : ν1 60 14 = (X.2.1.length : Int) := by rw [z1.2 14 (by decide), n0 14 (by decide)]; exact hX.1.2.1
  have u1 : zt_u b μ ν1 := u0.tr (z1.g (b := b)).u
  have nx := zt_tok_a (f := f) ht h0
  rw [h12, h14]
  obtain ⟨p, hp⟩ : ∃ p : Int, p = (b : Int) + 1 + 3 * (X.1.length : Int) := ⟨_, rfl⟩
  rw [← hp]
  have u2 : zt_u b ν1 (zk_set ν1 63 p (zt_so w)) := zt_u_63 b ν1 (by omega) _
  have o2 : zk_set ν1 63 p (zt_so w) 60 = ν1 60 := zk_set_o (by decide)
  have e1 : ∀ i : Int, i ≠ p → zk_set ν1 63 p (zt_so w) 63 i = μ 63 i := fun i hi => by rw [zk_set_n hi, z1.1 63 (by decide), zk_set_o (by decide)]
  have E2 : zt_E (zk_set ν1 63 p (zt_so w)) b g f len 0 X.2.1 (zt_tok f len t.2.2.2) := ⟨⟨by rw [o2]; exact h12, by rw [o2]; exact h14, fun i q hq => by rw [e1 _ (by omega), e1 _ (by omega)]; exact hX.1.2.2 i q hq⟩, by rw [o2, z1.2 18 (by decide), n0 18 (by decide)]; exact h18, by rw [o2, z1.2 20 (by decide), zk_set_s]; exact sw.1, hR0.u (u1.tr u2), R1.cg (fun i _ _ => by rw [o2])⟩
  have both := sp_lawR (n := 301) (B := fun r ν => zk_K 189 128 [.inr (.inr (.inl 60)), .inl (zt_so w), .inr (.inr (.inr 0)), .inl p, .inl (X.2.1.length : Int), .inr (.inr (.inr 0))] [.inl r] ν (zk_RI B)) hb hbb E2 nx.1 (by omega) (by omega) (fun e ν z e8 => t_Mod_clause_128 ⟨fun q => absurd q e, fun _ => hF e ν (u1.tr (u2.tr z.u)) e8⟩) (fun l' t' ν3 le z3 E3 tf3 => ?_)
  · refine ⟨by omega, by omega, by omega, by omega, fun q0 => ⟨fun q1 => ?_, fun q1 => ?_⟩, fun q0 => ?_⟩
    · rcases hw with ⟨rfl, rfl⟩ | ⟨rfl, rfl⟩
      · exact absurd rfl q0
      · exact absurd rfl q1
    · rcases hw with ⟨rfl, rfl⟩ | ⟨rfl, rfl⟩
      · exact absurd rfl q0
      · exact both
    · rcases hw with ⟨rfl, rfl⟩ | ⟨rfl, rfl⟩
      · exact both
      · exact absurd q0 (by decide)
  · rw [le] at hF hT
    obtain ⟨M3, a18, a20, r3, R3⟩ := E3
    have u3 : zt_u b μ ν3 := u1.tr (u2.tr z3.u)
    have e63 : ∀ i : Int, i < (b : Int) + 75 → i ≠ p → ν3 63 i = μ 63 i := fun i hi h0 => by rw [z3.2.2 i hi, e1 i h0]
    have ep : ν3 63 p = zt_so w := by rw [z3.2.2 p (by omega), zk_set_s]
    refine sp_128 (N := X.1.length) hb M3.1 hbb hN (by rw [e63 _ (by omega) (by omega)]; exact hX.2.1) hp r3 R3 tf3 (fun ν4 e4 => ?_)
    rw [if_neg sw.2] at e4
    have u4 : zt_u b μ ν4 := by
      rw [e4]
      exact u3.tr ((zt_u_63 b ν3 (by omega) _).tr ((zt_u_63 b _ (by omega) _).tr (zt_u_63 b _ (by omega) _)))
    have n4 : ν4 60 = ν3 60 := by rw [e4, zk_set_o (by decide), zk_set_o (by decide), zk_set_o (by decide)]
    refine ⟨fun n15 => ?_, fun e15 ν5 z5 R5 => ?_⟩
    · rw [if_neg n15] at hF
      exact hF (show ¬ (1 : Int) = 0 by decide) ν4 u4 (by rw [n4]; exact R3.1)
    · rw [if_pos e15] at hT
      have u5 := u4.tr (z5.g (b := b)).u
      have f60 : ∀ i : Int, 11 < i → ν5 60 i = ν3 60 i := fun i h1 => by rw [z5.2 i (Or.inr h1), n4]
      have f63 : ν5 63 = ν4 63 := z5.1 63 (by decide)
      have f4 : ∀ i : Int, i ≠ b → i ≠ p + 1 → i ≠ p + 2 → ν5 63 i = ν3 63 i := fun i hb' h1 h2 => by rw [f63, e4, zk_set_n hb', zk_set_n h2, zk_set_n h1]
      refine hT rfl ν5 u5 ⟨zt_XR_l (p := p) hX hN hp (by omega) ⟨by rw [f60 12 (by decide)]; exact M3.1, by rw [f60 14 (by decide)]; exact M3.2.1, fun i q hq => by rw [f4 _ (by omega) (by omega) (by omega), f4 _ (by omega) (by omega) (by omega)]; exact M3.2.2 i q hq⟩ (fun i hi hb' h0 h1 h2 => by rw [f4 i hb' h1 h2]; exact e63 i hi h0) (by rw [f63, e4, zk_set_s]) (by rw [f4 p (by omega) (by omega) (by omega)]; exact ep) (by rw [f63, e4, zk_set_n (by omega), zk_set_n (by omega), zk_set_s]) ?_, ?_, ?_, hR0.u u5, R5⟩
      · rw [f63, e4, zk_set_n (by omega), zk_set_s, M3.2.1, List.length_append]
        push_cast
        rfl
      · have := hG l'
        unfold zt_XG at this ⊢
        rw [f60 21 (by decide), z3.2.1 21 (by decide), o2, z1.2 21 (by decide), n0 21 (by decide)]
        exact this
      · rw [f60 18 (by decide)]
        exact a18
end
