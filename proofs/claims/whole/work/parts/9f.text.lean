/-! texts: plain, and on the class's side *-/
abbrev zt_X := List (Nat × Int × Int × Int) × List (Int × Int) × (Bool → Option (Nat × Nat × List (Int × Int)))
def zt_xl (X : zt_X) (w : Nat) (l : List (Int × Int)) : zt_X := (X.1 ++ [(w, -1, -1, -1)], X.2.1 ++ l, fun h => if h = decide (w = 17) then some (X.1.length, X.2.1.length, l) else X.2.2 h)
def zt_xd (X : zt_X) (w : Nat) (q : Int × Int × Int) : zt_X := (X.1 ++ [(w, q)], X.2.1, X.2.2)
def zt_ck (X : zt_X) (w : Nat) : Int := if ¬ (w = 31 ∨ (16 ≤ w ∧ w ≤ 21)) then 1 else if (w = 16 ∧ (X.2.2 false).isSome = true) ∨ (w = 17 ∧ (X.2.2 true).isSome = true) then 4 else if 24 ≤ X.1.length then 6 else 0
def zt_text (tk : Nat → zt_T) : Nat → zt_X → zt_T → Int × Nat × zt_X
  | 0, X, t => (9, t.2.2.1, X)
  | n + 1, X, t => if t.1 = 0 then (0, 0, X)
    else if zt_ck X t.1 ≠ 0 then (zt_ck X t.1, t.2.2.1, X)
    else if t.1 = 16 ∨ t.1 = 17 then
      if (zt_law tk (decide (t.1 = 17)) 301 true [] false [] (tk t.2.2.2)).1 ≠ 0 then ((zt_law tk (decide (t.1 = 17)) 301 true [] false [] (tk t.2.2.2)).1, (zt_law tk (decide (t.1 = 17)) 301 true [] false [] (tk t.2.2.2)).2.1, X)
      else zt_text tk n (zt_xl X t.1 (zt_law tk (decide (t.1 = 17)) 301 true [] false [] (tk t.2.2.2)).2.2.1) (zt_law tk (decide (t.1 = 17)) 301 true [] false [] (tk t.2.2.2)).2.2.2
    else if (zt_deed tk t.1 (tk t.2.2.2)).1 ≠ 0 then ((zt_deed tk t.1 (tk t.2.2.2)).1, (zt_deed tk t.1 (tk t.2.2.2)).2.1, X)
    else zt_text tk n (zt_xd X t.1 (zt_deed tk t.1 (tk t.2.2.2)).2.2.1) (zt_deed tk t.1 (tk t.2.2.2)).2.2.2
def zt_p (L : Option (Nat × Nat × List (Int × Int))) : Int × Int := match L with
  | none => (0, 0)
  | some q => ((q.2.1 : Int), (q.2.1 : Int) + q.2.2.length)
/-- the class's script *-/
def zt_XK (ν : zk_M) (k : Nat) (X : zt_X) : Prop := ν k 0 = (X.1.length : Int) ∧ (∀ (j : Nat) q, X.1[j]? = some q → ν (k + 1) (4 * j) = (q.1 : Int) ∧ ν (k + 1) (4 * j + 1) = q.2.1 ∧ ν (k + 1) (4 * j + 2) = q.2.2.1 ∧ ν (k + 1) (4 * j + 3) = q.2.2.2) ∧ ν k 3 = (X.2.1.length : Int) ∧ (∀ (i : Nat) q, X.2.1[i]? = some q → ν (k + 2) i = zx_enc q) ∧ ν k 4 = (zt_p (X.2.2 false)).1 ∧ ν k 5 = (zt_p (X.2.2 false)).2 ∧ ν k 6 = (zt_p (X.2.2 true)).1 ∧ ν k 7 = (zt_p (X.2.2 true)).2
/-- what reading a text may change *-/
def zt_xf (k : Nat) (μ ν : zk_M) : Prop := zq [42, 44, 45, k, k + 1, k + 2] μ ν ∧ ν 42 1 = μ 42 1
theorem zt_xf.tr {k : Nat} {μ μ1 μ2 : zk_M} (h : zt_xf k μ μ1) (h2 : zt_xf k μ1 μ2) : zt_xf k μ μ2 := ⟨h.1.tr h2.1, h2.2.trans h.2⟩
theorem zt_at.cg {μ ν : zk_M} {f : Nat → Int} {len : Nat} {t : zt_T} (h : zt_at μ f len t) (h42 : ν 42 = μ 42) (h43 : ν 43 = μ 43) (h0 : ν 44 0 = μ 44 0) (h1 : ν 44 1 = μ 44 1) : zt_at ν f len t := by
  unfold zt_at zt_C0 zt_C at *
  rw [h42, h43, h0, h1]
  exact h
theorem zt_snoc {α : Type} {l : List α} {x q : α} {j : Nat} (h : (l ++ [x])[j]? = some q) : (j < l.length ∧ l[j]? = some q) ∨ (j = l.length ∧ q = x) := by
  by_cases e : j < l.length
  · rw [List.getElem?_append_left e] at h
    exact Or.inl ⟨e, h⟩
  · rw [List.getElem?_append_right (by omega)] at h
    by_cases e2 : j = l.length
    · subst e2
      rw [Nat.sub_self] at h
      exact Or.inr ⟨rfl, by simpa using h.symm⟩
    · rw [List.getElem?_eq_none (by simp; omega)] at h
      exact absurd h (by simp)
section
variable {μ : zk_M} {BV : zk_M → Prop} {B : Int → zk_M → Prop} {f : Nat → Int} {len k : Nat} {t : zt_T}
theorem sp_lawC {w : Nat} {X : zt_X} (hb : zt_by f len) (hk : k = 26 ∨ k = 30 ∨ k = 34 ∨ k = 38) (hw : w = 16 ∨ w = 17) (hX : zt_XK μ k X) (hn : X.1.length < 24) (ha : zt_at μ f len t) (ht : zt_tf len t) (hp : X.2.1.length ≤ t.2.2.1)
    (hF : (zt_law (zt_tok f len) (decide (w = 17)) 301 true [] false [] t).1 ≠ 0 → ∀ ν, zt_xf k μ ν → ν 44 0 = (zt_law (zt_tok f len) (decide (w = 17)) 301 true [] false [] t).1 → ν 44 1 = ((zt_law (zt_tok f len) (decide (w = 17)) 301 true [] false [] t).2.1 : Int) → BV ν)
    (hT : (zt_law (zt_tok f len) (decide (w = 17)) 301 true [] false [] t).1 = 0 → ∀ ν, zt_xf k μ ν → zt_at ν f len (zt_law (zt_tok f len) (decide (w = 17)) 301 true [] false [] t).2.2.2 → zt_tf len (zt_law (zt_tok f len) (decide (w = 17)) 301 true [] false [] t).2.2.2 → zt_XK ν k (zt_xl X w (zt_law (zt_tok f len) (decide (w = 17)) 301 true [] false [] t).2.2.1) → ν 44 2 = μ 44 2 → ν 44 3 = μ 44 3 → (zt_xl X w (zt_law (zt_tok f len) (decide (w = 17)) 301 true [] false [] t).2.2.1).2.1.length ≤ (zt_law (zt_tok f len) (decide (w = 17)) 301 true [] false [] t).2.2.2.2.2.1 → t.2.2.1 < (zt_law (zt_tok f len) (decide (w = 17)) 301 true [] false [] t).2.2.2.2.2.1 → BV ν) :
    zk_C 48 [.inr (.inr (.inl 44)), .inr (.inr (.inl 42)), .inr (.inr (.inl k)), .inl (w : Int)] μ (zk_RV BV) := by
  obtain ⟨x0, x1, x3, x2, x4, x5, x6, x7⟩ := hX
  have hlen := hb.1
  refine c_Rea_readLaw hk (c_Scr_startLaw hk ?_)
  have z0 : zq [44] μ (zk_set (zk_set (zk_set (zk_set μ 44 5 0) 44 6 0) 44 7 0) 44 8 0) := ((((zq.rf _ _).set (by simp) _ _).set (by simp) _ _).set (by simp) _ _).set (by simp) _ _
  have m0 : ∀ i : Int, i < 5 → (zk_set (zk_set (zk_set (zk_set μ 44 5 0) 44 6 0) 44 7 0) 44 8 0) 44 i = μ 44 i := fun i hi => by rw [zk_set_n (by omega), zk_set_n (by omega), zk_set_n (by omega), zk_set_n (by omega)]
  have m5 : (zk_set (zk_set (zk_set (zk_set μ 44 5 0) 44 6 0) 44 7 0) 44 8 0) 44 5 = 0 := by rw [zk_set_n (by decide), zk_set_n (by decide), zk_set_n (by decide), zk_set_s]
  have m6 : (zk_set (zk_set (zk_set (zk_set μ 44 5 0) 44 6 0) 44 7 0) 44 8 0) 44 6 = 0 := by rw [zk_set_n (by decide), zk_set_n (by decide), zk_set_s]
  have m7 : (zk_set (zk_set (zk_set (zk_set μ 44 5 0) 44 6 0) 44 7 0) 44 8 0) 44 7 = 0 := by rw [zk_set_n (by decide), zk_set_s]
  have m8 : (zk_set (zk_set (zk_set (zk_set μ 44 5 0) 44 6 0) 44 7 0) 44 8 0) 44 8 = 0 := zk_set_s _ _ _ _
  generalize zk_set (zk_set (zk_set (zk_set μ 44 5 0) 44 6 0) 44 7 0) 44 8 0 = μ1 at z0 m0 m5 m6 m7 m8 ⊢
  refine sp_addCl (n := X.1.length) hk (by rw [z0 k (by simp; omega)]; exact x0) hn (fun ν y y42 y44 k0 kp p1 p2 p3 p4 => ?_)
  have y3 : ν k 3 = (X.2.1.length : Int) := by rw [y.2.1 3 (by decide), z0 k (by simp; omega)]; exact x3
  rw [y3]
  have key : ∀ c : Int, c = (if w = 16 then 4 else 6) → zk_K 48 34 [.inr (.inr (.inl 44)), .inr (.inr (.inl 42)), .inr (.inr (.inl k)), .inl (w : Int), .inl 1, .inl 0, .inl 0] [] (zk_set ν k c (X.2.1.length : Int)) (zk_RV BV) := fun c hc => by
    have hc0 : c ≠ 0 ∧ c ≠ 3 := by
      rw [hc]
      split <;> decide
    have zs : zq [k] ν (zk_set ν k c (X.2.1.length : Int)) := (zq.rf _ _).set (by simp) _ _
    have zc := zk_set_s ν k c (X.2.1.length : Int)
    have zn : ∀ i : Int, i ≠ c → zk_set ν k c (X.2.1.length : Int) k i = ν k i := fun i hi => zk_set_n hi
    generalize zk_set ν k c (X.2.1.length : Int) = ξ at zs zc zn ⊢
    have e42 : ξ 42 = μ 42 := by rw [zs 42 (by simp; omega), y42, z0 42 (by simp)]
    have e43 : ξ 43 = μ 43 := by rw [zs 43 (by simp; omega), y.1 43 (by simp; omega), z0 43 (by simp)]
    have e44 : ξ 44 = μ1 44 := by rw [zs 44 (by simp; omega), y44]
    have e2 : ξ (k + 2) = μ (k + 2) := by rw [zs (k + 2) (by simp), y.1 (k + 2) (by simp; omega), z0 (k + 2) (by simp; omega)]
    have ek : ∀ i : Int, i ≠ 0 → i ≠ c → ξ k i = μ k i := fun i h0 hi => by rw [zn i hi, y.2.1 i h0, z0 k (by simp; omega)]
    have xf : zt_xf k μ ξ := ⟨((z0.up (by simp)).tr (y.1.up (by simp))).tr (zs.up (by simp)), by rw [e42]⟩
    have xl : ∀ ξ', zt_lf k ξ ξ' → ∀ (c' x : Int), zt_xf k μ (zk_set ξ' k c' x) := fun ξ' z c' x => xf.tr ⟨(z.1.up (by simp)).set (by simp) _ _, by rw [zk_set_o (by omega), z.2.2.2.2]⟩
    refine sp_lawK (g := decide (w = 17)) (law := w) hb hk (by rcases hw with rfl | rfl <;> simp) (μ0 := ξ) X.2.1 301 true [] false [] t ξ (Nat.le_refl _) (zt_lf.rf _ _) (ha.cg e42 e43 (by rw [e44, m0 0 (by decide)]) (by rw [e44, m0 1 (by decide)])) ht ?_ (zt_I_0 _) (by simpa using hp) (by omega) (fun e ξ' z e0 e1 => ?_) (fun e ξ' z a1 t1 l1 l2 c3 cd => ?_)
    · rw [List.append_nil]
      refine ⟨by rw [e44, m5]; rfl, fun i s hs => absurd hs (by simp), by rw [e44, m6]; rfl, by rw [e44, m7]; rfl, by rw [e44, m8]; rfl, by rw [ek 3 (by decide) (Ne.symm hc0.2)]; exact x3, fun i q hq => by rw [e2]; exact x2 i q hq⟩
    · exact c_Scr_endLaw hk ⟨fun _ => hF e _ (xl ξ' z _ _) (by rw [zk_set_o (by omega)]; exact e0) (by rw [zk_set_o (by omega)]; exact e1), fun _ => hF e _ (xl ξ' z _ _) (by rw [zk_set_o (by omega)]; exact e0) (by rw [zk_set_o (by omega)]; exact e1)⟩
    · have fin : ∀ c' : Int, c' = c + 1 → BV (zk_set ξ' k c' (ξ' k 3)) := fun c' hc' => by
        have es : ∀ i : Int, i ≠ c' → zk_set ξ' k c' (ξ' k 3) k i = ξ' k i := fun i hi => zk_set_n hi
        have eo : ∀ i : Nat, i ≠ k → zk_set ξ' k c' (ξ' k 3) i = ξ' i := fun i hi => zk_set_o hi
        have ec := zk_set_s ξ' k c' (ξ' k 3)
        have xx := xl ξ' z c' (ξ' k 3)
        generalize zk_set ξ' k c' (ξ' k 3) = ζ at es eo ec xx ⊢
        have n45 : ∀ i : Int, i ≠ 0 → i ≠ 3 → i ≠ c → i ≠ c' → ζ k i = μ k i := fun i h0 h3 hi hi' => by rw [es i hi', z.2.1 i h3, ek i h0 hi]
        have c4 : ζ k c = (X.2.1.length : Int) := by rw [es c (by omega), z.2.1 c hc0.2, zc]
        have c5 : ζ k c' = (X.2.1.length : Int) + ((zt_law (zt_tok f len) (decide (w = 17)) 301 true [] false [] t).2.2.1.length : Int) := by
          rw [ec, c3, List.length_append]
          push_cast
          rfl
        have e1 : ζ (k + 1) = ν (k + 1) := by rw [eo _ (by omega), z.1 (k + 1) (by simp; omega), zs (k + 1) (by simp)]
        refine hT e ζ xx (a1.cg (eo 42 (by omega)) (eo 43 (by omega)) (by rw [eo 44 (by omega)]) (by rw [eo 44 (by omega)])) t1 ⟨?_, fun j q hq => ?_, ?_, fun i q hq => ?_, ?_, ?_, ?_, ?_⟩ (by rw [eo 44 (by omega), z.2.2.1, e44, m0 2 (by decide)]) (by rw [eo 44 (by omega), z.2.2.2.1, e44, m0 3 (by decide)]) l1 l2
        · have : c' ≠ 0 := by
            rw [hc', hc]
            split <;> decide
          rw [es 0 (Ne.symm this), z.2.1 0 (by decide), zn 0 (Ne.symm hc0.1), k0]
          show _ = (((X.1 ++ [_]).length : Nat) : Int)
          rw [List.length_append, List.length_singleton]
          rfl
        · rw [e1]
          rcases zt_snoc hq with ⟨h1, h2⟩ | ⟨rfl, rfl⟩
          · rw [kp _ (by omega), kp _ (by omega), kp _ (by omega), kp _ (by omega), z0 (k + 1) (by simp; omega)]
            exact x1 j q h2
          · exact ⟨p1, p2, p3, p4⟩
        · have : c' ≠ 3 := by
            rw [hc', hc]
            split <;> decide
          rw [es 3 (Ne.symm this)]
          exact c3
        · rw [eo _ (by omega)]
          exact cd i q hq
        · rcases hw with rfl | rfl
          · rw [if_pos rfl] at hc
            rw [hc] at c4
            exact c4
          · rw [if_neg (by decide)] at hc
            exact (n45 4 (by decide) (by decide) (by omega) (by omega)).trans x4
        · rcases hw with rfl | rfl
          · rw [if_pos rfl] at hc
            rw [hc', hc] at c5
            exact c5
          · rw [if_neg (by decide)] at hc
            exact (n45 5 (by decide) (by decide) (by omega) (by omega)).trans x5
        · rcases hw with rfl | rfl
          · rw [if_pos rfl] at hc
            exact (n45 6 (by decide) (by decide) (by omega) (by omega)).trans x6
          · rw [if_neg (by decide)] at hc
            rw [hc] at c4
            exact c4
        · rcases hw with rfl | rfl
          · rw [if_pos rfl] at hc
            exact (n45 7 (by decide) (by decide) (by omega) (by omega)).trans x7
          · rw [if_neg (by decide)] at hc
            rw [hc', hc] at c5
            exact c5
      refine c_Scr_endLaw hk ⟨fun q => fin 7 ?_, fun q => fin 5 ?_⟩
      · rw [hc, if_neg (by omega)]; rfl
      · rw [hc, if_pos (by omega)]; rfl
  exact ⟨fun q => key 6 (by rw [if_neg (by omega)]), fun q => key 4 (by rw [if_pos (by omega)])⟩
end
