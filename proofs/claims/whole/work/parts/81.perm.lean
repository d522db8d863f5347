/-! procession: the orders, plain *-/
def zp_rp (f : Int → Int) (l : List Nat) : Prop := ∀ i : Nat, i < l.length → f i = ((l.getD i 0 : Nat) : Int)
def zp_sw (l : List Nat) (i j : Nat) : List Nat := (l.set i (l.getD j 0)).set j (l.getD i 0)
def zp_r (l : List Nat) : Nat → Option Nat
  | 0 => none
  | j + 1 => if l.getD j 0 ≤ l.getD (j + 1) 0 then some j else zp_r l j
def zp_h (l : List Nat) (i : Nat) : Nat → Nat
  | 0 => 0
  | k + 1 => if l.getD i 0 ≤ l.getD (k + 1) 0 then k + 1 else zp_h l i k
def zp_v : Nat → List Nat → Nat → Nat → List Nat
  | 0, l, _, _ => l
  | f + 1, l, lo, hi => if lo < hi then zp_v f (zp_sw l lo hi) (lo + 1) (hi - 1) else l
def zp_n (n : Nat) (l : List Nat) : Option (List Nat) := match zp_r l (n - 1) with
  | none => none
  | some i => some (zp_v 6 (zp_sw l i (zp_h l i (n - 1))) (i + 1) (n - 1))
def zp_ok (n : Nat) (l : List Nat) : Bool := l.length == n && l.all (fun x => decide (x < n))
def zp_e (n : Nat) : Nat → List Nat → Bool
  | 0, _ => false
  | f + 1, l => zp_ok n l && (match zp_n n l with
    | none => true
    | some l' => zp_e n f l')
theorem zp_all : ∀ n, n < 7 → zp_e n 720 (List.range n) = true := by decide +kernel
theorem zp_gs {l : List Nat} {i k a : Nat} : (l.set i a).getD k 0 = if k = i ∧ i < l.length then a else l.getD k 0 := by
  rw [List.getD_eq_getElem?_getD, List.getD_eq_getElem?_getD, List.getElem?_set]
  by_cases q : i = k
  · subst q
    by_cases w : i < l.length
    · simp [w]
    · simp [w]
  · rw [if_neg q, if_neg (fun p => q p.1.symm)]
theorem zp_sw_len (l : List Nat) (i j : Nat) : (zp_sw l i j).length = l.length := by simp [zp_sw]
theorem zp_v_len : ∀ f (l : List Nat) lo hi, (zp_v f l lo hi).length = l.length
  | 0, _, _, _ => rfl
  | f + 1, l, lo, hi => by
    rw [zp_v]
    split
    · rw [zp_v_len f, zp_sw_len]
    · rfl
theorem zp_n_len {n : Nat} {l l' : List Nat} (h : zp_n n l = some l') : l'.length = l.length := by
  unfold zp_n at h
  split at h
  · exact absurd h (by simp)
  · injection h with h
    rw [← h, zp_v_len, zp_sw_len]
theorem zp_rp_sw {μ : zk_M} {c : Nat} {l : List Nat} {i j : Nat} (h : zp_rp (μ c) l) (hi : i < l.length) (hj : j < l.length) : zp_rp (zk_set (zk_set μ c i (μ c j)) c j (μ c i) c) (zp_sw l i j) := fun k hk => by
  rw [zp_sw_len] at hk
  unfold zp_sw
  rw [zp_gs, zp_gs, List.length_set]
  by_cases q : k = j
  · rw [if_pos ⟨q, hj⟩, zk_set_e (by omega)]
    exact h i hi
  · rw [if_neg (fun p => q p.1), zk_set_n (by omega)]
    by_cases w : k = i
    · rw [if_pos ⟨w, hi⟩, zk_set_e (by omega)]
      exact h j hj
    · rw [if_neg (fun p => w p.1), zk_set_n (by omega)]
      exact h k hk
/-- the distance of the k-th and the one ahead of it; the greatest of the first -/
def zp_ds (w : Int → Int) (l : List Nat) (k : Nat) : Int := if 0 ≤ w (l.getD (k + 1) 0 : Nat) - w (l.getD k 0 : Nat) then w (l.getD (k + 1) 0 : Nat) - w (l.getD k 0 : Nat) else -(w (l.getD (k + 1) 0 : Nat) - w (l.getD k 0 : Nat))
def zp_g (w : Int → Int) (l : List Nat) : Nat → Int
  | 0 => 0
  | k + 1 => max (zp_g w l k) (zp_ds w l k)
theorem zp_g_mono {w : Int → Int} {l : List Nat} {n : Nat} : ∀ m, n ≤ m → zp_g w l n ≤ zp_g w l m
  | 0, h => by rw [show n = 0 by omega]; exact Int.le_refl _
  | m + 1, h => by
    by_cases q : n = m + 1
    · rw [q]
      exact Int.le_refl _
    · have := zp_g_mono (w := w) (l := l) (n := n) m (by omega)
      rw [zp_g]
      omega
theorem zp_g_r {w : Int → Int} {l : List Nat} (hw : ∀ o : Nat, 0 ≤ w o ∧ w o ≤ 10000) : ∀ k, 0 ≤ zp_g w l k ∧ zp_g w l k ≤ 10000
  | 0 => ⟨Int.le_refl 0, (by decide : (0 : Int) ≤ 10000)⟩
  | k + 1 => by
    have ih := zp_g_r (w := w) (l := l) hw k
    have h1 := hw (l.getD (k + 1) 0)
    have h2 := hw (l.getD k 0)
    rw [zp_g]
    unfold zp_ds
    split <;> omega
/-- all orders gone through: the least of the greatest, and the first order that has it -/
def zp_go (w : Int → Int) (n : Nat) : Nat → List Nat → Int → List Nat → Int × List Nat
  | 0, _, a, b => (a, b)
  | f + 1, l, a, b => match zp_n n l with
    | none => if zp_g w l (n - 1) < a then (zp_g w l (n - 1), l) else (a, b)
    | some l' => if zp_g w l (n - 1) < a then zp_go w n f l' (zp_g w l (n - 1)) l else zp_go w n f l' a b
