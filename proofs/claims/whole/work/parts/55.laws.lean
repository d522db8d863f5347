/-! laws: one plain evaluator, and the class's run *-/
theorem zv_not {x : Int} (h : -2147483648 ≤ x ∧ x ≤ 2147483647) : zk_xor x (-1) = -1 - x := by
  unfold zk_xor
  have e : zk_I x ^^^ zk_I (-1) = ~~~ zk_I x := by
    apply Int32.toBitVec_inj.1
    show (zk_I x).toBitVec ^^^ (BitVec.allOnes 32) = ~~~ (zk_I x).toBitVec
    exact BitVec.xor_allOnes
  rw [e]
  have t : (zk_I x).toInt = x := by
    unfold zk_I
    exact Int32.toInt_ofInt_of_le (by omega) (by omega)
  rw [Int32.toInt_not, t]
  rw [Int.bmod_def]
  omega
def zv_clip (x : Int) : Int := if 1000000 < x then 1000000 else if x < -1000000 then -1000000 else x
def zv_op (o a b : Int) : Int := if o = 3 then zv_clip (a + b) else if o = 4 then zv_clip (a - b) else if o = 5 then zv_clip (a * b) else if b = 0 then 0 else Int.tdiv a b
def zv_cq (o a b : Int) : Bool := if o = 10 then decide (a < b) else if o = 11 then decide (a ≤ b) else if o = 12 then decide (b < a) else if o = 13 then decide (b ≤ a) else if o = 14 then decide (a = b) else decide (a ≠ b)
def zv_cmp (o a b : Int) : Int := if zv_cq o a b then 1 else 0
/-- one sign: truths and values, the latest first -/
def zv_st (nm : Int → Int) (q : Int × Int) (s : List Int × List Int) : List Int × List Int :=
  if q.1 = 0 then (s.1, q.2 :: s.2)
  else if q.1 = 1 then (s.1, nm q.2 :: s.2)
  else if q.1 = 2 then (match s.2 with | a :: V => (s.1, (-a) :: V) | [] => s)
  else if q.1 < 10 then (match s.2 with | b :: a :: V => (s.1, (zv_op q.1 a b) :: V) | _ => s)
  else if q.1 < 20 then (match s.2 with | b :: a :: V => ((zv_cmp q.1 a b) :: s.1, V) | _ => s)
  else if q.1 = 20 then (match s.1 with | a :: T => (((1 : Int) - a) :: T, s.2) | [] => s)
  else if q.1 = 21 then (match s.1 with | b :: a :: T => ((if a = 0 then 0 else b) :: T, s.2) | _ => s)
  else (match s.1 with | b :: a :: T => ((if a = 0 then b else a) :: T, s.2) | _ => s)
def zv_run (nm : Int → Int) : List (Int × Int) → List Int × List Int → List Int × List Int
  | [], s => s
  | q :: l, s => zv_run nm l (zv_st nm q s)
def zv_ok (s : List Int × List Int) : Prop := (∀ x ∈ s.1, x = 0 ∨ x = 1) ∧ ∀ x ∈ s.2, -1000000 ≤ x ∧ x ≤ 1000000
/-- a stack: f below n, the latest first -/
def zr (f : Int → Int) : Nat → List Int → Prop
  | n, [] => n = 0
  | n, x :: L => ∃ m : Nat, n = m + 1 ∧ f m = x ∧ zr f m L
theorem zr_len {f : Int → Int} : ∀ {L : List Int} {n : Nat}, zr f n L → n = L.length
  | [], _, h => h
  | _ :: L, _, h => by
    obtain ⟨m, h1, _, h3⟩ := h
    rw [h1, zr_len h3]
    rfl
theorem zr_cg {f g : Int → Int} : ∀ {L : List Int} {n : Nat}, zr f n L → (∀ i : Nat, i < n → g i = f i) → zr g n L
  | [], _, h, _ => h
  | _ :: L, n, h, e => by
    obtain ⟨m, h1, h2, h3⟩ := h
    exact ⟨m, h1, by rw [e m (by omega)]; exact h2, zr_cg h3 (fun i hi => e i (by omega))⟩
theorem zv_clip_r (x : Int) : -1000000 ≤ zv_clip x ∧ zv_clip x ≤ 1000000 := by
  unfold zv_clip
  split
  · omega
  · split <;> omega
theorem zv_tdiv {a b : Int} (h : -1000000 ≤ a ∧ a ≤ 1000000) : -1000000 ≤ Int.tdiv a b ∧ Int.tdiv a b ≤ 1000000 := by
  have h1 : (Int.tdiv a b).natAbs ≤ a.natAbs := by
    rw [Int.natAbs_tdiv]
    exact Nat.div_le_self _ _
  omega
theorem zv_op_r (o : Int) {a b : Int} (h : -1000000 ≤ a ∧ a ≤ 1000000) : -1000000 ≤ zv_op o a b ∧ zv_op o a b ≤ 1000000 := by
  unfold zv_op
  split
  · exact zv_clip_r _
  · split
    · exact zv_clip_r _
    · split
      · exact zv_clip_r _
      · split
        · omega
        · exact zv_tdiv h
theorem zv_cmp_r (o a b : Int) : zv_cmp o a b = 0 ∨ zv_cmp o a b = 1 := by
  unfold zv_cmp
  split
  · exact Or.inr rfl
  · exact Or.inl rfl
theorem zx_ok1_some {q : Int × Int} {p p' : Nat × Nat} (h : zx_ok1 q p = some p') : (q.1 = 0 ∧ 0 ≤ q.2 ∧ q.2 ≤ 9999 ∧ p' = (p.1, p.2 + 1)) ∨ (q.1 = 1 ∧ 0 ≤ q.2 ∧ q.2 ≤ 4 ∧ p' = (p.1, p.2 + 1)) ∨ (q.1 = 2 ∧ 1 ≤ p.2 ∧ p' = p) ∨ (3 ≤ q.1 ∧ q.1 ≤ 6 ∧ 2 ≤ p.2 ∧ p' = (p.1, p.2 - 1)) ∨ (10 ≤ q.1 ∧ q.1 ≤ 15 ∧ p.2 = 2 ∧ p' = (p.1 + 1, 0)) ∨ (q.1 = 20 ∧ 1 ≤ p.1 ∧ p.2 = 0 ∧ p' = p) ∨ ((q.1 = 21 ∨ q.1 = 22) ∧ 2 ≤ p.1 ∧ p.2 = 0 ∧ p' = (p.1 - 1, 0)) := by
  unfold zx_ok1 at h
  split at h
  · rename_i a
    split at h
    · rename_i b
      injection h with h
      exact Or.inl ⟨a, b.1, b.2, h.symm⟩
    · exact absurd h (by simp)
  split at h
  · rename_i a
    split at h
    · rename_i b
      injection h with h
      exact Or.inr (Or.inl ⟨a, b.1, b.2, h.symm⟩)
    · exact absurd h (by simp)
  split at h
  · rename_i a
    split at h
    · rename_i b
      injection h with h
      exact Or.inr (Or.inr (Or.inl ⟨a, b, h.symm⟩))
    · exact absurd h (by simp)
  split at h
  · rename_i a
    split at h
    · rename_i b
      injection h with h
      exact Or.inr (Or.inr (Or.inr (Or.inl ⟨a.1, a.2, b, h.symm⟩)))
    · exact absurd h (by simp)
  split at h
  · rename_i a
    split at h
    · rename_i b
      injection h with h
      exact Or.inr (Or.inr (Or.inr (Or.inr (Or.inl ⟨a.1, a.2, b, h.symm⟩))))
    · exact absurd h (by simp)
  split at h
  · rename_i a
    split at h
    · rename_i b
      injection h with h
      exact Or.inr (Or.inr (Or.inr (Or.inr (Or.inr (Or.inl ⟨a, b.1, b.2, h.symm⟩)))))
    · exact absurd h (by simp)
  split at h
  · rename_i a
    split at h
    · rename_i b
      injection h with h
      exact Or.inr (Or.inr (Or.inr (Or.inr (Or.inr (Or.inr (⟨a, b.1, b.2, h.symm⟩))))))
    · exact absurd h (by simp)
  exact absurd h (by simp)
/-- a sign is as the class has it: a number, or the token turned over -/
theorem zx_enc_r {q : Int × Int} {p p' : Nat × Nat} (h : zx_ok1 q p = some p') : -2147483648 ≤ zx_enc q ∧ zx_enc q ≤ 9999 := by
  have hb : 0 ≤ q.1 ∧ q.1 ≤ 22 ∧ (q.1 ≤ 1 → 0 ≤ q.2 ∧ q.2 ≤ 9999) := by
    rcases zx_ok1_some h with a | a | a | a | a | a | a <;> omega
  clear h
  unfold zx_enc
  repeat' split
  all_goals omega
theorem zr_top {f : Int → Int} {n : Nat} {x : Int} {L : List Int} (h : zr f (n + 1) (x :: L)) : f n = x ∧ zr f n L := by
  obtain ⟨m, h1, h2, h3⟩ := h
  have : m = n := by omega
  subst this
  exact ⟨h2, h3⟩
theorem zr_pos {f : Int → Int} {n : Nat} {x : Int} {L : List Int} (h : zr f n (x :: L)) : ∃ m, n = m + 1 ∧ f m = x ∧ zr f m L := h
/-- a new one on top -/
theorem zr_push {f g : Int → Int} {n : Nat} {x : Int} {L : List Int} (h : zr f n L) (hx : g n = x) (hg : ∀ i : Nat, i < n → g i = f i) : zr g (n + 1) (x :: L) := ⟨n, rfl, hx, zr_cg h hg⟩
