/-! laws: one plain evaluator, and the class's run *-/
theorem t_Law_weightBy_5n {x3 : Int} {μ : zk_M} {Q : Int → zk_M → Prop} (h : zk_C 94 [.inr (.inr (.inl 3)), .inl x3] μ (zk_RI fun r4 μ3 => ((-2147483648 : Int) ≤ (r4 + 1) ∧ ((r4 + 1) : Int) ≤ 2147483647) ∧ (Q (r4 + 1) μ3))) : zk_K 15 5 [.inr (.inr (.inl 22)), .inr (.inr (.inr 0)), .inr (.inr (.inl 3)), .inl x3, .inr (.inr (.inr 0))] [.inr (.inr (.inl 0))] μ (zk_RI Q) :=
  zk_t zk_Law_weightBy [(5, [true, false, true, true, false])] 3 34 rfl ⟨fun _ => h, fun q => absurd rfl q⟩
theorem t_Law_goesBy_5n {x3 x4 : Int} {μ : zk_M} {Q : Int → zk_M → Prop} (h : zk_C 94 [.inr (.inr (.inl 3)), .inl x3] μ (zk_RI fun r4 μ3 => (¬ r4 = x4 → (Q 0 μ3)) ∧ (r4 = x4 → (Q 1 μ3)))) : zk_K 16 5 [.inr (.inr (.inl 22)), .inr (.inr (.inr 0)), .inr (.inr (.inl 3)), .inl x3, .inl x4, .inr (.inr (.inr 0))] [.inr (.inr (.inl 0))] μ (zk_RI Q) :=
  zk_t zk_Law_goesBy [(5, [true, false, true, true, true, false])] 3 42 rfl ⟨fun _ => h, fun q => absurd rfl q⟩
theorem zv_not {x : Int} (h : -2147483648 ≤ x ∧ x ≤ 2147483647) : zk_xor x (-1) = -1 - x := by
  unfold zk_xor
  have e : zk_I x ^^^ zk_I (-1) = ~~~ zk_I x := by
    apply Int32.toBitVec_inj.1
    show (zk_I x).toBitVec ^^^ (BitVec.allOnes 32) = ~~~ (zk_I x).toBitVec
    exact BitVec.xor_allOnes
  rw [e]
  have t : (zk_I x).toInt = x := by
    unfold zk_I
    exact Int32.toInt_ofInt_of_le (by omega) (by omega)
  rw [Int32.toInt_not, t]
  rw [Int.bmod_def]
  omega
def zv_clip (x : Int) : Int := if 1000000 < x then 1000000 else if x < -1000000 then -1000000 else x
def zv_op (o a b : Int) : Int := if o = 3 then zv_clip (a + b) else if o = 4 then zv_clip (a - b) else if o = 5 then zv_clip (a * b) else if b = 0 then 0 else Int.tdiv a b
def zv_cmp (o a b : Int) : Int := if (if o = 10 then a < b else if o = 11 then a ≤ b else if o = 12 then b < a else if o = 13 then b ≤ a else if o = 14 then a = b else a ≠ b) then 1 else 0
/-- one sign: truths and values, the latest first -/
def zv_st (nm : Int → Int) (q : Int × Int) (s : List Int × List Int) : List Int × List Int :=
  if q.1 = 0 then (s.1, q.2 :: s.2)
  else if q.1 = 1 then (s.1, nm q.2 :: s.2)
  else if q.1 = 2 then (match s.2 with | a :: V => (s.1, -a :: V) | [] => s)
  else if q.1 < 10 then (match s.2 with | b :: a :: V => (s.1, zv_op q.1 a b :: V) | _ => s)
  else if q.1 < 20 then (match s.2 with | b :: a :: V => (zv_cmp q.1 a b :: s.1, V) | _ => s)
  else if q.1 = 20 then (match s.1 with | a :: T => (1 - a :: T, s.2) | [] => s)
  else if q.1 = 21 then (match s.1 with | b :: a :: T => ((if a = 0 then 0 else b) :: T, s.2) | _ => s)
  else (match s.1 with | b :: a :: T => ((if a = 0 then b else a) :: T, s.2) | _ => s)
def zv_run (nm : Int → Int) : List (Int × Int) → List Int × List Int → List Int × List Int
  | [], s => s
  | q :: l, s => zv_run nm l (zv_st nm q s)
def zv_ok (s : List Int × List Int) : Prop := (∀ x ∈ s.1, x = 0 ∨ x = 1) ∧ ∀ x ∈ s.2, -1000000 ≤ x ∧ x ≤ 1000000
/-- a stack: f below n, the latest first -/
def zr (f : Int → Int) : Nat → List Int → Prop
  | n, [] => n = 0
  | n, x :: L => ∃ m : Nat, n = m + 1 ∧ f m = x ∧ zr f m L
theorem zr_len {f : Int → Int} : ∀ {L : List Int} {n : Nat}, zr f n L → n = L.length
  | [], _, h => h
  | _ :: L, _, h => by
    obtain ⟨m, h1, _, h3⟩ := h
    rw [h1, zr_len h3]
    rfl
theorem zr_cg {f g : Int → Int} : ∀ {L : List Int} {n : Nat}, zr f n L → (∀ i : Nat, i < n → g i = f i) → zr g n L
  | [], _, h, _ => h
  | _ :: L, n, h, e => by
    obtain ⟨m, h1, h2, h3⟩ := h
    exact ⟨m, h1, by rw [e m (by omega)]; exact h2, zr_cg h3 (fun i hi => e i (by omega))⟩
theorem zv_clip_r (x : Int) : -1000000 ≤ zv_clip x ∧ zv_clip x ≤ 1000000 := by
  unfold zv_clip
  split
  · omega
  · split <;> omega
theorem zv_tdiv {a b : Int} (h : -1000000 ≤ a ∧ a ≤ 1000000) : -1000000 ≤ Int.tdiv a b ∧ Int.tdiv a b ≤ 1000000 := by
  have h1 : (Int.tdiv a b).natAbs ≤ a.natAbs := by
    rw [Int.natAbs_tdiv]
    exact Nat.div_le_self _ _
  omega
theorem zv_op_r (o : Int) {a b : Int} (h : -1000000 ≤ a ∧ a ≤ 1000000) : -1000000 ≤ zv_op o a b ∧ zv_op o a b ≤ 1000000 := by
  unfold zv_op
  split
  · exact zv_clip_r _
  · split
    · exact zv_clip_r _
    · split
      · exact zv_clip_r _
      · split
        · omega
        · exact zv_tdiv h
theorem zv_cmp_r (o a b : Int) : zv_cmp o a b = 0 ∨ zv_cmp o a b = 1 := by
  unfold zv_cmp
  split
  · exact Or.inr rfl
  · exact Or.inl rfl
