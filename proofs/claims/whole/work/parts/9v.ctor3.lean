/-! the objects are made, by computation *-/
def zw_sp : List (Nat × Nat) := [(2, 2), (12, 2), (44, 0), (44, 1), (60, 5), (60, 6)]
def zw_e (q : Nat × Nat) : Int := if q ∈ zw_sp then -1 else 0
def zw_r (q : Nat × Nat) : Nat := (zk_rhoL.getD q.1 []).getD q.2 0
def zw_fin (y : zk_X) : Bool := Nat.beq y.1 80 && (y.2.2.all (fun q => decide (q.2 = zw_e q.1)) && (zw_sp.all (fun q => (y.2.2.lookup q).isSome) && (y.2.2.all (fun q => Nat.ble 1 q.1.1) && (y.2.1.all (fun q => Nat.beq q.2 (zw_r q.1)) && (List.range 81).all (fun k => (List.range 40).all fun i => Nat.beq (zw_r (k, i)) 0 || (y.2.1.lookup (k, i)).isSome)))))
def zw_go2 (o : Option (zk_X × Option (List zk_V))) (f : zk_X → Option (zk_X × Option (List zk_V))) : Bool := match o with
  | some (x, none) => Nat.beq x.1 59 && (zk_low x && (match f x with
    | some (y, some ls) => decide (ls = [.inr (.inr (.inl 60))]) && zw_fin y
    | _ => false))
  | _ => false
def zw_go : Bool := zw_go2 (zk_cx 3000 115 1 none (zk_ctor 115) [.inr (.inr (.inl 1))] [] (1, [], [])) (fun x => zk_cx 3000 145 60 (some 181) (zk_ctor 145) [.inr (.inr (.inl 60))] [] (60, x.2))
set_option maxRecDepth 100000 in
theorem zw_go_t : zw_go = true := by decide +kernel
theorem zw_go2_ex {o : Option (zk_X × Option (List zk_V))} {f : zk_X → Option (zk_X × Option (List zk_V))} (h : zw_go2 o f = true) : ∃ x y : zk_X, o = some (x, none) ∧ x.1 = 59 ∧ zk_low x = true ∧ f x = some (y, some [.inr (.inr (.inl 60))]) ∧ zw_fin y = true := by
  unfold zw_go2 at h
  split at h
  · rename_i x
    rw [Bool.and_eq_true, Bool.and_eq_true] at h
    obtain ⟨h1, h2, h3⟩ := h
    split at h3
    · rename_i y ls e
      rw [Bool.and_eq_true, decide_eq_true_eq] at h3
      exact ⟨x, y, rfl, Nat.eq_of_beq_eq_true h1, h2, by rw [e, h3.1], h3.2⟩
    · cases h3
  · cases h
theorem zw_ex : ∃ x y : zk_X, zk_cx 3000 115 1 none (zk_ctor 115) [.inr (.inr (.inl 1))] [] (1, [], []) = some (x, none) ∧ x.1 = 59 ∧ zk_low x = true ∧ zk_cx 3000 145 60 (some 181) (zk_ctor 145) [.inr (.inr (.inl 60))] [] (60, x.2) = some (y, some [.inr (.inr (.inl 60))]) ∧ zw_fin y = true := zw_go2_ex zw_go_t
theorem zw_lk {α : Type} {e : Nat × Nat → α} : ∀ {l : List ((Nat × Nat) × α)}, (∀ q ∈ l, q.2 = e q.1) → ∀ {k : Nat × Nat} {v : α}, l.lookup k = some v → v = e k := by
  intro l
  induction l with
  | nil => intro _ k v h; cases h
  | cons q l ih =>
    intro h k v hv
    rw [List.lookup] at hv
    split at hv
    · rename_i b
      rw [← Option.some.inj hv, h q List.mem_cons_self, eq_of_beq b]
    · exact ih (fun r hr => h r (List.mem_cons_of_mem _ hr)) hv
theorem zw_lk0 {α : Type} : ∀ {l : List ((Nat × Nat) × α)}, l.all (fun q => Nat.ble 1 q.1.1) = true → ∀ {i : Nat}, l.lookup (0, i) = none := by
  intro l
  induction l with
  | nil => intro _ i; rfl
  | cons q l ih =>
    intro h i
    rw [List.all_cons, Bool.and_eq_true] at h
    have h1 := Nat.le_of_ble_eq_true h.1
    rw [List.lookup]
    have : ((0, i) == q.1) = false := by
      rw [beq_eq_false_iff_ne]
      intro e
      rw [← e] at h1
      have h1 : 1 ≤ 0 := h1
      omega
    rw [this]
    exact ih h.2
theorem zw_fin_of {y : zk_X} (h : zw_fin y = true) : y.1 = 80 ∧ (∀ q ∈ y.2.2, q.2 = zw_e q.1) ∧ (∀ q ∈ zw_sp, (y.2.2.lookup q).isSome = true) ∧ y.2.2.all (fun q => Nat.ble 1 q.1.1) = true ∧ (∀ q ∈ y.2.1, q.2 = zw_r q.1) ∧ ∀ k, k < 81 → ∀ i, i < 40 → zw_r (k, i) = 0 ∨ (y.2.1.lookup (k, i)).isSome = true := by
  unfold zw_fin at h
  simp only [Bool.and_eq_true] at h
  obtain ⟨h1, h2, h3, h4, h5, h6⟩ := h
  refine ⟨Nat.eq_of_beq_eq_true h1, fun q hq => of_decide_eq_true (List.all_eq_true.mp h2 q hq), fun q hq => List.all_eq_true.mp h3 q hq, h4, fun q hq => Nat.eq_of_beq_eq_true (List.all_eq_true.mp h5 q hq), fun k hk i hi => ?_⟩
  have := List.all_eq_true.mp (List.all_eq_true.mp h6 k (List.mem_range.mpr hk)) i (List.mem_range.mpr hi)
  rw [Bool.or_eq_true] at this
  exact this.imp Nat.eq_of_beq_eq_true id
theorem zw_mF {base : zk_M} (hb : ∀ c i, 1 ≤ c → base c i = 0) {y : zk_X} (h : zw_fin y = true) {c : Nat} (hc : 1 ≤ c) (i : Nat) : zk_mF base y.2.2 c i = zw_e (c, i) := by
  obtain ⟨-, h2, h3, -, -, -⟩ := zw_fin_of h
  unfold zk_mF
  rw [if_pos (by omega)]
  split
  · rename_i v e
    exact zw_lk h2 e
  · rename_i e
    rw [hb c _ hc]
    unfold zw_e
    rw [if_neg]
    intro q
    have := h3 _ q
    rw [show ((i : Int)).toNat = i from rfl] at e
    rw [e] at this
    cases this
theorem zw_mF0 {base : zk_M} {y : zk_X} (h : zw_fin y = true) : zk_mF base y.2.2 0 = base 0 := by
  obtain ⟨-, -, -, h4, -, -⟩ := zw_fin_of h
  funext i
  unfold zk_mF
  split
  · rw [zw_lk0 h4]
  · rfl
theorem zw_r_out : ∀ k, k < 81 → (zk_rhoL.getD k []).length ≤ 40 := by decide +kernel
theorem zw_rF {y : zk_X} (h : zw_fin y = true) : zk_rF y.2.1 = zk_rho := by
  obtain ⟨-, -, -, -, h5, h6⟩ := zw_fin_of h
  funext k i
  unfold zk_rF zk_rho
  split
  · show _ = zw_r (k, i.toNat)
    match e : y.2.1.lookup (k, i.toNat) with
    | some v => exact zw_lk h5 e
    | none =>
      show 0 = _
      by_cases hk : k < 81
      · by_cases hi : i.toNat < 40
        · rcases h6 k hk _ hi with q | q
          · exact q.symm
          · rw [e] at q; cases q
        · have := zw_r_out k hk
          unfold zw_r
          rw [List.getD_eq_getElem?_getD (l := zk_rhoL.getD _ _), List.getElem?_eq_none (by show (zk_rhoL.getD k []).length ≤ _; omega)]
          rfl
      · unfold zw_r
        rw [List.getD_eq_getElem?_getD (l := zk_rhoL), List.getElem?_eq_none (by show 81 ≤ k; omega)]
        rfl
  · rfl
