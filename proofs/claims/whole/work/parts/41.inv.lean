/-! what ties the class's cells to the reference's *-/
/-- an abstract sign (o, v) of a law, as the class has it -/
def zx_enc (q : Int × Int) : Int := if q.1 = 0 then q.2 else if q.1 = 1 then -28 - q.2 else if q.1 = 2 then -33 else if q.1 = 3 then -10 else if q.1 = 4 then -11 else if q.1 = 5 then -12 else if q.1 = 6 then -13 else if q.1 = 20 then -27 else if q.1 = 21 then -26 else if q.1 = 22 then -25 else 6 - q.1
/-- the signs that there are; how many truths and values stand behind a law: (truths, values) -/
def zx_ok1 (q : Int × Int) (p : Nat × Nat) : Option (Nat × Nat) :=
  if q.1 = 0 then (if 0 ≤ q.2 ∧ q.2 ≤ 9999 then some (p.1, p.2 + 1) else none)
  else if q.1 = 1 then (if 0 ≤ q.2 ∧ q.2 ≤ 4 then some (p.1, p.2 + 1) else none)
  else if q.1 = 2 then (if 1 ≤ p.2 then some p else none)
  else if 3 ≤ q.1 ∧ q.1 ≤ 6 then (if 2 ≤ p.2 then some (p.1, p.2 - 1) else none)
  else if 10 ≤ q.1 ∧ q.1 ≤ 15 then (if p.2 = 2 then some (p.1 + 1, 0) else none)
  else if q.1 = 20 then (if 1 ≤ p.1 ∧ p.2 = 0 then some p else none)
  else if q.1 = 21 ∨ q.1 = 22 then (if 2 ≤ p.1 ∧ p.2 = 0 then some (p.1 - 1, 0) else none)
  else none
def zx_ty : List (Int × Int) → Nat × Nat → Option (Nat × Nat)
  | [], p => some p
  | q :: l, p => match zx_ok1 q p with
    | none => none
    | some p' => if p'.1 + p'.2 ≤ 32 then zx_ty l p' else none
/-- the law of sort s (0 weighs, 1 goes) in the reference's text t -/
def zx_law (μ : zk_M) (t : Nat) (s : Int) (L : Option (List (Int × Int))) : Prop := match L with
  | none => ∀ j : Nat, (j : Int) < μ 63 (680 * t) → μ 63 (680 * t + 1 + 3 * j) ≠ s
  | some l => ∃ j f : Nat, (j : Int) < μ 63 (680 * t) ∧ μ 63 (680 * t + 1 + 3 * j) = s ∧ (∀ i : Nat, i < j → μ 63 (680 * t + 1 + 3 * i) ≠ s) ∧ μ 63 (680 * t + 2 + 3 * j) = (f : Int) ∧ μ 63 (680 * t + 3 + 3 * j) = (f : Int) + l.length ∧ f + l.length ≤ 302 ∧ ∀ (i : Nat) (q : Int × Int), l[i]? = some q → μ 63 (680 * t + 75 + 2 * (f + i)) = q.1 ∧ μ 63 (680 * t + 76 + 2 * (f + i)) = q.2
/-- the same in the class's script: the law stands from field c to field c + 1 -/
def zx_cls (μ : zk_M) (t : Nat) (c : Int) (L : Option (List (Int × Int))) : Prop := match L with
  | none => μ (26 + 4 * t) (c + 1) ≤ μ (26 + 4 * t) c
  | some l => ∃ f : Nat, l ≠ [] ∧ μ (26 + 4 * t) c = (f : Int) ∧ μ (26 + 4 * t) (c + 1) = (f : Int) + l.length ∧ f + l.length ≤ 300 ∧ ∀ (i : Nat) (q : Int × Int), l[i]? = some q → μ (28 + 4 * t) (f + i) = zx_enc q
/-- a clause: the class's four numbers and the reference's three -/
def zx_cla (w a b c s x y : Int) : Prop :=
  (w = 16 ∧ s = 0) ∨ (w = 17 ∧ s = 1) ∨ (w = 18 ∧ s = 2 ∧ a = x ∧ b = y) ∨ (w = 31 ∧ s = 3 ∧ a = x ∧ b = y) ∨ (w = 19 ∧ s = 4 ∧ a = x ∧ 0 ≤ b ∧ b ≤ 5 ∧ 0 ≤ c ∧ c ≤ 5 ∧ y = 6 * b + c) ∨ (w = 20 ∧ s = 5 ∧ a = x) ∨ (w = 21 ∧ s = 6 ∧ a = x)
def zx_txt (μ : zk_M) (t : Nat) : Prop := 0 ≤ μ 63 (680 * t) ∧ μ 63 (680 * t) ≤ 24 ∧ μ (26 + 4 * t) 0 = μ 63 (680 * t)
  ∧ (∀ j : Nat, (j : Int) < μ 63 (680 * t) → zx_cla (μ (27 + 4 * t) (4 * j)) (μ (27 + 4 * t) (4 * j + 1)) (μ (27 + 4 * t) (4 * j + 2)) (μ (27 + 4 * t) (4 * j + 3)) (μ 63 (680 * t + 1 + 3 * j)) (μ 63 (680 * t + 2 + 3 * j)) (μ 63 (680 * t + 3 + 3 * j)))
  ∧ (∃ L, zx_law μ t 0 L ∧ zx_cls μ t 4 L ∧ ∀ l, L = some l → zx_ty l (0, 0) = some (0, 1) ∧ ∀ q ∈ l, q.1 = 1 → q.2 < 4)
  ∧ (∃ L, zx_law μ t 1 L ∧ zx_cls μ t 6 L ∧ ∀ l, L = some l → zx_ty l (0, 0) = some (1, 0))
/-- at most 8 in each veil -/
def zi_8 (f : Nat → Int) (c : Nat) : Prop := ∀ s : Int, s ≠ 6 → zb_c (fun n => f n == s) c ≤ 8
/-- a stone: kind, day, where, whose; a row of stones: how many, the day, the stones; the row there is and the rows kept, the oldest first -/
abbrev za_W := Int × Int × Int × Int
abbrev za_R := Nat × Int × (Nat → za_W)
abbrev za_S := za_R × List za_R
def za_wd (w : Int) : za_W := (zw_kd w, zw_sw w, zw_pl w, zw_ow w)
def za_cr (g : Int → Int) (b : Int) (r : za_R) : Prop := g (b + 30) = (r.1 : Int) ∧ g (b + 31) = r.2.1 ∧ ∀ n : Nat, n < r.1 → za_wd (g (b + n)) = r.2.2 n
/-- the class has it: the row k, the steps k + 1 and k + 2 -/
def za_C (μ : zk_M) (k : Nat) (σ : za_S) : Prop := za_cr (μ k) 0 σ.1 ∧ ∃ o : Nat, o < 30 ∧ μ (k + 1) 1 = (o : Int) ∧ μ (k + 1) 2 = (σ.2.length : Int) ∧ ∀ (j : Nat) (r : za_R), σ.2[j]? = some r → za_cr (μ (k + 2)) (32 * ((o + j) % 30 : Nat)) r
/-- the reference has it -/
def za_M (g : Int → Int) (σ : za_S) : Prop := g 1 = (σ.1.1 : Int) ∧ g 2 = σ.1.2.1 ∧ (∀ n : Nat, n < σ.1.1 → (g (46 + 4 * n), g (47 + 4 * n), g (48 + 4 * n), g (49 + 4 * n)) = σ.1.2.2 n) ∧ g 5 = (σ.2.length : Int)
  ∧ ∀ (j : Nat) (r : za_R), σ.2[j]? = some r → g (166 + 62 * j) = (r.1 : Int) ∧ g (167 + 62 * j) = r.2.1 ∧ ∀ n : Nat, n < r.1 → (g (46 + 4 * n), g (47 + 4 * n), g (168 + 62 * j + 2 * n), g (169 + 62 * j + 2 * n)) = r.2.2 n
def za_w1 (w : za_W) (day sis : Int) : Prop := 0 ≤ w.1 ∧ w.1 ≤ 5 ∧ 0 ≤ w.2.1 ∧ w.2.1 ≤ day ∧ (0 ≤ w.2.2.1 ∧ w.2.2.1 < sis ∨ w.2.2.1 = 6) ∧ 0 ≤ w.2.2.2 ∧ w.2.2.2 < sis
def za_okr (r : za_R) (sis : Int) : Prop := r.1 ≤ 30 ∧ (0 ≤ r.2.1 ∧ r.2.1 ≤ 999) ∧ (∀ n : Nat, n < r.1 → za_w1 (r.2.2 n) r.2.1 sis) ∧ zi_8 (fun n => (r.2.2 n).2.2.1) r.1
def za_ok (σ : za_S) (sis : Int) : Prop := za_okr σ.1 sis ∧ σ.2.length ≤ 30 ∧ (∀ (j : Nat) (r : za_R), σ.2[j]? = some r → za_okr r sis ∧ r.1 ≤ σ.1.1) ∧ ∀ (i j : Nat) (r q : za_R), i ≤ j → σ.2[i]? = some r → σ.2[j]? = some q → r.1 ≤ q.1
def zi_td (μ : zk_M) (s a : Nat) : Prop := μ s 3 = μ a 6 ∧ 0 ≤ μ a 6 ∧ μ a 6 ≤ 12 ∧ ∀ i : Nat, (i : Int) < μ a 6 → μ (s + 1) i = μ a (10 + 3 * i) ∧ μ (s + 2) i = μ a (11 + 3 * i) ∧ μ (s + 3) i = μ a (12 + 3 * i) ∧ 0 ≤ μ a (10 + 3 * i) ∧ μ a (10 + 3 * i) ≤ 5 ∧ 0 ≤ μ a (11 + 3 * i) ∧ μ a (11 + 3 * i) ≤ 5 ∧ -1 ≤ μ a (12 + 3 * i) ∧ μ a (12 + 3 * i) ≤ 1
/-- a convent: k the class's, a the reference's row -/
def zi_cv (μ : zk_M) (k a : Nat) : Prop := (μ k 0 = μ a 0 ∧ 0 ≤ μ a 0 ∧ μ a 0 ≤ 6) ∧ (μ k 1 = μ a 3 ∧ 0 ≤ μ a 3 ∧ μ a 3 ≤ 4) ∧ (μ k 2 = μ a 4 ∧ -1 ≤ μ a 4 ∧ μ a 4 < μ a 3) ∧ (∃ σ, za_C μ (k + 2) σ ∧ za_M (μ a) σ ∧ za_ok σ (μ a 0)) ∧ zi_td μ (k + 5) a
def zi_tp (μ : zk_M) : Prop := μ 42 1 = μ 60 4 ∧ 0 ≤ μ 60 4 ∧ μ 60 4 ≤ 300 ∧ ∀ i : Int, 0 ≤ i → i < μ 60 4 → μ 43 i = μ 64 i ∧ 0 ≤ μ 64 i ∧ μ 64 i ≤ 255
def zi (μ : zk_M) : Prop := zi_cv μ 2 61 ∧ zi_cv μ 12 62 ∧ μ 62 3 ≤ μ 61 3 ∧ zi_tp μ ∧ (μ 44 0 = μ 60 5 ∧ μ 44 1 = μ 60 6) ∧ ∀ t : Nat, (t : Int) < μ 61 3 → zx_txt μ t
/-! what of the memory the tie looks at *-/
/-- the same but in these cells -/
def zq (sc : List Nat) (μ μ' : zk_M) : Prop := ∀ c, c ∉ sc → μ' c = μ c
theorem zq.rf (sc : List Nat) (μ : zk_M) : zq sc μ μ := fun _ _ => rfl
theorem zq.tr {sc : List Nat} {μ μ1 μ2 : zk_M} (h : zq sc μ μ1) (h2 : zq sc μ1 μ2) : zq sc μ μ2 := fun c hc => (h2 c hc).trans (h c hc)
theorem zq.up {sc sd : List Nat} {μ μ1 : zk_M} (h : zq sc μ μ1) (hs : ∀ c ∈ sc, c ∈ sd) : zq sd μ μ1 := fun c hc => h c (fun q => hc (hs c q))
theorem zq.set {sc : List Nat} {μ μ1 : zk_M} (h : zq sc μ μ1) {k : Nat} (hk : k ∈ sc) (i x : Int) : zq sc μ (zk_set μ1 k i x) := fun c hc => by
  rw [zk_set_o (fun q => hc (by rw [q]; exact hk))]
  exact h c hc
theorem zx_law_cg {μ μ' : zk_M} (h : μ' 63 = μ 63) (t : Nat) (s : Int) (L : Option (List (Int × Int))) : zx_law μ' t s L ↔ zx_law μ t s L := by
  unfold zx_law
  cases L <;> simp only [h]
theorem zx_cls_cg {μ μ' : zk_M} {t : Nat} (h1 : μ' (26 + 4 * t) = μ (26 + 4 * t)) (h2 : μ' (28 + 4 * t) = μ (28 + 4 * t)) (c : Int) (L : Option (List (Int × Int))) : zx_cls μ' t c L ↔ zx_cls μ t c L := by
  unfold zx_cls
  cases L <;> simp only [h1, h2]
theorem zx_txt_cg {μ μ' : zk_M} {t : Nat} (h0 : μ' 63 = μ 63) (h1 : μ' (26 + 4 * t) = μ (26 + 4 * t)) (h3 : μ' (27 + 4 * t) = μ (27 + 4 * t)) (h2 : μ' (28 + 4 * t) = μ (28 + 4 * t)) (h : zx_txt μ t) : zx_txt μ' t := by
  unfold zx_txt at *
  simp only [zx_law_cg h0, zx_cls_cg h1 h2, h0, h1, h3]
  exact h
theorem za_C_cg {μ μ' : zk_M} {k : Nat} {σ : za_S} (h0 : μ' k = μ k) (h1 : μ' (k + 1) = μ (k + 1)) (h2 : μ' (k + 2) = μ (k + 2)) (h : za_C μ k σ) : za_C μ' k σ := by
  unfold za_C at *
  simp only [h0, h1, h2]
  exact h
theorem zi_td_cg {μ μ' : zk_M} {s a : Nat} (h0 : μ' s = μ s) (h1 : μ' (s + 1) = μ (s + 1)) (h2 : μ' (s + 2) = μ (s + 2)) (h3 : μ' (s + 3) = μ (s + 3)) (h4 : μ' a = μ a) (h : zi_td μ s a) : zi_td μ' s a := by
  unfold zi_td at *
  simp only [h0, h1, h2, h3, h4]
  exact h
theorem zi_cv_cg {μ μ' : zk_M} {k a : Nat} (h : ∀ c, c = k ∨ (k + 2 ≤ c ∧ c ≤ k + 8) ∨ c = a → μ' c = μ c) (hi : zi_cv μ k a) : zi_cv μ' k a := by
  obtain ⟨h1, h2, h3, ⟨σ, h4, h5, h7⟩, h6⟩ := hi
  have ek : μ' k = μ k := h k (Or.inl rfl)
  have ea : μ' a = μ a := h a (Or.inr (Or.inr rfl))
  refine ⟨by rw [ek, ea]; exact h1, by rw [ek, ea]; exact h2, by rw [ek, ea]; exact h3, ⟨σ, za_C_cg (h _ (by omega)) (h _ (by omega)) (h _ (by omega)) h4, by rw [ea]; exact h5, by rw [ea]; exact h7⟩, zi_td_cg (h _ (by omega)) (h _ (by omega)) (h _ (by omega)) (h _ (by omega)) ea h6⟩
theorem zi_cg {μ μ' : zk_M} (h : ∀ c, (2 ≤ c ∧ c ≤ 10) ∨ (12 ≤ c ∧ c ≤ 20) ∨ (26 ≤ c ∧ c ≤ 41 ∧ c % 4 ≠ 1) ∨ c = 43 ∨ (61 ≤ c ∧ c ≤ 64) → μ' c = μ c) (h42 : μ' 42 1 = μ 42 1) (h44 : μ' 44 0 = μ 44 0 ∧ μ' 44 1 = μ 44 1) (h60 : μ' 60 4 = μ 60 4 ∧ μ' 60 5 = μ 60 5 ∧ μ' 60 6 = μ 60 6) (hi : zi μ) : zi μ' := by
  obtain ⟨h1, h2, h3, h4, h5, h6⟩ := hi
  have e61 := h 61 (by omega)
  have e62 := h 62 (by omega)
  have e43 := h 43 (by omega)
  have e64 := h 64 (by omega)
  refine ⟨zi_cv_cg (fun c hc => h c (by omega)) h1, zi_cv_cg (fun c hc => h c (by omega)) h2, by rw [e61, e62]; exact h3, ?_, by rw [h44.1, h44.2, h60.2.1, h60.2.2]; exact h5, fun t ht => ?_⟩
  · unfold zi_tp at *
    rw [h42, h60.1, e43, e64]
    exact h4
  · rw [e61] at ht
    have hlt : t < 4 := by have := h1.2.1.2.2; omega
    exact zx_txt_cg (h 63 (by omega)) (h _ (by omega)) (h _ (by omega)) (h _ (by omega)) (h6 t ht)
/-- what the tie doesn't look at -/
def zi_sc : List Nat := [11, 21, 24, 25, 29, 33, 37, 41, 45, 46, 47, 48, 49, 50, 51, 52, 53, 54, 55, 56, 57, 58, 59, 65, 66, 67, 68, 69, 70, 71, 72, 73, 74, 75, 76, 77, 78, 79, 80]
theorem zi_scq {μ μ' : zk_M} (h : zq zi_sc μ μ') (hi : zi μ) : zi μ' := by
  refine zi_cg (fun c hc => h c (fun q => ?_)) (by rw [h 42 (by decide)]) ⟨by rw [h 44 (by decide)], by rw [h 44 (by decide)]⟩ ⟨by rw [h 60 (by decide)], by rw [h 60 (by decide)], by rw [h 60 (by decide)]⟩ hi
  simp [zi_sc] at q
  omega
