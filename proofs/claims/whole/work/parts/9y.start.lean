/-! THE CLAIM OUT OF ONE WALK OF THE LAW'S BODY. Your part is whole_start (and what it stands on); all else here is the same for every law, but numbers. -/
def R_law : String := "VeilOfStonesLaw"
def lw_P (b : Addr) (xs : List Int32) (args : Array Value) (s : State) : Prop := args = #[.ref b] ∧ s.IntsAt b xs ∧ xs.length ≤ 3072 ∧ (Jvm.Cond.and given_1 narrow_1).before args s = true
def lw_Q (_ : Array Value) (s : State) (o : Outcome) (t : State) : Prop := o = .returned (some (.int 1)) ∧ Framed s o t [] 600000 7302250
def lw_Z (below : List Frame) (a : Array Value) (s : State) : State → Prop := fun t => ∃ o, t.status = .running ∧ Ended t below o ∧ lw_Q a s o t
/-- the law's own end, with 1 on the stack, nothing written that was there before, its room as the claim has it -/
theorem lw_ret {p : Program} {l : Launch} {e : Env} {s : State} {m : MethodId} {below : List Frame} {meth : Method} {c : Code} {b : Nat} (hx : p.tables.exec = Jvm.exec) (hb : c.code = code) (hr : meth.sig.returnType = ret) (hlocks : meth.locks = false) {pc : Nat} {H : Heap} {ls : Array Slot} (hdg : decode code pc = .ok (.ireturn, 1)) : W p l e room_1 s m #[Value.ref b] below meth c H [] 600000 7302250 (lw_Z below #[Value.ref b] s) (F0 m pc ls [.int 1]) := by
  intro T hT X
  obtain ⟨fs, hret, hrun, hended, hW, hframe⟩ := X.leave (v := some (.int 1)) (hlocks := hlocks) (fun h => by rw [hr] at h; cases h)
  have hmeth' : T.vm.method? m = some meth := X.method'
  refine ⟨T.setFrames fs, ?_, .returned (some (.int 1)), hrun, hended, rfl, ⟨_, rfl⟩, hW, hframe⟩
  jvm_step X.here [X.here.top, hx, hb, hdg, hmeth', hr, ret, narrow_b1]
  (try refine ⟨rfl, ?_⟩); (try refine ⟨rfl, ?_⟩)
  first | (intro acts; rw [hret _ acts rfl rfl rfl]) | rw [hret _ _ rfl rfl rfl]
  exact Steps.refl _
/-- what holds at the law's entry: the machine, the code, the tables' words (any of lw_tbl by 'hts w (by decide +kernel)'), the script of L ints xs at the cell b, what the Statement gives of the start (any of its parts by flat_of_before) -/
def lw_At (p : Program) (s : State) (m : MethodId) (meth : Method) (c : Code) (b L : Nat) (xs : Nat → Int32) : Prop :=
  p.tables.exec = Jvm.exec ∧ c.code = code ∧ meth.sig.returnType = ret ∧ c.maxLocals = 4 ∧ s.vm.findClass R_law = some m.cls ∧ (∀ w ∈ lw_tbl, w.before #[Value.ref b] s = true) ∧ va_X b L xs s s.heap ∧ b < s.heap.size ∧ meth.locks = false ∧ (Jvm.Cond.and given_1 narrow_1).before #[Value.ref b] s = true
-- ===== YOUR PART BEGINS =====
theorem zw_nst_in : ∀ q ∈ zk_nst, Cond.methodLinkNest (zk_cn q.1) q.2.1 (zk_yn q.2.2.1) q.2.2.2 ∈ lw_tbl := by decide +kernel
theorem zw_str_in : Cond.stringRef "VeilOfStones$Tape" 60 zk_words ∈ lw_tbl := by decide +kernel
theorem zw_ao_in : Cond.arrayOver (.object "VeilOfStones$Script") ∈ lw_tbl := by decide +kernel
theorem zw_cs_in : Cond.laysStatic "java/lang/String" "COMPACT_STRINGS" "Z" ∈ lw_tbl ∧ Cond.initialized "java/lang/String" ∈ lw_tbl ∧ Cond.laysStatic "jdk/internal/util/Preconditions" "SIOOBE_FORMATTER" "Ljava/util/function/BiFunction;" ∈ lw_tbl ∧ Cond.initialized "jdk/internal/util/Preconditions" ∈ lw_tbl := ⟨by decide +kernel, by decide +kernel, by decide +kernel, by decide +kernel⟩
set_option maxRecDepth 20000 in
theorem zw_el_in : ∀ j, j < 77 → Cond.eq (.elem (.field (.string "VeilOfStones$Tape" 60) "java/lang/String" "value" "[B") (.int (Int32.ofNat j))) (.int (zk_wordsL.getD j 0)) ∈ flatC (Jvm.Cond.and given_1 narrow_1) := by decide +kernel
theorem zw_tx {s : State} {b : Nat} {A : Nat → Prop} (hgv : (Jvm.Cond.and given_1 narrow_1).before #[Value.ref b] s = true) (hts : ∀ w ∈ lw_tbl, w.before #[Value.ref b] s = true) (hA : ∀ a : Nat, a < s.heap.size → ¬ A a) : ∃ tx tv : Nat, vk_S 1 [77] [zk_wordsL] (fun _ => tx) (fun _ => tv) A s s.heap ∧ vk_R "VeilOfStones$Tape" 60 zk_words tx s := by
  have hs := flat_of_before _ hgv
  obtain ⟨adK, adV, h1, h2⟩ := vk_Sof (args := #[Value.ref b]) (s := s) (N := 1) (tm := fun _ => .string "VeilOfStones$Tape" 60) (len := [77]) (byt := [zk_wordsL]) (A := A)
    (fun i hi => by rw [show i = 0 by omega]; decide)
    (fun i hi => hs _ (by decide +kernel)) (fun i hi => hs _ (by decide +kernel)) (fun i hi => hs _ (by decide +kernel))
    (fun i hi => by rw [show i = 0 by omega]; exact hs _ (by decide +kernel))
    (fun i hi j hj => by
      have e : i = 0 := by omega
      subst e
      exact hs _ (zw_el_in j hj))
    (fun i j hi hj hn => absurd (show i = j by omega) hn) hA
  refine ⟨adK 0, adV 0, ⟨fun i hi => ?_, fun i j hi hj _ => by omega⟩, vk_R.of (hts _ zw_str_in) (h2 0 (by decide))⟩
  have e : i = 0 := by omega
  subst e
  exact h1.1 0 (by decide)
def zw_sx (L : Nat) (xs : Nat → Int32) : Int → Int := fun i => if i = -1 then (L : Int) else if 0 ≤ i then (xs i.toNat).toInt else 0
def zw_base (L : Nat) (xs : Nat → Int32) : zk_M := fun c i => if c = 0 then zw_sx L xs i else 0
theorem zw_sx_rI {L : Nat} {xs : Nat → Int32} (hL : L ≤ 3072) (i : Int) : zk_rI (zw_sx L xs i) := by
  unfold zw_sx zk_rI
  split
  · omega
  · split
    · have h1 := Int32.le_toInt (xs i.toNat)
      have h2 := Int32.toInt_lt (xs i.toNat)
      omega
    · omega
theorem zw_base_rI {L : Nat} {xs : Nat → Int32} (hL : L ≤ 3072) (c : Nat) (i : Int) : zk_rI (zw_base L xs c i) := by
  unfold zw_base
  split
  · exact zw_sx_rI hL i
  · exact ⟨by decide, by decide⟩
theorem zw_mF_nil (base : zk_M) : zk_mF base [] = base := by
  funext c i
  unfold zk_mF
  split <;> rfl
theorem zw_rets {p : Program} {l : Launch} {e : Env} {s : State} {m : MethodId} {below : List Frame} {meth : Method} {c : Code} {b : Nat} {g : zk_G} (hx : p.tables.exec = Jvm.exec) (hb : c.code = code) (hr : meth.sig.returnType = ret) (hlocks : meth.locks = false) (hg : s.heap.size ≤ zk_a0 g + 1) (v : Option zk_V) (S' : zk_S) (H : Heap) (locs : List Loc) (cells slots pc' : Nat) (la : Array Slot) (hv : v = some (.inl 1)) (hrt : zk_rets 258 pc' v) (hS : va_S (zk_A g) s.heap H locs) (hcs : zk_cs 0 S' cells slots) (hN : S'.1 = 0 + zk_mc 258) (hZ : zk_SZ S'.1 = zk_SZ 0 + zk_ms 258) : W p l e room_1 s m #[Value.ref b] below meth c H locs cells slots (lw_Z below #[Value.ref b] s) (F0 m pc' la (v.toList.map (zk_enc g))) := by
  subst hv
  have e1 : zk_mc 258 = 80 := by decide +kernel
  have e2 : zk_ms 258 = 13381 := by decide +kernel
  have e3 : zk_SZ 0 = 0 := by decide +kernel
  refine va_forget (fun q hq => ?_) ?_
  · have h : zk_a0 g < q.base := hS.2.2 q hq
    omega
  · refine W.widen (k := 600000) (n := 7302250) (by have := hcs.1; omega) (by have := hcs.2; omega) ?_
    show W p l e room_1 s m #[Value.ref b] below meth c H [] 600000 7302250 (lw_Z below #[Value.ref b] s) (F0 m pc' la [.int (zk_I 1)])
    rw [show zk_I 1 = 1 by decide]
    exact lw_ret hx hb hr hlocks (show decode code pc' = .ok (.ireturn, 1) from hrt.1)
theorem whole_start {p : Program} {e : Env} {s : State} {m : MethodId} {below : List Frame} {meth : Method} {c : Code} (l : Launch) {b L : Nat} {xs : Nat → Int32} (hL : L ≤ 3072) (C0 : lw_At p s m meth c b L xs) : W p l e room_1 s m #[Value.ref b] below meth c s.heap [] 0 0 (lw_Z below #[Value.ref b] s) (entryFrame m ([Value.ref b] : List Value).toArray 4) := by
  obtain ⟨hx, hb, hr, hml, hown, hts, hX, hbl, hlocks, hgv⟩ := C0
  have hgt : ∀ w ∈ zk_gT, w.before #[Value.ref b] s = true := fun w hw => hts w (zk_gT_good w hw).1
  have hAO : va_AO "VeilOfStones$Script" s := va_AO.of (hts _ zw_ao_in)
  obtain ⟨dC, dI, hKc⟩ := zw_kn hgt
  obtain ⟨aI, hI⟩ := zw_arr (ty := .int) (fun _ q => by cases q) hgt (by decide +kernel)
  obtain ⟨aJ, hJ⟩ := zw_arr (ty := .long) (fun _ q => by cases q) hgt (by decide +kernel)
  obtain ⟨aZ, hZ⟩ := zw_arr (ty := .boolean) (fun _ q => by cases q) hgt (by decide +kernel)
  obtain ⟨aC, hC⟩ := zw_arr (ty := .char) (fun _ q => by cases q) hgt (by decide +kernel)
  obtain ⟨aS, hSc⟩ := zw_arrS hAO
  have hA : ∀ a : Nat, a < s.heap.size → ¬ (fun q : Nat => s.heap.size - 1 < q) a := fun a h q => by
    have q : s.heap.size - 1 < a := q
    omega
  obtain ⟨tx, tv, hS1, hR1⟩ := zw_tx hgv hts hA
  have hs := flat_of_before _ hgv
  have hZ1 : va_Z "java/lang/String" "COMPACT_STRINGS" "Z" (.int 1) (fun q : Nat => s.heap.size - 1 < q) s s.heap := va_Zof (hts _ zw_cs_in.1) (hts _ zw_cs_in.2.1) (va_eqt (hs _ (by decide +kernel))) hA
  have hZ2 : va_Zq "jdk/internal/util/Preconditions" "SIOOBE_FORMATTER" "Ljava/util/function/BiFunction;" (fun q : Nat => s.heap.size - 1 < q) s s.heap := va_Zqof (hts _ zw_cs_in.2.2.1) (hts _ zw_cs_in.2.2.2) (hs _ (by decide +kernel)) hA
  have hT : va_T .int b L (fun j => .int (zk_I (zw_sx L xs (j : Int)))) (fun q : Nat => s.heap.size - 1 < q) s s.heap := by
    obtain ⟨scr, g1, g2, g3, g4, g5⟩ := hX
    refine ⟨scr, g1, g2, g3, by omega, by rw [g4], fun j hj => ?_, hA b hbl⟩
    rw [g5 j hj]
    have : zw_sx L xs (j : Int) = (xs j).toInt := by
      unfold zw_sx
      rw [if_neg (by omega), if_pos (by omega)]
      rfl
    show _ = some (Value.int (zk_I (zw_sx L xs (j : Int))))
    rw [this]
    unfold zk_I
    rw [Int32.ofInt_toInt]
  obtain ⟨g, hg⟩ : ∃ g : zk_G, g = (s.heap.size - 1, b, tx, tv, dC, dI, (fun t => if t = 100 then aI else if t = 101 then aJ else if t = 102 then aZ else if t = 103 then aC else aS), zw_sx L xs) := ⟨_, rfl⟩
  have hK : zk_Kn g s := by
    rw [hg]
    refine ⟨hKc, fun k q hq => ?_⟩
    match k, hq with
    | 0, hq => cases hq; exact hI
    | 1, hq => cases hq; exact hJ
    | 2, hq => cases hq; exact hZ
    | 3, hq => cases hq; exact hC
    | 4, hq => cases hq; exact hSc
    | k + 5, hq => cases hq
  have hsz : 1 ≤ s.heap.size := by omega
  have hOd : zk_Od g s s.heap := by
    rw [hg]
    exact ⟨hS1, hZ1, hZ2, hAO, Int.natCast_nonneg L, by show (L : Int) ≤ 3072; omega, hT⟩
  have hOw : zk_Ow g s := by
    rw [hg]
    exact ⟨hR1, fun q hq => va_Nw.of rfl (hts _ (zw_nst_in q hq))⟩
  have ha : zk_a0 g + 1 = s.heap.size := by
    rw [hg]
    show s.heap.size - 1 + 1 = _
    omega
  have hsx : zk_sx g = zw_sx L xs := by rw [hg]; rfl
  have hbs : zk_enc g (.inr (.inr (.inr 2))) = .ref b := by rw [hg]; rfl
  rw [lg_entry_eq]
  have hl := zk_LR_ent (g := g) (as := [.inr (.inr (.inr 2))]) (n := 4) (by decide)
  rw [show List.map (zk_enc g) [.inr (.inr (.inr 2))] = [Value.ref b] by rw [List.map_cons, hbs]; rfl] at hl
  have k := zw_law (base := zw_base L xs) (fun c i h => by unfold zw_base; rw [if_neg (by omega)]) (show (0 : Int) ≤ (L : Int) by omega) (show (L : Int) ≤ 3072 by omega)
  refine k g p l e room_1 s m #[Value.ref b] below meth c (lw_Z below #[Value.ref b] s) ⟨hx, hb, hml, hown, hgt, hK, hOd, hOw, by decide +kernel, by decide +kernel, by decide +kernel, by decide +kernel, fun h => absurd h (by decide +kernel), by omega⟩ ?_ s.heap [] 0 0 _ hl ?_ zk_ok_n ?_ ?_ va_S.rf ⟨Nat.le_refl _, by rw [Nat.zero_add]; exact Nat.le_refl _⟩
  · intro v S' H locs cells slots pc' la hv _ hrt _ _ hS hcs hN hZ
    exact zw_rets hx hb hr hlocks (by omega) v S' H locs cells slots pc' la hv hrt hS hcs hN hZ
  · exact zk_ok_loc (as := [.inr (.inr (.inr 2))]) (n := 4) (fun v hv => by rw [List.mem_singleton.mp hv]; trivial)
  · refine ⟨fun _ => ?_, Nat.zero_le _, fun k h1 h2 => ?_, fun i => ?_⟩
    · show s.heap.size = zk_a0 g + 1 + 0
      omega
    · have h2 : k ≤ 0 := h2
      omega
    · show zk_mF (zw_base L xs) [] 0 i = _
      rw [zw_mF_nil, hsx]
      rfl
  · intro k i
    have h : zk_rI ((zk_st (zw_base L xs) (0, [], [])).2.2 k i) := by
      show zk_rI (zk_mF (zw_base L xs) [] k i)
      rw [zw_mF_nil]
      exact zw_base_rI hL k i
    exact ⟨⟨by have := h.1; omega, by have := h.2; omega⟩, fun _ => h⟩
-- ===== YOUR PART ENDS =====
