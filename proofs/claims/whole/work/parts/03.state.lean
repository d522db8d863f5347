/-! the state: cells 1 .. 80 in the order in which they are made; 0 is null. Shapes: below 13 an object of that class, 100 int[], 101 long[], 102 boolean[], 103 char[], 104 Script[] -/
abbrev zk_V : Type := Int ⊕ (Int ⊕ (Nat ⊕ Nat))
abbrev zk_M : Type := Nat → Int → Int
abbrev zk_F : Type := Nat → Int → Nat
abbrev zk_S : Type := Nat × zk_F × zk_M
/-- the base, the script's address, the text's and its bytes', the classes' numbers, their slots, the arrays' classes, the script (its length at -1) -/
abbrev zk_G : Type := Nat × Nat × Nat × Nat × (Nat → ClassId) × (Nat → Nat → Nat) × (Nat → ClassId) × (Int → Int)
def zk_shL : List (Nat × Nat) := [(99, 0), (11, 8), (0, 6), (9, 1), (100, 32), (8, 3), (100, 960), (6, 5), (100, 12), (100, 12), (100, 12), (100, 24), (0, 6), (9, 1), (100, 32), (8, 3), (100, 960), (6, 5), (100, 12), (100, 12), (100, 12), (100, 24), (1, 3), (104, 4), (100, 5), (100, 6), (7, 9), (100, 96), (100, 300), (100, 32), (7, 9), (100, 96), (100, 300), (100, 32), (7, 9), (100, 96), (100, 300), (100, 32), (7, 9), (100, 96), (100, 300), (100, 32), (10, 6), (103, 300), (5, 9), (100, 32), (2, 7), (100, 12), (100, 12), (100, 12), (100, 6), (100, 6), (3, 5), (100, 6), (100, 6), (100, 6), (4, 6), (100, 8), (100, 6), (100, 256), (12, 37), (100, 2026), (100, 2026), (100, 2720), (100, 300), (100, 160), (100, 5), (101, 330), (102, 330), (100, 6), (100, 6), (100, 12), (100, 12), (100, 12), (100, 6), (100, 6), (100, 256), (100, 256), (100, 256), (100, 5), (100, 5)]
def zk_sh (k : Nat) : Nat := (zk_shL.getD k (99, 0)).1
def zk_sz (k : Nat) : Nat := (zk_shL.getD k (99, 0)).2
def zk_szI (k : Nat) : Int := (zk_sz k : Int)
def zk_ftL : List (List Nat) := [[0, 0, 0, 3, 3, 3], [3, 3, 3], [0, 0, 3, 3, 3, 3, 3], [0, 0, 3, 3, 3], [0, 0, 0, 3, 3, 3], [0, 0, 2, 2, 3, 0, 0, 0, 2], [3, 3, 3, 0, 3], [0, 3, 3, 0, 0, 0, 0, 0, 3], [3, 0, 0], [3], [3, 0, 0, 0, 0, 0], [3, 3, 3, 3, 3, 3, 3, 3], [3, 3, 3, 3, 0, 0, 0, 0, 0, 0, 0, 1, 0, 0, 0, 0, 3, 0, 0, 2, 0, 0, 3, 3, 3, 3, 3, 3, 3, 3, 3, 3, 3, 3, 3, 3, 3]]
def zk_ft (c i : Nat) : Nat := (zk_ftL.getD c []).getD i 0
def zk_SZ (n : Nat) : Nat := ((zk_shL.take (n + 1)).map fun q => q.2).sum
def zk_alL : List (Nat × Nat × Nat) := [(0, 9, 1061), (12, 19, 1763), (19, 5, 48), (25, 3, 18), (32, 3, 270), (41, 1, 32), (59, 4, 60), (69, 3, 428), (83, 1, 960), (87, 1, 32), (103, 1, 300), (115, 58, 4601), (145, 20, 8735), (258, 80, 13381)]
def zk_mc (i : Nat) : Nat := ((zk_alL.lookup i).getD (0, 0)).1
def zk_ms (i : Nat) : Nat := ((zk_alL.lookup i).getD (0, 0)).2
def zk_wordsL : List Int32 := [119, 101, 105, 103, 104, 115, 32, 103, 111, 101, 115, 32, 118, 111, 119, 32, 112, 97, 115, 115, 32, 102, 111, 114, 103, 105, 118, 101, 32, 119, 97, 105, 116, 32, 111, 102, 32, 116, 111, 32, 111, 114, 32, 97, 110, 100, 32, 110, 111, 116, 32, 107, 105, 110, 100, 32, 97, 103, 101, 32, 115, 105, 115, 116, 101, 114, 32, 115, 116, 111, 110, 101, 32, 115, 105, 110, 32]
def zk_words : String := "weighs goes vow pass forgive wait of to or and not kind age sister stone sin "
def zk_nst : List (Nat × Nat × Nat × String) := [(11, 9, 0, "VeilOfStones"), (0, 23, 87, "VeilOfStones"), (0, 30, 83, "VeilOfStones"), (0, 37, 59, "VeilOfStones"), (1, 24, 69, "VeilOfStones"), (11, 28, 103, "VeilOfStones"), (11, 35, 41, "VeilOfStones"), (11, 42, 19, "VeilOfStones"), (11, 49, 25, "VeilOfStones"), (11, 56, 32, "VeilOfStones")]
def zk_rhoL : List (List Nat) := [[], [2, 12, 22, 42, 44, 46, 52, 56], [0, 0, 0, 3, 5, 7], [4], [], [6], [], [8, 9, 10, 0, 11], [], [], [], [], [0, 0, 0, 13, 15, 17], [14], [], [16], [], [18, 19, 20, 0, 21], [], [], [], [], [23, 24, 25], [26, 30, 34, 38], [], [], [0, 27, 28, 0, 0, 0, 0, 0, 29], [], [], [], [0, 31, 32, 0, 0, 0, 0, 0, 33], [], [], [], [0, 35, 36, 0, 0, 0, 0, 0, 37], [], [], [], [0, 39, 40, 0, 0, 0, 0, 0, 41], [], [], [], [43], [], [0, 0, 0, 0, 45], [], [0, 0, 47, 48, 49, 50, 51], [], [], [], [], [], [0, 0, 53, 54, 55], [], [], [], [0, 0, 0, 57, 58, 59], [], [], [], [61, 62, 63, 64, 0, 0, 0, 0, 0, 0, 0, 0, 0, 0, 0, 0, 65, 0, 0, 0, 0, 0, 66, 67, 68, 69, 70, 71, 72, 73, 74, 75, 76, 77, 78, 79, 80], [], [], [], [], [], [], [], [], [], [], [], [], [], [], [], [], [], [], [], []]
def zk_rho : zk_F := fun k i => if 0 ≤ i then (zk_rhoL.getD k []).getD i.toNat 0 else 0
def zk_a0 (g : zk_G) : Nat := g.1
def zk_bs (g : zk_G) : Nat := g.2.1
def zk_tx (g : zk_G) : Nat := g.2.2.1
def zk_tv (g : zk_G) : Nat := g.2.2.2.1
def zk_D (g : zk_G) : va_G := (g.2.2.2.2.1, g.2.2.2.2.2.1)
def zk_aC (g : zk_G) : Nat → ClassId := g.2.2.2.2.2.2.1
def zk_sx (g : zk_G) : Int → Int := g.2.2.2.2.2.2.2
def zk_A (g : zk_G) : Nat → Prop := fun q => zk_a0 g < q
def zk_encR (g : zk_G) (r : Nat) : Value := match r with
  | 0 => .null
  | k + 1 => .ref (zk_a0 g + (k + 1))
def zk_optR (g : zk_G) (r : Nat) : Option Nat := match r with
  | 0 => none
  | k + 1 => some (zk_a0 g + (k + 1))
def zk_enc (g : zk_G) (v : zk_V) : Value := match v with
  | .inl x => .int (zk_I x)
  | .inr (.inl x) => .long (zk_J x)
  | .inr (.inr (.inl r)) => zk_encR g r
  | .inr (.inr (.inr n)) => .ref (if n = 1 then zk_tx g else zk_bs g)
def zk_encF (g : zk_G) (t r : Nat) (x : Int) : Value := match t with
  | 1 => .long (zk_J x)
  | 3 => zk_encR g r
  | _ => .int (zk_I x)
def zk_fs (g : zk_G) (S : zk_S) (k : Nat) : List Value := (List.range (zk_nf (zk_sh k))).map fun i => zk_encF g (zk_ft (zk_sh k) i) (S.2.1 k (i : Int)) (S.2.2 k (i : Int))
def zk_ar (g : zk_G) (S : zk_S) (k : Nat) : (Nat → Int32) ⊕ (Nat → Int64) ⊕ (Nat → UInt32) ⊕ (Nat → UInt64) ⊕ (Nat → Option Nat) := match zk_sh k with
  | 101 => .inr (.inl fun j => zk_J (S.2.2 k (j : Int)))
  | 104 => .inr (.inr (.inr (.inr fun j => zk_optR g (S.2.1 k (j : Int)))))
  | _ => .inl fun j => zk_I (S.2.2 k (j : Int))
def zk_encC (g : zk_G) (S : zk_S) (k : Nat) : va_E := if zk_sh k < 13 then .inr (zk_sh k, zk_fs g S k) else .inl (zk_aC g (zk_sh k), zk_sz k, zk_ar g S k)
def zk_tys (g : zk_G) : List (ClassId × FieldType) := [(zk_aC g 100, .int), (zk_aC g 101, .long), (zk_aC g 102, .boolean), (zk_aC g 103, .char), (zk_aC g 104, .object "VeilOfStones$Script")]
def zk_Kn (g : zk_G) (U : State) : Prop := va_K (zk_D g) zk_cl (zk_tys g) U
def zk_lg (k : Nat) (i : Int) : Bool := zk_sh k == 101 || zk_ft (zk_sh k) i.toNat == 1
def zk_MG (S : zk_S) : Prop := ∀ (k : Nat) (i : Int), zk_rJ (S.2.2 k i) ∧ (zk_lg k i = false → zk_rI (S.2.2 k i))
/-- the heap holds the state -/
def zk_RH (g : zk_G) (S : zk_S) (H : Heap) : Prop := (S.1 < 80 → H.size = zk_a0 g + 1 + S.1) ∧ S.1 ≤ 80 ∧ (∀ k, 1 ≤ k → k ≤ S.1 → va_at (zk_D g) zk_cl (zk_a0 g + k, zk_encC g S k) H) ∧ ∀ i, S.2.2 0 i = zk_sx g i
/-- what was there before the law -/
def zk_Od (g : zk_G) (U : State) (H : Heap) : Prop :=
  vk_S 1 [77] [zk_wordsL] (fun _ => zk_tx g) (fun _ => zk_tv g) (zk_A g) U H ∧ va_Z "java/lang/String" "COMPACT_STRINGS" "Z" (.int 1) (zk_A g) U H ∧ va_Zq "jdk/internal/util/Preconditions" "SIOOBE_FORMATTER" "Ljava/util/function/BiFunction;" (zk_A g) U H ∧ va_AO "VeilOfStones$Script" U
  ∧ (0 ≤ zk_sx g (-1) ∧ zk_sx g (-1) ≤ 3072 ∧ va_T .int (zk_bs g) (zk_sx g (-1)).toNat (fun j => .int (zk_I (zk_sx g (j : Int)))) (zk_A g) U H)
def zk_Ow (g : zk_G) (U : State) : Prop := vk_R "VeilOfStones$Tape" 60 zk_words (zk_tx g) U ∧ ∀ q ∈ zk_nst, va_Nw (.methodLinkNest (zk_cn q.1) q.2.1 (zk_yn q.2.2.1) q.2.2.2) U
theorem zk_Od.moved {g : zk_G} {u U : State} {H : Heap} (hvm : u.vm.Alike U.vm) (h : zk_Od g u H) : zk_Od g U H :=
  ⟨vk_S.moved hvm h.1, va_Z.moved hvm h.2.1, va_Zq.moved hvm h.2.2.1, va_AO.moved hvm h.2.2.2.1, h.2.2.2.2.1, h.2.2.2.2.2.1, va_T.moved hvm h.2.2.2.2.2.2⟩
theorem zk_Od.kept {g : zk_G} {U : State} {H H1 : Heap} (h : zk_Od g U H) (hq : ∀ a : Nat, a < H.size → ¬ zk_A g a → H1[a]? = H[a]?) : zk_Od g U H1 :=
  ⟨h.1.kept hq, h.2.1.kept hq, h.2.2.1.kept hq, h.2.2.2.1, h.2.2.2.2.1, h.2.2.2.2.2.1, h.2.2.2.2.2.2.kept hq⟩
theorem zk_Ow.warm {g : zk_G} {s U : State} (hW : s.WarmedH U.vm) (h : zk_Ow g s) : zk_Ow g U := ⟨h.1.warm hW, fun q hq => va_Nw.warmM hW (h.2 q hq)⟩
theorem zk_Ow.same {g : zk_G} {u U : State} (hv : U.vm = u.vm) (h : zk_Ow g u) : zk_Ow g U := ⟨h.1.same hv, fun q hq => va_Nw.same rfl hv.symm (h.2 q hq)⟩
def zk_okV (v : zk_V) : Prop := match v with
  | .inl x => zk_rI x
  | .inr (.inl x) => zk_rJ x
  | _ => True
def zk_okL (l : List zk_V) : Prop := ∀ v ∈ l, zk_okV v
def zk_real (v : zk_V) : Bool := match v with
  | .inr (.inr (.inr 0)) => false
  | _ => true
def zk_LR (g : zk_G) (la : Array Slot) (n : Nat) (ls : List zk_V) : Prop := la.size = n ∧ lv_wf la ∧ ∀ (i : Nat) (v : zk_V), ls[i]? = some v → zk_real v = true → la[i]? = some (.val (zk_enc g v))
/-- the frame's own facts -/
def zk_Cx (g : zk_G) (mid : Nat) (p : Program) (R : Room) (s : State) (m : MethodId) (args : Array Value) (meth : Method) (c : Code) : Prop :=
  p.tables.exec = Jvm.exec ∧ c.code = zk_cc mid ∧ c.maxLocals = zk_mL mid ∧ s.vm.findClass (zk_cn (zk_own mid)) = some m.cls ∧ (∀ w ∈ zk_gT, w.before args s = true) ∧ zk_Kn g s ∧ zk_Od g s s.heap ∧ zk_Ow g s ∧ zk_fr mid ≤ R.frames ∧ zk_lo mid ≤ R.locals ∧ zk_mc mid ≤ R.cells ∧ zk_ms mid ≤ R.slots ∧ (zk_kd mid = 2 → meth.name = "<init>") ∧ zk_a0 g + 1 ≤ s.heap.size
def zk_rets (mid pc : Nat) (v : Option zk_V) : Prop := match v with
  | none => decode (zk_cc mid) pc = .ok (.return_, 1) ∧ zk_rt mid = none
  | some (.inl x) => decode (zk_cc mid) pc = .ok (.ireturn, 1) ∧ ∃ ty, zk_rt mid = some ty ∧ narrow ty (.int (zk_I x)) = .int (zk_I x)
  | some (.inr (.inl _)) => decode (zk_cc mid) pc = .ok (.lreturn, 1) ∧ zk_rt mid = some .long
  | some (.inr (.inr (.inl _))) => decode (zk_cc mid) pc = .ok (.areturn, 1) ∧ ∃ nm, zk_rt mid = some (.object nm)
  | _ => False
/-- the room used since the entry, at which N1 cells were made -/
def zk_cs (N1 : Nat) (S : zk_S) (cells slots : Nat) : Prop := cells + N1 ≤ S.1 ∧ slots + zk_SZ N1 ≤ zk_SZ S.1
/-- from here the frame comes to its end, with Q -/
def zk_Ok (mid N1 pc : Nat) (ls st : List zk_V) (S : zk_S) (Q : Option zk_V → zk_S → Prop) : Prop :=
  ∀ (g : zk_G) (p : Program) (l : Launch) (e : Env) (R : Room) (s : State) (m : MethodId) (args : Array Value) (below : List Frame) (meth : Method) (c : Code) (Z : State → Prop),
    zk_Cx g mid p R s m args meth c →
    (∀ (v : Option zk_V) (S' : zk_S) (H : Heap) (locs : List Loc) (cells slots pc' : Nat) (la : Array Slot), Q v S' → (∀ x, v = some x → zk_okV x) → zk_rets mid pc' v → zk_RH g S' H → zk_MG S' → va_S (zk_A g) s.heap H locs → zk_cs N1 S' cells slots →
      S'.1 = N1 + zk_mc mid → zk_SZ S'.1 = zk_SZ N1 + zk_ms mid → W p l e R s m args below meth c H locs cells slots Z (F0 m pc' la (v.toList.map (zk_enc g)))) →
    ∀ (H : Heap) (locs : List Loc) (cells slots : Nat) (la : Array Slot), zk_LR g la (zk_mL mid) ls → zk_okL ls → zk_okL st → zk_RH g S H → zk_MG S → va_S (zk_A g) s.heap H locs → zk_cs N1 S cells slots →
      W p l e R s m args below meth c H locs cells slots Z (F0 m pc la (st.map (zk_enc g)))
def zk_Pc (g : zk_G) (as : List zk_V) (S : zk_S) : Array Value → State → Prop := fun v U => v = (as.map (zk_enc g)).toArray ∧ zk_okL as ∧ zk_RH g S U.heap ∧ zk_MG S ∧ zk_Kn g U ∧ zk_Od g U U.heap ∧ zk_Ow g U ∧ zk_a0 g + 1 ≤ U.heap.size
def zk_Qc (g : zk_G) (mid : Nat) (S : zk_S) (Q : Option zk_V → zk_S → Prop) : Array Value → State → Outcome → State → Prop := fun _ st oc t =>
  (∃ (v : Option zk_V) (S' : zk_S), oc = .returned (v.map (zk_enc g)) ∧ (∀ x, v = some x → zk_okV x) ∧ Q v S' ∧ zk_RH g S' t.heap ∧ zk_MG S' ∧ S'.1 = S.1 + zk_mc mid ∧ zk_SZ S'.1 = zk_SZ S.1 + zk_ms mid) ∧ va_F (zk_A g) st t
def zk_ws (mid : Nat) : List Cond := .code (zk_yn mid) (zk_cc mid) (zk_mL mid) (zk_rt mid) :: zk_gT
def zk_rm (mid : Nat) : Room := { frames := zk_fr mid, cells := zk_mc mid, slots := zk_ms mid, locals := zk_lo mid }
/-- a method's contract: from the state S, with these arguments -/
def zk_Ct (mid : Nat) (as : List zk_V) (S : zk_S) (Q : Option zk_V → zk_S → Prop) : Prop :=
  ∀ (l : Launch) (g : zk_G), Met l (zk_yn mid) (zk_ws mid) (zk_rm mid) (zk_Pc g as S) (zk_Qc g mid S Q) (zk_mc mid) (zk_ms mid) (zk_A g)

