/-! the walk by computation: all cells are made, the references stand *-/
/-- how many cells there were at the entry: the law makes all, the others none -/
def zk_N1 (mid : Nat) : Nat := 80 - zk_mc mid
def zk_K (mid pc : Nat) (ls st : List zk_V) (μ : zk_M) (Q : Option zk_V → zk_M → Prop) : Prop := zk_Ok mid (zk_N1 mid) pc ls st (80, zk_rho, μ) (fun v S' => ∃ μ', S' = (80, zk_rho, μ') ∧ Q v μ')
def zk_C (mid : Nat) (as : List zk_V) (μ : zk_M) (Q : Option zk_V → zk_M → Prop) : Prop := zk_Ct mid as (80, zk_rho, μ) (fun v S' => ∃ μ', S' = (80, zk_rho, μ') ∧ Q v μ')
def zk_RV (Q : zk_M → Prop) : Option zk_V → zk_M → Prop := fun v μ => match v with
  | none => Q μ
  | _ => False
def zk_RI (Q : Int → zk_M → Prop) : Option zk_V → zk_M → Prop := fun v μ => match v with
  | some (.inl r) => Q r μ
  | _ => False
def zk_RL (Q : Int → zk_M → Prop) : Option zk_V → zk_M → Prop := fun v μ => match v with
  | some (.inr (.inl r)) => Q r μ
  | _ => False
def zk_RR (Q : Nat → zk_M → Prop) : Option zk_V → zk_M → Prop := fun v μ => match v with
  | some (.inr (.inr (.inl r))) => Q r μ
  | _ => False
/-- an instruction of a method: its place, itself, what it links to -/
abbrev zk_E : Type := Nat × Instr × (Nat × Nat × Int × Nat × Nat)
def zk_nl (ls : List zk_V) (i : Nat) : Bool := match i with
  | 0 => true
  | j + 1 => match ls[j]? with
    | some (.inr (.inl _)) => false
    | _ => true
def zk_rhoN (k c : Nat) : Nat := (zk_rhoL.getD k []).getD c 0
def zk_fvN (μ : zk_M) (k t c : Nat) (z : Int) : zk_V := match t with
  | 1 => .inr (.inl (μ k z))
  | 3 => .inr (.inr (.inl (zk_rhoN k c)))
  | _ => .inl (μ k z)
def zk_j (b c : Nat) (K L : Nat → List zk_V → List zk_V → zk_M → Prop) : List zk_V → List zk_V → zk_M → Prop := match b with
  | 0 => L c
  | s + 1 => K s
def zk_if (cnd : Jvm.ClassFile.Cond) (x y : Int) (A B : Prop) : Prop := match cnd with
  | .eq => (x = y → A) ∧ (¬ x = y → B)
  | .ne => (¬ x = y → A) ∧ (x = y → B)
  | .lt => (x < y → A) ∧ (¬ (x < y) → B)
  | .ge => (y ≤ x → A) ∧ (¬ (y ≤ x) → B)
  | .gt => (y < x → A) ∧ (¬ (y < x) → B)
  | .le => (x ≤ y → A) ∧ (¬ (x ≤ y) → B)
def zk_tsw (dflt x : Int) (J : Int → Prop) : List Int → Int → Prop
  | [], _ => J dflt
  | off :: offs, v => if off = dflt then zk_tsw dflt x J offs (v + 1) else (x = v → J off) ∧ (¬ x = v → zk_tsw dflt x J offs (v + 1))
def zk_tgt (pc : Nat) (cs : List zk_E) (off : Int) : Nat := cs.findIdx (fun e => (e.1 : Int) == (pc : Int) + off)
def zk_inv (callee d : Nat) (pc : Nat) (as rest ls : List zk_V) (μ : zk_M) (K L : Nat → List zk_V → List zk_V → zk_M → Prop) : Prop := match d with
  | 0 => zk_C callee as μ (zk_RV fun μ' => K 0 ls rest μ')
  | 1 => zk_C callee as μ (zk_RI fun r μ' => K 0 ls (.inl r :: rest) μ')
  | 2 => zk_C callee as μ (zk_RL fun r μ' => K 0 ls (.inr (.inl r) :: rest) μ')
  | _ => zk_C callee as μ (zk_RR fun r μ' => L (pc + 3) ls (.inr (.inr (.inl r)) :: rest) μ')
def zk_recv (a : Nat) (as : List zk_V) : Bool := match as with
  | .inr (.inr (.inl k)) :: _ => Nat.beq (zk_sh k) a
  | .inr (.inr (.inr n)) :: _ => Nat.beq n 1 && Nat.beq a 16
  | _ => false
def zk_rI' (x : Int) : Prop := -2147483648 ≤ x ∧ x ≤ 2147483647
def zk_rJ' (x : Int) : Prop := -9223372036854775808 ≤ x ∧ x ≤ 9223372036854775807
def zk_stp (e : zk_E) (cs : List zk_E) (K L : Nat → List zk_V → List zk_V → zk_M → Prop) (ls st : List zk_V) (μ : zk_M) (Q : Option zk_V → zk_M → Prop) : Prop := match e with
  | (pc, i, a, b, z, c, d) => match i with
    | .iconst n => K 0 ls (.inl n :: st) μ
    | .bipush n => K 0 ls (.inl n :: st) μ
    | .sipush n => K 0 ls (.inl n :: st) μ
    | .lconst _ => K 0 ls (.inr (.inl z) :: st) μ
    | .aconst_null => K 0 ls (.inr (.inr (.inl 0)) :: st) μ
    | .ldc _ => match d with
      | 0 => K 0 ls (.inl z :: st) μ
      | _ => K 0 ls (.inr (.inr (.inr 1)) :: st) μ
    | .ldc_w _ => K 0 ls (.inl z :: st) μ
    | .ldc2_w _ => K 0 ls (.inr (.inl z) :: st) μ
    | .iload i => match ls[i]? with
      | some (.inl x) => K 0 ls (.inl x :: st) μ
      | _ => False
    | .iload_n i => match ls[i.val]? with
      | some (.inl x) => K 0 ls (.inl x :: st) μ
      | _ => False
    | .lload i => match ls[i]? with
      | some (.inr (.inl x)) => K 0 ls (.inr (.inl x) :: st) μ
      | _ => False
    | .lload_n i => match ls[i.val]? with
      | some (.inr (.inl x)) => K 0 ls (.inr (.inl x) :: st) μ
      | _ => False
    | .aload i => match ls[i]? with
      | some v => cond (zk_isR v) (K 0 ls (v :: st) μ) False
      | _ => False
    | .aload_n i => match ls[i.val]? with
      | some v => cond (zk_isR v) (K 0 ls (v :: st) μ) False
      | _ => False
    | .istore i => match st with
      | .inl x :: st => cond (zk_nl ls i) (K 0 (ls.set i (.inl x)) st μ) False
      | _ => False
    | .istore_n i => match st with
      | .inl x :: st => cond (zk_nl ls i.val) (K 0 (ls.set i.val (.inl x)) st μ) False
      | _ => False
    | .astore i => match st with
      | v :: st => cond (zk_isR v && zk_nl ls i) (K 0 (ls.set i v) st μ) False
      | _ => False
    | .astore_n i => match st with
      | v :: st => cond (zk_isR v && zk_nl ls i.val) (K 0 (ls.set i.val v) st μ) False
      | _ => False
    | .iinc i n => match ls[i]? with
      | some (.inl x) => cond (zk_nl ls i) ((-2147483648 ≤ x + n ∧ x + n ≤ 2147483647) ∧ K 0 (ls.set i (.inl (x + n))) st μ) False
      | _ => False
    | .iadd => match st with
      | .inl y :: .inl x :: st => (-2147483648 ≤ x + y ∧ x + y ≤ 2147483647) ∧ K 0 ls (.inl (x + y) :: st) μ
      | _ => False
    | .isub => match st with
      | .inl y :: .inl x :: st => (-2147483648 ≤ x - y ∧ x - y ≤ 2147483647) ∧ K 0 ls (.inl (x - y) :: st) μ
      | _ => False
    | .imul => match st with
      | .inl y :: .inl x :: st => (-2147483648 ≤ x * y ∧ x * y ≤ 2147483647) ∧ K 0 ls (.inl (x * y) :: st) μ
      | _ => False
    | .idiv => match st with
      | .inl y :: .inl x :: st => (y ≠ 0 ∧ -2147483648 ≤ x.tdiv y ∧ x.tdiv y ≤ 2147483647) ∧ K 0 ls (.inl (x.tdiv y) :: st) μ
      | _ => False
    | .irem => match st with
      | .inl y :: .inl x :: st => (y ≠ 0 ∧ -2147483648 ≤ x.tdiv y ∧ x.tdiv y ≤ 2147483647) ∧ K 0 ls (.inl (x.tmod y) :: st) μ
      | _ => False
    | .ineg => match st with
      | .inl x :: st => (-2147483648 ≤ -x ∧ -x ≤ 2147483647) ∧ K 0 ls (.inl (-x) :: st) μ
      | _ => False
    | .ladd => match st with
      | .inr (.inl y) :: .inr (.inl x) :: st => zk_rJ (x + y) ∧ K 0 ls (.inr (.inl (x + y)) :: st) μ
      | _ => False
    | .lsub => match st with
      | .inr (.inl y) :: .inr (.inl x) :: st => zk_rJ (x - y) ∧ K 0 ls (.inr (.inl (x - y)) :: st) μ
      | _ => False
    | .lmul => match st with
      | .inr (.inl y) :: .inr (.inl x) :: st => zk_rJ (x * y) ∧ K 0 ls (.inr (.inl (x * y)) :: st) μ
      | _ => False
    | .ldiv => match st with
      | .inr (.inl y) :: .inr (.inl x) :: st => (y ≠ 0 ∧ zk_rJ (x.tdiv y)) ∧ K 0 ls (.inr (.inl (x.tdiv y)) :: st) μ
      | _ => False
    | .lneg => match st with
      | .inr (.inl x) :: st => zk_rJ (-x) ∧ K 0 ls (.inr (.inl (-x)) :: st) μ
      | _ => False
    | .iand => match st with
      | .inl y :: .inl x :: st => K 0 ls (.inl (zk_and x y) :: st) μ
      | _ => False
    | .ior => match st with
      | .inl y :: .inl x :: st => K 0 ls (.inl (zk_or x y) :: st) μ
      | _ => False
    | .ixor => match st with
      | .inl y :: .inl x :: st => K 0 ls (.inl (zk_xor x y) :: st) μ
      | _ => False
    | .ishl => match st with
      | .inl y :: .inl x :: st => K 0 ls (.inl (zk_shl x y) :: st) μ
      | _ => False
    | .ishr => match st with
      | .inl y :: .inl x :: st => K 0 ls (.inl (zk_shr x y) :: st) μ
      | _ => False
    | .iushr => match st with
      | .inl y :: .inl x :: st => K 0 ls (.inl (zk_ushr x y) :: st) μ
      | _ => False
    | .lor => match st with
      | .inr (.inl y) :: .inr (.inl x) :: st => K 0 ls (.inr (.inl (zk_lor x y)) :: st) μ
      | _ => False
    | .lshl => match st with
      | .inl y :: .inr (.inl x) :: st => K 0 ls (.inr (.inl (zk_lshl x y)) :: st) μ
      | _ => False
    | .lcmp => match st with
      | .inr (.inl y) :: .inr (.inl x) :: st => K 0 ls (.inl (zk_cmp x y) :: st) μ
      | _ => False
    | .i2l => match st with
      | .inl x :: st => K 0 ls (.inr (.inl x) :: st) μ
      | _ => False
    | .l2i => match st with
      | .inr (.inl x) :: st => (-2147483648 ≤ x ∧ x ≤ 2147483647) ∧ K 0 ls (.inl x :: st) μ
      | _ => False
    | .i2c => match st with
      | .inl x :: st => (0 ≤ x ∧ x ≤ 65535) ∧ K 0 ls (.inl x :: st) μ
      | _ => False
    | .dup => match st with
      | .inl x :: st => K 0 ls (.inl x :: .inl x :: st) μ
      | .inr (.inr v) :: st => K 0 ls (.inr (.inr v) :: .inr (.inr v) :: st) μ
      | _ => False
    | .pop => match st with
      | .inl _ :: st => K 0 ls st μ
      | .inr (.inr _) :: st => K 0 ls st μ
      | _ => False
    | .dup2 => match st with
      | .inl x :: .inr (.inr v) :: st => K 0 ls (.inl x :: .inr (.inr v) :: .inl x :: .inr (.inr v) :: st) μ
      | _ => False
    | .goto _ => zk_j b c K L ls st μ
    | .ifCond cnd _ => match st with
      | .inl x :: st => zk_if cnd x 0 (zk_j b c K L ls st μ) (K 0 ls st μ)
      | _ => False
    | .if_icmp cnd _ => match st with
      | .inl y :: .inl x :: st => zk_if cnd x y (zk_j b c K L ls st μ) (K 0 ls st μ)
      | _ => False
    | .ifnull _ => match st with
      | .inr (.inr (.inl r)) :: st => (r = 0 → zk_j b c K L ls st μ) ∧ (¬ r = 0 → K 0 ls st μ)
      | _ => False
    | .ifnonnull _ => match st with
      | .inr (.inr (.inl r)) :: st => (¬ r = 0 → zk_j b c K L ls st μ) ∧ (r = 0 → K 0 ls st μ)
      | _ => False
    | .tableswitch dflt lo _ offs => match st with
      | .inl x :: st => zk_tsw dflt x (fun off => K (zk_tgt pc cs off) ls st μ) offs.toList lo
      | _ => False
    | .getfield _ => match st with
      | .inr (.inr (.inl k)) :: st => cond (Nat.beq (zk_sh k) b) (K 0 ls (zk_fvN μ k d c z :: st) μ) False
      | _ => False
    | .putfield _ => match d, st with
      | 0, .inl x :: .inr (.inr (.inl k)) :: st => cond (Nat.beq (zk_sh k) b) (K 0 ls st (zk_set μ k z x)) False
      | 1, .inr (.inl x) :: .inr (.inr (.inl k)) :: st => cond (Nat.beq (zk_sh k) b) (K 0 ls st (zk_set μ k z x)) False
      | 2, .inl x :: .inr (.inr (.inl k)) :: st => cond (Nat.beq (zk_sh k) b) ((x = 0 ∨ x = 1) ∧ K 0 ls st (zk_set μ k z x)) False
      | _, _ => False
    | .iaload => match st with
      | .inl i :: .inr (.inr (.inl k)) :: st => cond (Nat.beq (zk_sh k) 100) ((0 ≤ i ∧ i < zk_szI k) ∧ K 0 ls (.inl (μ k i) :: st) μ) False
      | .inl i :: .inr (.inr (.inr n)) :: st => cond (Nat.beq n 2) ((0 ≤ i ∧ i < μ 0 (-1)) ∧ K 0 ls (.inl (μ 0 i) :: st) μ) False
      | _ => False
    | .baload => match st with
      | .inl i :: .inr (.inr (.inl k)) :: st => cond (Nat.beq (zk_sh k) 102) ((0 ≤ i ∧ i < zk_szI k) ∧ K 0 ls (.inl (μ k i) :: st) μ) False
      | _ => False
    | .caload => match st with
      | .inl i :: .inr (.inr (.inl k)) :: st => cond (Nat.beq (zk_sh k) 103) ((0 ≤ i ∧ i < zk_szI k) ∧ K 0 ls (.inl (μ k i) :: st) μ) False
      | _ => False
    | .laload => match st with
      | .inl i :: .inr (.inr (.inl k)) :: st => cond (Nat.beq (zk_sh k) 101) ((0 ≤ i ∧ i < zk_szI k) ∧ K 0 ls (.inr (.inl (μ k i)) :: st) μ) False
      | _ => False
    | .aaload => match st with
      | .inl i :: .inr (.inr (.inl k)) :: st => cond (Nat.beq (zk_sh k) 104) ((0 ≤ i ∧ i < zk_szI k) ∧ K 0 ls (.inr (.inr (.inl (zk_rho k i))) :: st) μ) False
      | _ => False
    | .arraylength => match st with
      | .inr (.inr (.inl k)) :: st => cond (Nat.beq (zk_sh k) 100 || Nat.beq (zk_sh k) 103) (K 0 ls (.inl (zk_szI k) :: st) μ) False
      | .inr (.inr (.inr n)) :: st => cond (Nat.beq n 2) (K 0 ls (.inl (μ 0 (-1)) :: st) μ) False
      | _ => False
    | .iastore => match st with
      | .inl x :: .inl i :: .inr (.inr (.inl k)) :: st => cond (Nat.beq (zk_sh k) 100) ((0 ≤ i ∧ i < zk_szI k) ∧ K 0 ls st (zk_set μ k i x)) False
      | _ => False
    | .lastore => match st with
      | .inr (.inl x) :: .inl i :: .inr (.inr (.inl k)) :: st => cond (Nat.beq (zk_sh k) 101) ((0 ≤ i ∧ i < zk_szI k) ∧ K 0 ls st (zk_set μ k i x)) False
      | _ => False
    | .bastore => match st with
      | .inl x :: .inl i :: .inr (.inr (.inl k)) :: st => cond (Nat.beq (zk_sh k) 102) ((0 ≤ i ∧ i < zk_szI k) ∧ (x = 0 ∨ x = 1) ∧ K 0 ls st (zk_set μ k i x)) False
      | _ => False
    | .castore => match st with
      | .inl x :: .inl i :: .inr (.inr (.inl k)) :: st => cond (Nat.beq (zk_sh k) 103) ((0 ≤ i ∧ i < zk_szI k) ∧ (0 ≤ x ∧ x ≤ 65535) ∧ K 0 ls st (zk_set μ k i x)) False
      | _ => False
    | .invokevirtual _ => cond (Nat.beq (st.take c).length c && (zk_recv a (st.take c).reverse && Nat.ble (zk_catS (st.drop c)) 8)) (zk_inv b d pc (st.take c).reverse (st.drop c) ls μ K L) False
    | .invokestatic _ => match a with
      | 0 => cond (Nat.beq (st.take c).length c && Nat.ble (zk_catS (st.drop c)) 8) (zk_inv b d pc (st.take c).reverse (st.drop c) ls μ K L) False
      | 1 => match st with
        | .inl n :: .inl dp :: .inr (.inr (.inl dst)) :: .inl sp :: .inr (.inr (.inl src)) :: st => cond (Nat.beq (zk_sh src) 100 && (Nat.beq (zk_sh dst) 100 && Nat.ble (zk_catS st) 8)) ((0 ≤ sp ∧ 0 ≤ dp ∧ 0 ≤ n ∧ sp + n ≤ zk_szI src ∧ dp + n ≤ zk_szI dst) ∧ K 0 ls st (zk_cpy μ src sp dst dp n)) False
        | _ => False
      | 2 => match st with
        | .inl y :: .inl x :: st => cond (Nat.ble (zk_catS st) 8) (K 0 ls (.inl (max x y) :: st) μ) False
        | _ => False
      | 3 => match st with
        | .inl y :: .inl x :: st => cond (Nat.ble (zk_catS st) 8) (K 0 ls (.inl (min x y) :: st) μ) False
        | _ => False
      | _ => match st with
        | .inl x :: st => cond (Nat.ble (zk_catS st) 8) ((-x ≤ 2147483647) ∧ K 0 ls (.inl (if 0 ≤ x then x else -x) :: st) μ) False
        | _ => False
    | .ireturn => match d, st with
      | 0, [.inl x] => Q (some (.inl x)) μ
      | 1, [.inl x] => cond (decide (x = 0 ∨ x = 1)) (Q (some (.inl x)) μ) False
      | 2, [.inl x] => (x = 0 ∨ x = 1) ∧ Q (some (.inl x)) μ
      | _, _ => False
    | .lreturn => match st with
      | [.inr (.inl x)] => Q (some (.inr (.inl x))) μ
      | _ => False
    | .areturn => match st with
      | [.inr (.inr (.inl r))] => Q (some (.inr (.inr (.inl r)))) μ
      | _ => False
    | .return_ => match st with
      | [] => Q none μ
      | _ => False
    | _ => False
def zk_wp (mid : Nat) (cuts : List Nat) (Q : Option zk_V → zk_M → Prop) : Nat → List zk_E → List zk_V → List zk_V → zk_M → Prop
  | 0, _, _, _, _ => False
  | _ + 1, [], _, _, _ => False
  | n + 1, e :: cs, ls, st, μ => zk_stp e cs (fun k ls st μ => match cs.drop k with
      | [] => False
      | e' :: cs' => cond (cuts.elem e'.1) (zk_K mid e'.1 ls st μ Q) (zk_wp mid cuts Q n (e' :: cs') ls st μ)) (fun pc ls st μ => zk_K mid pc ls st μ Q) ls st μ Q
/-! what is checked of a method's list, once -/
def zk_pcAt (cs : List zk_E) (k : Nat) (t : Int) : Bool := match cs.drop k with
  | [] => false
  | e :: _ => (e.1 : Int) == t
def zk_chkJ (pc b c : Nat) (cs : List zk_E) (off : Int) : Bool := match b with
  | 0 => (c : Int) == (pc : Int) + off
  | s + 1 => zk_pcAt cs s ((pc : Int) + off)
def zk_rk (r : Option FieldType) : Nat := match r with
  | none => 0
  | some .long => 2
  | some (.object _) => 3
  | _ => 1
def zk_chkC (mid b c d : Nat) (idx : Nat) (recv : Nat) : Bool := (zk_LK.elem (zk_own mid, idx, b) && (Nat.blt b zk_mtab.length && (Nat.beq c (zk_np b + recv) && (Nat.beq d (zk_rk (zk_rt b)) && (Nat.ble (zk_fr b + 1) (zk_fr mid) && Nat.ble (8 + (zk_mL b + 11) + zk_lo b) (zk_lo mid))))))
  && (Nat.beq (zk_mc b) 0 && Nat.beq (zk_ms b) 0)
def zk_chkI (mid : Nat) (e : zk_E) (cs : List zk_E) : Bool := match e with
  | (pc, i, a, b, z, c, d) => match i with
    | .iconst n => decide (-2147483648 ≤ n ∧ n ≤ 2147483647)
    | .bipush n => decide (-2147483648 ≤ n ∧ n ≤ 2147483647) && decide ((Int8.ofInt n).toInt32 = zk_I n)
    | .sipush n => decide (-2147483648 ≤ n ∧ n ≤ 2147483647) && decide ((Int16.ofInt n).toInt32 = zk_I n)
    | .lconst n => decide (z = ((n.val : Nat) : Int))
    | .ldc idx => match d with
      | 0 => zk_CT.elem (zk_own mid, idx, z) && decide (-2147483648 ≤ z ∧ z ≤ 2147483647)
      | _ => Nat.beq (zk_own mid) 10 && Nat.beq idx 60
    | .ldc_w idx => zk_CT.elem (zk_own mid, idx, z) && decide (-2147483648 ≤ z ∧ z ≤ 2147483647)
    | .ldc2_w idx => zk_LT.elem (zk_own mid, idx, z) && decide (-9223372036854775808 ≤ z ∧ z ≤ 9223372036854775807)
    | .istore i => Nat.blt i (zk_mL mid)
    | .istore_n i => Nat.blt i.val (zk_mL mid)
    | .astore i => Nat.blt i (zk_mL mid)
    | .astore_n i => Nat.blt i.val (zk_mL mid)
    | .iinc i _ => Nat.blt i (zk_mL mid)
    | .goto off => zk_chkJ pc b c cs off
    | .ifCond _ off => zk_chkJ pc b c cs off
    | .if_icmp _ off => zk_chkJ pc b c cs off
    | .ifnull off => zk_chkJ pc b c cs off
    | .ifnonnull off => zk_chkJ pc b c cs off
    | .tableswitch dflt lo hi offs => zk_pcAt cs (zk_tgt pc cs dflt) ((pc : Int) + dflt) && offs.toList.all (fun off => zk_pcAt cs (zk_tgt pc cs off) ((pc : Int) + off)) && decide (hi - lo + 1 = (offs.toList.length : Int))
    | .getfield idx => zk_FL.elem (zk_own mid, idx, b, c) && (decide (z = (c : Int)) && Nat.beq (zk_ft b c) d)
    | .putfield idx => zk_FL.elem (zk_own mid, idx, b, c) && (decide (z = (c : Int)) && (Nat.beq (zk_ft b c) d && !(zk_TT b c).2.2.2))
    | .invokevirtual idx => zk_chkC mid b c d idx 1 && (Nat.beq (zk_kd b) 0 && (Nat.beq a (zk_own b) && (Nat.blt a 13 || Nat.beq a 16)))
    | .invokestatic idx => match a with
      | 0 => zk_chkC mid b c d idx 0 && Nat.beq (zk_kd b) 1
      | 1 => zk_AK.elem (zk_own mid, idx) && (Nat.ble 1 (zk_fr mid) && Nat.ble 60 (zk_lo mid))
      | 2 => zk_LK.elem (zk_own mid, idx, 246) && (Nat.ble 1 (zk_fr mid) && Nat.ble 21 (zk_lo mid))
      | 3 => zk_LK.elem (zk_own mid, idx, 247) && (Nat.ble 1 (zk_fr mid) && Nat.ble 21 (zk_lo mid))
      | _ => zk_LK.elem (zk_own mid, idx, 245) && (Nat.ble 1 (zk_fr mid) && Nat.ble 21 (zk_lo mid))
    | .ireturn => match d with
      | 0 => decide (zk_rt mid = some .int)
      | _ => decide (zk_rt mid = some .boolean)
    | .lreturn => decide (zk_rt mid = some .long)
    | .areturn => Nat.beq (zk_rk (zk_rt mid)) 3
    | .return_ => decide (zk_rt mid = none)
    | _ => true
def zk_len (i : Instr) (len : Nat) : Nat := match i with
  | .tableswitch .. => len
  | .bipush _ => 2
  | .ldc _ => 2
  | .iload _ => 2
  | .lload _ => 2
  | .aload _ => 2
  | .istore _ => 2
  | .astore _ => 2
  | .sipush _ => 3
  | .ldc_w _ => 3
  | .ldc2_w _ => 3
  | .iinc _ _ => 3
  | .goto _ => 3
  | .ifCond _ _ => 3
  | .if_icmp _ _ => 3
  | .ifnull _ => 3
  | .ifnonnull _ => 3
  | .getfield _ => 3
  | .putfield _ => 3
  | .invokevirtual _ => 3
  | .invokestatic _ => 3
  | _ => 1
def zk_chkE (mid : Nat) (e : zk_E) (cs : List zk_E) : Bool := (match decode (zk_cc mid) e.1 with
    | .ok (i, len) => (decide (i = e.2.1) && Nat.beq len (zk_len i len)) && (zk_pcAt cs 0 ((e.1 + len : Nat) : Int) || cs.isEmpty)
    | .error _ => false) && zk_chkI mid e cs
def zk_chk (mid : Nat) : List zk_E → Bool
  | [] => true
  | e :: cs => zk_chkE mid e cs && zk_chk mid cs
