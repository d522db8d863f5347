/-! rules: arithmetic, conversions, the stack, branches -/
theorem zk_r_tmod {x y : Int} (hx : zk_rI x) (hy : zk_rI y) (h0 : y ≠ 0) : zk_rI (x.tmod y) := by
  have h1 := Int.tmod_lt_of_pos x (b := (y.natAbs : Int)) (by omega)
  have h2 : x.tmod y = x.tmod (y.natAbs : Int) := by
    rcases Int.natAbs_eq y with h | h
    · rw [← h]
    · rw [h, Int.tmod_neg]; simp
  have h3 := Int.tmod_lt_of_pos (-x) (b := (y.natAbs : Int)) (by omega)
  rw [Int.neg_tmod] at h3
  unfold zk_rI at *
  rw [h2]
  omega

section zk_rules2
variable {mid N1 pc : Nat} {ls st : List zk_V} {S : zk_S} {Q : Option zk_V → zk_S → Prop}
theorem zk_r_iadd {x y : Int} (hd : decode (zk_cc mid) pc = .ok (.iadd, 1)) (hr : zk_rI (x + y)) (k : zk_Ok mid N1 (pc + 1) ls (.inl (x + y) :: st) S Q) : zk_Ok mid N1 pc ls (.inl (y) :: .inl (x) :: st) S Q :=
  zk_go k (fun _ h _ => zk_ok_c.mpr ⟨hr, (zk_ok_c.mp (zk_ok_c.mp h).2).2⟩) (fun g p l e R s m args below meth c H locs cells slots Z la C hl h1 h2 _ _ _ w => lv_iadd C.1 C.2.1 hd (by rw [zk_I_add]; exact w))
theorem zk_r_isub {x y : Int} (hd : decode (zk_cc mid) pc = .ok (.isub, 1)) (hr : zk_rI (x - y)) (k : zk_Ok mid N1 (pc + 1) ls (.inl (x - y) :: st) S Q) : zk_Ok mid N1 pc ls (.inl (y) :: .inl (x) :: st) S Q :=
  zk_go k (fun _ h _ => zk_ok_c.mpr ⟨hr, (zk_ok_c.mp (zk_ok_c.mp h).2).2⟩) (fun g p l e R s m args below meth c H locs cells slots Z la C hl h1 h2 _ _ _ w => lv_isub C.1 C.2.1 hd (by rw [zk_I_sub]; exact w))
theorem zk_r_imul {x y : Int} (hd : decode (zk_cc mid) pc = .ok (.imul, 1)) (hr : zk_rI (x * y)) (k : zk_Ok mid N1 (pc + 1) ls (.inl (x * y) :: st) S Q) : zk_Ok mid N1 pc ls (.inl (y) :: .inl (x) :: st) S Q :=
  zk_go k (fun _ h _ => zk_ok_c.mpr ⟨hr, (zk_ok_c.mp (zk_ok_c.mp h).2).2⟩) (fun g p l e R s m args below meth c H locs cells slots Z la C hl h1 h2 _ _ _ w => lv_imul C.1 C.2.1 hd (by rw [zk_I_mul]; exact w))
theorem zk_r_ladd {x y : Int} (hd : decode (zk_cc mid) pc = .ok (.ladd, 1)) (hr : zk_rJ (x + y)) (k : zk_Ok mid N1 (pc + 1) ls (.inr (.inl (x + y)) :: st) S Q) : zk_Ok mid N1 pc ls (.inr (.inl (y)) :: .inr (.inl (x)) :: st) S Q :=
  zk_go k (fun _ h _ => zk_ok_c.mpr ⟨hr, (zk_ok_c.mp (zk_ok_c.mp h).2).2⟩) (fun g p l e R s m args below meth c H locs cells slots Z la C hl h1 h2 _ _ _ w => lv_ladd C.1 C.2.1 hd (by rw [zk_J_add]; exact w))
theorem zk_r_lsub {x y : Int} (hd : decode (zk_cc mid) pc = .ok (.lsub, 1)) (hr : zk_rJ (x - y)) (k : zk_Ok mid N1 (pc + 1) ls (.inr (.inl (x - y)) :: st) S Q) : zk_Ok mid N1 pc ls (.inr (.inl (y)) :: .inr (.inl (x)) :: st) S Q :=
  zk_go k (fun _ h _ => zk_ok_c.mpr ⟨hr, (zk_ok_c.mp (zk_ok_c.mp h).2).2⟩) (fun g p l e R s m args below meth c H locs cells slots Z la C hl h1 h2 _ _ _ w => lv_lsub C.1 C.2.1 hd (by rw [zk_J_sub]; exact w))
theorem zk_r_lmul {x y : Int} (hd : decode (zk_cc mid) pc = .ok (.lmul, 1)) (hr : zk_rJ (x * y)) (k : zk_Ok mid N1 (pc + 1) ls (.inr (.inl (x * y)) :: st) S Q) : zk_Ok mid N1 pc ls (.inr (.inl (y)) :: .inr (.inl (x)) :: st) S Q :=
  zk_go k (fun _ h _ => zk_ok_c.mpr ⟨hr, (zk_ok_c.mp (zk_ok_c.mp h).2).2⟩) (fun g p l e R s m args below meth c H locs cells slots Z la C hl h1 h2 _ _ _ w => lv_lmul C.1 C.2.1 hd (by rw [zk_J_mul]; exact w))
theorem zk_r_idiv {x y : Int} (hd : decode (zk_cc mid) pc = .ok (.idiv, 1)) (hy : y ≠ 0) (hr : zk_rI (x.tdiv y)) (k : zk_Ok mid N1 (pc + 1) ls (.inl (x.tdiv y) :: st) S Q) : zk_Ok mid N1 pc ls (.inl (y) :: .inl (x) :: st) S Q :=
  zk_go k (fun _ h _ => zk_ok_c.mpr ⟨hr, (zk_ok_c.mp (zk_ok_c.mp h).2).2⟩) (fun g p l e R s m args below meth c H locs cells slots Z la C hl h1 h2 _ _ _ w => by
    have hyr := (zk_ok_c.mp h2).1
    have hxr := (zk_ok_c.mp (zk_ok_c.mp h2).2).1
    have hne : ¬ zk_I y = 0 := fun z => hy ((zk_I_inj hyr zk_r0).mp z)
    exact lv_idiv C.1 C.2.1 hd hne (by rw [zk_I_div hxr hyr hr]; exact w))
theorem zk_r_irem {x y : Int} (hd : decode (zk_cc mid) pc = .ok (.irem, 1)) (hy : y ≠ 0) (hr : zk_rI (x.tdiv y)) (k : zk_Ok mid N1 (pc + 1) ls (.inl (x.tmod y) :: st) S Q) : zk_Ok mid N1 pc ls (.inl (y) :: .inl (x) :: st) S Q :=
  zk_go k (fun _ h _ => zk_ok_c.mpr ⟨zk_r_tmod (zk_ok_c.mp (zk_ok_c.mp h).2).1 (zk_ok_c.mp h).1 hy, (zk_ok_c.mp (zk_ok_c.mp h).2).2⟩) (fun g p l e R s m args below meth c H locs cells slots Z la C hl h1 h2 _ _ _ w => by
    have hyr := (zk_ok_c.mp h2).1
    have hxr := (zk_ok_c.mp (zk_ok_c.mp h2).2).1
    have hne : ¬ zk_I y = 0 := fun z => hy ((zk_I_inj hyr zk_r0).mp z)
    exact lv_irem C.1 C.2.1 hd hne (by rw [zk_I_rem hxr hyr hr]; exact w))
theorem zk_r_ldiv {x y : Int} (hd : decode (zk_cc mid) pc = .ok (.ldiv, 1)) (hy : y ≠ 0) (hr : zk_rJ (x.tdiv y)) (k : zk_Ok mid N1 (pc + 1) ls (.inr (.inl (x.tdiv y)) :: st) S Q) : zk_Ok mid N1 pc ls (.inr (.inl (y)) :: .inr (.inl (x)) :: st) S Q :=
  zk_go k (fun _ h _ => zk_ok_c.mpr ⟨hr, (zk_ok_c.mp (zk_ok_c.mp h).2).2⟩) (fun g p l e R s m args below meth c H locs cells slots Z la C hl h1 h2 _ _ _ w => by
    have hyr := (zk_ok_c.mp h2).1
    have hxr := (zk_ok_c.mp (zk_ok_c.mp h2).2).1
    have hne : ¬ zk_J y = 0 := fun z => hy ((zk_J_inj hyr zk_rJ0).mp z)
    exact lv_ldiv C.1 C.2.1 hd hne (by rw [zk_J_div hxr hyr hr]; exact w))
theorem zk_r_ineg {x : Int} (hd : decode (zk_cc mid) pc = .ok (.ineg, 1)) (hr : zk_rI (-x)) (k : zk_Ok mid N1 (pc + 1) ls (.inl (-x) :: st) S Q) : zk_Ok mid N1 pc ls (.inl (x) :: st) S Q :=
  zk_go k (fun _ h _ => zk_ok_c.mpr ⟨hr, (zk_ok_c.mp h).2⟩) (fun g p l e R s m args below meth c H locs cells slots Z la C hl h1 h2 _ _ _ w => lv_ineg C.1 C.2.1 hd (by rw [zk_I_neg]; exact w))
theorem zk_r_lneg {x : Int} (hd : decode (zk_cc mid) pc = .ok (.lneg, 1)) (hr : zk_rJ (-x)) (k : zk_Ok mid N1 (pc + 1) ls (.inr (.inl (-x)) :: st) S Q) : zk_Ok mid N1 pc ls (.inr (.inl (x)) :: st) S Q :=
  zk_go k (fun _ h _ => zk_ok_c.mpr ⟨hr, (zk_ok_c.mp h).2⟩) (fun g p l e R s m args below meth c H locs cells slots Z la C hl h1 h2 _ _ _ w => lv_lneg C.1 C.2.1 hd (by rw [zk_J_neg]; exact w))
theorem zk_r_iand {x y : Int} (hd : decode (zk_cc mid) pc = .ok (.iand, 1)) (k : zk_Ok mid N1 (pc + 1) ls (.inl (zk_and x y) :: st) S Q) : zk_Ok mid N1 pc ls (.inl y :: .inl x :: st) S Q :=
  zk_go k (fun _ h _ => zk_ok_c.mpr ⟨zk_rI_of _, (zk_ok_c.mp (zk_ok_c.mp h).2).2⟩) (fun g p l e R s m args below meth c H locs cells slots Z la C hl h1 h2 _ _ _ w => lv_iand C.1 C.2.1 hd (by have w2 := w; simp only [List.map_cons, zk_enc, zk_and, zk_I_of] at w2; exact w2))
theorem zk_r_ior {x y : Int} (hd : decode (zk_cc mid) pc = .ok (.ior, 1)) (k : zk_Ok mid N1 (pc + 1) ls (.inl (zk_or x y) :: st) S Q) : zk_Ok mid N1 pc ls (.inl y :: .inl x :: st) S Q :=
  zk_go k (fun _ h _ => zk_ok_c.mpr ⟨zk_rI_of _, (zk_ok_c.mp (zk_ok_c.mp h).2).2⟩) (fun g p l e R s m args below meth c H locs cells slots Z la C hl h1 h2 _ _ _ w => lv_ior C.1 C.2.1 hd (by have w2 := w; simp only [List.map_cons, zk_enc, zk_or, zk_I_of] at w2; exact w2))
theorem zk_r_ixor {x y : Int} (hd : decode (zk_cc mid) pc = .ok (.ixor, 1)) (k : zk_Ok mid N1 (pc + 1) ls (.inl (zk_xor x y) :: st) S Q) : zk_Ok mid N1 pc ls (.inl y :: .inl x :: st) S Q :=
  zk_go k (fun _ h _ => zk_ok_c.mpr ⟨zk_rI_of _, (zk_ok_c.mp (zk_ok_c.mp h).2).2⟩) (fun g p l e R s m args below meth c H locs cells slots Z la C hl h1 h2 _ _ _ w => lv_ixor C.1 C.2.1 hd (by have w2 := w; simp only [List.map_cons, zk_enc, zk_xor, zk_I_of] at w2; exact w2))
theorem zk_r_ishl {x y : Int} (hd : decode (zk_cc mid) pc = .ok (.ishl, 1)) (k : zk_Ok mid N1 (pc + 1) ls (.inl (zk_shl x y) :: st) S Q) : zk_Ok mid N1 pc ls (.inl y :: .inl x :: st) S Q :=
  zk_go k (fun _ h _ => zk_ok_c.mpr ⟨zk_rI_of _, (zk_ok_c.mp (zk_ok_c.mp h).2).2⟩) (fun g p l e R s m args below meth c H locs cells slots Z la C hl h1 h2 _ _ _ w => lv_ishl C.1 C.2.1 hd (by have w2 := w; simp only [List.map_cons, zk_enc, zk_shl, zk_I_of] at w2; exact w2))
theorem zk_r_ishr {x y : Int} (hd : decode (zk_cc mid) pc = .ok (.ishr, 1)) (k : zk_Ok mid N1 (pc + 1) ls (.inl (zk_shr x y) :: st) S Q) : zk_Ok mid N1 pc ls (.inl y :: .inl x :: st) S Q :=
  zk_go k (fun _ h _ => zk_ok_c.mpr ⟨zk_rI_of _, (zk_ok_c.mp (zk_ok_c.mp h).2).2⟩) (fun g p l e R s m args below meth c H locs cells slots Z la C hl h1 h2 _ _ _ w => lv_ishr C.1 C.2.1 hd (by have w2 := w; simp only [List.map_cons, zk_enc, zk_shr, zk_I_of] at w2; exact w2))
theorem zk_r_iushr {x y : Int} (hd : decode (zk_cc mid) pc = .ok (.iushr, 1)) (k : zk_Ok mid N1 (pc + 1) ls (.inl (zk_ushr x y) :: st) S Q) : zk_Ok mid N1 pc ls (.inl y :: .inl x :: st) S Q :=
  zk_go k (fun _ h _ => zk_ok_c.mpr ⟨zk_rI_of _, (zk_ok_c.mp (zk_ok_c.mp h).2).2⟩) (fun g p l e R s m args below meth c H locs cells slots Z la C hl h1 h2 _ _ _ w => lv_iushr C.1 C.2.1 hd rfl (by have w2 := w; simp only [List.map_cons, zk_enc, zk_ushr, zk_I_of] at w2; exact w2))
theorem zk_r_lor {x y : Int} (hd : decode (zk_cc mid) pc = .ok (.lor, 1)) (k : zk_Ok mid N1 (pc + 1) ls (.inr (.inl (zk_lor x y)) :: st) S Q) : zk_Ok mid N1 pc ls (.inr (.inl y) :: .inr (.inl x) :: st) S Q :=
  zk_go k (fun _ h _ => zk_ok_c.mpr ⟨zk_rJ_of _, (zk_ok_c.mp (zk_ok_c.mp h).2).2⟩) (fun g p l e R s m args below meth c H locs cells slots Z la C hl h1 h2 _ _ _ w => lv_lor C.1 C.2.1 hd (by have w2 := w; simp only [List.map_cons, zk_enc, zk_lor, zk_J_of] at w2; exact w2))
theorem zk_r_lshl {x y : Int} (hd : decode (zk_cc mid) pc = .ok (.lshl, 1)) (k : zk_Ok mid N1 (pc + 1) ls (.inr (.inl (zk_lshl x y)) :: st) S Q) : zk_Ok mid N1 pc ls (.inl y :: .inr (.inl x) :: st) S Q :=
  zk_go k (fun _ h _ => zk_ok_c.mpr ⟨zk_rJ_of _, (zk_ok_c.mp (zk_ok_c.mp h).2).2⟩) (fun g p l e R s m args below meth c H locs cells slots Z la C hl h1 h2 _ _ _ w => lv_lshl C.1 C.2.1 hd rfl (by have w2 := w; simp only [List.map_cons, zk_enc, zk_lshl, zk_J_of] at w2; exact w2))
theorem zk_r_lcmp {x y : Int} (hd : decode (zk_cc mid) pc = .ok (.lcmp, 1)) (k : zk_Ok mid N1 (pc + 1) ls (.inl (zk_cmp x y) :: st) S Q) : zk_Ok mid N1 pc ls (.inr (.inl y) :: .inr (.inl x) :: st) S Q :=
  zk_go k (fun _ h _ => zk_ok_c.mpr ⟨zk_rI_cmp _ _, (zk_ok_c.mp (zk_ok_c.mp h).2).2⟩) (fun g p l e R s m args below meth c H locs cells slots Z la C hl h1 h2 _ _ _ w => W.lcmp C.1 C.2.1 hd (by rw [zk_cmp_eq (zk_ok_c.mp (zk_ok_c.mp h2).2).1 (zk_ok_c.mp h2).1]; exact w))
theorem zk_r_i2l {x : Int} (hd : decode (zk_cc mid) pc = .ok (.i2l, 1)) (k : zk_Ok mid N1 (pc + 1) ls (.inr (.inl x) :: st) S Q) : zk_Ok mid N1 pc ls (.inl x :: st) S Q :=
  zk_go k (fun _ h _ => zk_ok_c.mpr ⟨zk_rIJ (zk_ok_c.mp h).1, (zk_ok_c.mp h).2⟩) (fun g p l e R s m args below meth c H locs cells slots Z la C hl h1 h2 _ _ _ w => lv_i2l C.1 C.2.1 hd (zk_ilong (zk_ok_c.mp h2).1) w)
theorem zk_r_l2i {x : Int} (hd : decode (zk_cc mid) pc = .ok (.l2i, 1)) (hr : zk_rI x) (k : zk_Ok mid N1 (pc + 1) ls (.inl x :: st) S Q) : zk_Ok mid N1 pc ls (.inr (.inl x) :: st) S Q :=
  zk_go k (fun _ h _ => zk_ok_c.mpr ⟨hr, (zk_ok_c.mp h).2⟩) (fun g p l e R s m args below meth c H locs cells slots Z la C hl h1 h2 _ _ _ w => lv_l2i C.1 C.2.1 hd (zk_lint hr) w)
theorem zk_chr {x : Int} (h0 : 0 ≤ x) (h1 : x ≤ 65535) : ((zk_I x).toUInt32 % 65536).toInt32 = zk_I x := by
  have hr : zk_rI x := by unfold zk_rI; omega
  have e : zk_I x = nI x.toNat := by
    apply Int32.toInt_inj.mp
    rw [zk_I_toInt hr, nI_toInt (by omega)]
    omega
  rw [e, pk_char]
  congr 1
  rw [pk_tn (by omega)]
  omega
theorem zk_r_i2c {x : Int} (hd : decode (zk_cc mid) pc = .ok (.i2c, 1)) (h0 : 0 ≤ x) (h9 : x ≤ 65535) (k : zk_Ok mid N1 (pc + 1) ls (.inl x :: st) S Q) : zk_Ok mid N1 pc ls (.inl x :: st) S Q :=
  zk_go k (fun _ h _ => h) (fun g p l e R s m args below meth c H locs cells slots Z la C hl h1 h2 _ _ _ w => lv_i2c C.1 C.2.1 hd (zk_chr h0 h9) w)
theorem zk_cat1 {g : zk_G} {v : zk_V} (hv : ∀ x, v ≠ .inr (.inl x)) : (zk_enc g v).category = 1 := by
  match v, hv with
  | .inl x, _ => rfl
  | .inr (.inl x), h => exact absurd rfl (h x)
  | .inr (.inr (.inl 0)), _ => rfl
  | .inr (.inr (.inl (k + 1))), _ => rfl
  | .inr (.inr (.inr k)), _ => rfl
theorem zk_r_dup {v : zk_V} (hd : decode (zk_cc mid) pc = .ok (.dup, 1)) (hv : ∀ x, v ≠ .inr (.inl x)) (k : zk_Ok mid N1 (pc + 1) ls (v :: v :: st) S Q) : zk_Ok mid N1 pc ls (v :: st) S Q :=
  zk_go k (fun _ h _ => zk_ok_c.mpr ⟨(zk_ok_c.mp h).1, h⟩) (fun g p l e R s m args below meth c H locs cells slots Z la C hl h1 h2 _ _ _ w => lv_dup C.1 C.2.1 hd (zk_cat1 hv) w)
theorem zk_r_pop {v : zk_V} (hd : decode (zk_cc mid) pc = .ok (.pop, 1)) (hv : ∀ x, v ≠ .inr (.inl x)) (k : zk_Ok mid N1 (pc + 1) ls st S Q) : zk_Ok mid N1 pc ls (v :: st) S Q :=
  zk_go k (fun _ h _ => (zk_ok_c.mp h).2) (fun g p l e R s m args below meth c H locs cells slots Z la C hl h1 h2 _ _ _ w => lv_pop C.1 C.2.1 hd (zk_cat1 hv) w)
theorem zk_r_dup2 {v u : zk_V} (hd : decode (zk_cc mid) pc = .ok (.dup2, 1)) (hv : ∀ x, v ≠ .inr (.inl x)) (hu : ∀ x, u ≠ .inr (.inl x)) (k : zk_Ok mid N1 (pc + 1) ls (v :: u :: v :: u :: st) S Q) : zk_Ok mid N1 pc ls (v :: u :: st) S Q :=
  zk_go k (fun _ h _ => zk_ok_c.mpr ⟨(zk_ok_c.mp h).1, zk_ok_c.mpr ⟨(zk_ok_c.mp (zk_ok_c.mp h).2).1, h⟩⟩) (fun g p l e R s m args below meth c H locs cells slots Z la C hl h1 h2 _ _ _ w => lv_dup2_11 C.1 C.2.1 hd (zk_cat1 hv) (zk_cat1 hu) w)
theorem zk_r_goto {off : Int} {tgt : Nat} (hd : decode (zk_cc mid) pc = .ok (.goto off, 3)) (ht : (pc : Int) + off = (tgt : Int)) (k : zk_Ok mid N1 tgt ls st S Q) : zk_Ok mid N1 pc ls st S Q :=
  zk_go k (fun _ h _ => h) (fun g p l e R s m args below meth c H locs cells slots Z la C hl h1 h2 _ _ _ w => lv_goto C.1 C.2.1 hd ht w)
theorem zk_br {mid N1 pc p1 p2 : Nat} {ls st st' : List zk_V} {S : zk_S} {Q : Option zk_V → zk_S → Prop} {b : Prop} (k1 : b → zk_Ok mid N1 p1 ls st' S Q) (k2 : ¬ b → zk_Ok mid N1 p2 ls st' S Q) (hok : zk_okL st → zk_okL st')
    (hw : ∀ (g : zk_G) (p : Program) (l : Launch) (e : Env) (R : Room) (s : State) (m : MethodId) (args : Array Value) (below : List Frame) (meth : Method) (c : Code) (H : Heap) (locs : List Loc) (cells slots : Nat) (Z : State → Prop) (la : Array Slot), zk_Cx g mid p R s m args meth c → zk_okL st →
      (b → W p l e R s m args below meth c H locs cells slots Z (F0 m p1 la (st'.map (zk_enc g)))) → (¬ b → W p l e R s m args below meth c H locs cells slots Z (F0 m p2 la (st'.map (zk_enc g)))) → W p l e R s m args below meth c H locs cells slots Z (F0 m pc la (st.map (zk_enc g)))) : zk_Ok mid N1 pc ls st S Q := by
  intro g p l e R s m args below meth c Z C hr H locs cells slots la hl h1 h2 hR hM hS hc
  exact hw g p l e R s m args below meth c H locs cells slots Z la C h2 (fun hb => k1 hb g p l e R s m args below meth c Z C hr H locs cells slots la hl h1 (hok h2) hR hM hS hc) (fun hb => k2 hb g p l e R s m args below meth c Z C hr H locs cells slots la hl h1 (hok h2) hR hM hS hc)
theorem zk_r_if_eq {x : Int} {off : Int} {tgt : Nat} (hd : decode (zk_cc mid) pc = .ok (.ifCond .eq off, 3)) (ht : (pc : Int) + off = (tgt : Int)) (k1 : x = 0 → zk_Ok mid N1 tgt ls st S Q) (k2 : ¬ x = 0 → zk_Ok mid N1 (pc + 3) ls st S Q) : zk_Ok mid N1 pc ls (.inl x :: st) S Q :=
  zk_br (b := x = 0) k1 k2 (fun h => (zk_ok_c.mp h).2) (fun g p l e R s m args below meth c H locs cells slots Z la C h2 w1 w2 => by
    have hx : zk_rI x := (zk_ok_c.mp h2).1
    have hy : zk_rI 0 := zk_r0
    exact lv_if_eq C.1 C.2.1 hd ht (fun z => w1 ((zk_I_inj hx hy).mp z)) (fun z => w2 (fun q => z ((zk_I_inj hx hy).mpr q))))
theorem zk_r_icmp_eq {x y : Int} {off : Int} {tgt : Nat} (hd : decode (zk_cc mid) pc = .ok (.if_icmp .eq off, 3)) (ht : (pc : Int) + off = (tgt : Int)) (k1 : x = y → zk_Ok mid N1 tgt ls st S Q) (k2 : ¬ x = y → zk_Ok mid N1 (pc + 3) ls st S Q) : zk_Ok mid N1 pc ls (.inl y :: .inl x :: st) S Q :=
  zk_br (b := x = y) k1 k2 (fun h => (zk_ok_c.mp (zk_ok_c.mp h).2).2) (fun g p l e R s m args below meth c H locs cells slots Z la C h2 w1 w2 => by
    have hx : zk_rI x := (zk_ok_c.mp (zk_ok_c.mp h2).2).1
    have hy : zk_rI y := (zk_ok_c.mp h2).1
    exact lv_icmp_eq C.1 C.2.1 hd ht (fun z => w1 ((zk_I_inj hx hy).mp z)) (fun z => w2 (fun q => z ((zk_I_inj hx hy).mpr q))))
theorem zk_r_if_ne {x : Int} {off : Int} {tgt : Nat} (hd : decode (zk_cc mid) pc = .ok (.ifCond .ne off, 3)) (ht : (pc : Int) + off = (tgt : Int)) (k1 : ¬ x = 0 → zk_Ok mid N1 tgt ls st S Q) (k2 : x = 0 → zk_Ok mid N1 (pc + 3) ls st S Q) : zk_Ok mid N1 pc ls (.inl x :: st) S Q :=
  zk_br (b := ¬ x = 0) k1 (fun h => k2 (Decidable.not_not.mp h)) (fun h => (zk_ok_c.mp h).2) (fun g p l e R s m args below meth c H locs cells slots Z la C h2 w1 w2 => by
    have hx : zk_rI x := (zk_ok_c.mp h2).1
    have hy : zk_rI 0 := zk_r0
    exact lv_if_ne C.1 C.2.1 hd ht (fun z => w1 (((not_congr (zk_I_inj hx hy))).mp z)) (fun z => w2 (fun q => q ((zk_I_inj hx hy).mp z))))
theorem zk_r_icmp_ne {x y : Int} {off : Int} {tgt : Nat} (hd : decode (zk_cc mid) pc = .ok (.if_icmp .ne off, 3)) (ht : (pc : Int) + off = (tgt : Int)) (k1 : ¬ x = y → zk_Ok mid N1 tgt ls st S Q) (k2 : x = y → zk_Ok mid N1 (pc + 3) ls st S Q) : zk_Ok mid N1 pc ls (.inl y :: .inl x :: st) S Q :=
  zk_br (b := ¬ x = y) k1 (fun h => k2 (Decidable.not_not.mp h)) (fun h => (zk_ok_c.mp (zk_ok_c.mp h).2).2) (fun g p l e R s m args below meth c H locs cells slots Z la C h2 w1 w2 => by
    have hx : zk_rI x := (zk_ok_c.mp (zk_ok_c.mp h2).2).1
    have hy : zk_rI y := (zk_ok_c.mp h2).1
    exact lv_icmp_ne C.1 C.2.1 hd ht (fun z => w1 (((not_congr (zk_I_inj hx hy))).mp z)) (fun z => w2 (fun q => q ((zk_I_inj hx hy).mp z))))
theorem zk_r_if_lt {x : Int} {off : Int} {tgt : Nat} (hd : decode (zk_cc mid) pc = .ok (.ifCond .lt off, 3)) (ht : (pc : Int) + off = (tgt : Int)) (k1 : x < 0 → zk_Ok mid N1 tgt ls st S Q) (k2 : ¬ (x < 0) → zk_Ok mid N1 (pc + 3) ls st S Q) : zk_Ok mid N1 pc ls (.inl x :: st) S Q :=
  zk_br (b := x < 0) k1 k2 (fun h => (zk_ok_c.mp h).2) (fun g p l e R s m args below meth c H locs cells slots Z la C h2 w1 w2 => by
    have hx : zk_rI x := (zk_ok_c.mp h2).1
    have hy : zk_rI 0 := zk_r0
    exact lv_if_lt C.1 C.2.1 hd ht (fun z => w1 ((zk_I_lt hx hy).mp z)) (fun z => w2 (fun q => z ((zk_I_lt hx hy).mpr q))))
theorem zk_r_icmp_lt {x y : Int} {off : Int} {tgt : Nat} (hd : decode (zk_cc mid) pc = .ok (.if_icmp .lt off, 3)) (ht : (pc : Int) + off = (tgt : Int)) (k1 : x < y → zk_Ok mid N1 tgt ls st S Q) (k2 : ¬ (x < y) → zk_Ok mid N1 (pc + 3) ls st S Q) : zk_Ok mid N1 pc ls (.inl y :: .inl x :: st) S Q :=
  zk_br (b := x < y) k1 k2 (fun h => (zk_ok_c.mp (zk_ok_c.mp h).2).2) (fun g p l e R s m args below meth c H locs cells slots Z la C h2 w1 w2 => by
    have hx : zk_rI x := (zk_ok_c.mp (zk_ok_c.mp h2).2).1
    have hy : zk_rI y := (zk_ok_c.mp h2).1
    exact lv_icmp_lt C.1 C.2.1 hd ht (fun z => w1 ((zk_I_lt hx hy).mp z)) (fun z => w2 (fun q => z ((zk_I_lt hx hy).mpr q))))
theorem zk_r_if_ge {x : Int} {off : Int} {tgt : Nat} (hd : decode (zk_cc mid) pc = .ok (.ifCond .ge off, 3)) (ht : (pc : Int) + off = (tgt : Int)) (k1 : 0 ≤ x → zk_Ok mid N1 tgt ls st S Q) (k2 : ¬ (0 ≤ x) → zk_Ok mid N1 (pc + 3) ls st S Q) : zk_Ok mid N1 pc ls (.inl x :: st) S Q :=
  zk_br (b := 0 ≤ x) k1 k2 (fun h => (zk_ok_c.mp h).2) (fun g p l e R s m args below meth c H locs cells slots Z la C h2 w1 w2 => by
    have hx : zk_rI x := (zk_ok_c.mp h2).1
    have hy : zk_rI 0 := zk_r0
    exact lv_if_ge C.1 C.2.1 hd ht (fun z => w1 ((zk_I_le hy hx).mp z)) (fun z => w2 (fun q => z ((zk_I_le hy hx).mpr q))))
theorem zk_r_icmp_ge {x y : Int} {off : Int} {tgt : Nat} (hd : decode (zk_cc mid) pc = .ok (.if_icmp .ge off, 3)) (ht : (pc : Int) + off = (tgt : Int)) (k1 : y ≤ x → zk_Ok mid N1 tgt ls st S Q) (k2 : ¬ (y ≤ x) → zk_Ok mid N1 (pc + 3) ls st S Q) : zk_Ok mid N1 pc ls (.inl y :: .inl x :: st) S Q :=
  zk_br (b := y ≤ x) k1 k2 (fun h => (zk_ok_c.mp (zk_ok_c.mp h).2).2) (fun g p l e R s m args below meth c H locs cells slots Z la C h2 w1 w2 => by
    have hx : zk_rI x := (zk_ok_c.mp (zk_ok_c.mp h2).2).1
    have hy : zk_rI y := (zk_ok_c.mp h2).1
    exact lv_icmp_ge C.1 C.2.1 hd ht (fun z => w1 ((zk_I_le hy hx).mp z)) (fun z => w2 (fun q => z ((zk_I_le hy hx).mpr q))))
theorem zk_r_if_gt {x : Int} {off : Int} {tgt : Nat} (hd : decode (zk_cc mid) pc = .ok (.ifCond .gt off, 3)) (ht : (pc : Int) + off = (tgt : Int)) (k1 : 0 < x → zk_Ok mid N1 tgt ls st S Q) (k2 : ¬ (0 < x) → zk_Ok mid N1 (pc + 3) ls st S Q) : zk_Ok mid N1 pc ls (.inl x :: st) S Q :=
  zk_br (b := 0 < x) k1 k2 (fun h => (zk_ok_c.mp h).2) (fun g p l e R s m args below meth c H locs cells slots Z la C h2 w1 w2 => by
    have hx : zk_rI x := (zk_ok_c.mp h2).1
    have hy : zk_rI 0 := zk_r0
    exact lv_if_gt C.1 C.2.1 hd ht (fun z => w1 ((zk_I_lt hy hx).mp z)) (fun z => w2 (fun q => z ((zk_I_lt hy hx).mpr q))))
theorem zk_r_icmp_gt {x y : Int} {off : Int} {tgt : Nat} (hd : decode (zk_cc mid) pc = .ok (.if_icmp .gt off, 3)) (ht : (pc : Int) + off = (tgt : Int)) (k1 : y < x → zk_Ok mid N1 tgt ls st S Q) (k2 : ¬ (y < x) → zk_Ok mid N1 (pc + 3) ls st S Q) : zk_Ok mid N1 pc ls (.inl y :: .inl x :: st) S Q :=
  zk_br (b := y < x) k1 k2 (fun h => (zk_ok_c.mp (zk_ok_c.mp h).2).2) (fun g p l e R s m args below meth c H locs cells slots Z la C h2 w1 w2 => by
    have hx : zk_rI x := (zk_ok_c.mp (zk_ok_c.mp h2).2).1
    have hy : zk_rI y := (zk_ok_c.mp h2).1
    exact lv_icmp_gt C.1 C.2.1 hd ht (fun z => w1 ((zk_I_lt hy hx).mp z)) (fun z => w2 (fun q => z ((zk_I_lt hy hx).mpr q))))
theorem zk_r_if_le {x : Int} {off : Int} {tgt : Nat} (hd : decode (zk_cc mid) pc = .ok (.ifCond .le off, 3)) (ht : (pc : Int) + off = (tgt : Int)) (k1 : x ≤ 0 → zk_Ok mid N1 tgt ls st S Q) (k2 : ¬ (x ≤ 0) → zk_Ok mid N1 (pc + 3) ls st S Q) : zk_Ok mid N1 pc ls (.inl x :: st) S Q :=
  zk_br (b := x ≤ 0) k1 k2 (fun h => (zk_ok_c.mp h).2) (fun g p l e R s m args below meth c H locs cells slots Z la C h2 w1 w2 => by
    have hx : zk_rI x := (zk_ok_c.mp h2).1
    have hy : zk_rI 0 := zk_r0
    exact lv_if_le C.1 C.2.1 hd ht (fun z => w1 ((zk_I_le hx hy).mp z)) (fun z => w2 (fun q => z ((zk_I_le hx hy).mpr q))))
theorem zk_r_icmp_le {x y : Int} {off : Int} {tgt : Nat} (hd : decode (zk_cc mid) pc = .ok (.if_icmp .le off, 3)) (ht : (pc : Int) + off = (tgt : Int)) (k1 : x ≤ y → zk_Ok mid N1 tgt ls st S Q) (k2 : ¬ (x ≤ y) → zk_Ok mid N1 (pc + 3) ls st S Q) : zk_Ok mid N1 pc ls (.inl y :: .inl x :: st) S Q :=
  zk_br (b := x ≤ y) k1 k2 (fun h => (zk_ok_c.mp (zk_ok_c.mp h).2).2) (fun g p l e R s m args below meth c H locs cells slots Z la C h2 w1 w2 => by
    have hx : zk_rI x := (zk_ok_c.mp (zk_ok_c.mp h2).2).1
    have hy : zk_rI y := (zk_ok_c.mp h2).1
    exact lv_icmp_le C.1 C.2.1 hd ht (fun z => w1 ((zk_I_le hx hy).mp z)) (fun z => w2 (fun q => z ((zk_I_le hx hy).mpr q))))
theorem zk_r_ifnull {r : Nat} {off : Int} {tgt : Nat} (hd : decode (zk_cc mid) pc = .ok (.ifnull off, 3)) (ht : (pc : Int) + off = (tgt : Int)) (k1 : r = 0 → zk_Ok mid N1 tgt ls st S Q) (k2 : ¬ (r = 0) → zk_Ok mid N1 (pc + 3) ls st S Q) : zk_Ok mid N1 pc ls (.inr (.inr (.inl r)) :: st) S Q :=
  zk_br k1 k2 (fun h => (zk_ok_c.mp h).2) (fun g p l e R s m args below meth c H locs cells slots Z la C h2 w1 w2 => by
    cases r with
    | zero => exact lv_ifnullN C.1 C.2.1 hd ht (w1 rfl)
    | succ r => exact lv_ifnull C.1 C.2.1 hd (w2 (by omega)))
theorem zk_r_ifnonnull {r : Nat} {off : Int} {tgt : Nat} (hd : decode (zk_cc mid) pc = .ok (.ifnonnull off, 3)) (ht : (pc : Int) + off = (tgt : Int)) (k1 : ¬ r = 0 → zk_Ok mid N1 tgt ls st S Q) (k2 : ¬ (¬ r = 0) → zk_Ok mid N1 (pc + 3) ls st S Q) : zk_Ok mid N1 pc ls (.inr (.inr (.inl r)) :: st) S Q :=
  zk_br k1 k2 (fun h => (zk_ok_c.mp h).2) (fun g p l e R s m args below meth c H locs cells slots Z la C h2 w1 w2 => by
    cases r with
    | zero => exact lv_ifnonnullN C.1 C.2.1 hd (w2 (by omega))
    | succ r => exact lv_ifnonnull C.1 C.2.1 hd ht (w1 (by omega)))
theorem zk_r_tsIn {dflt lo hi x : Int} {offs : Array Int} {len : Nat} {off : Int} {tgt : Nat} (hd : decode (zk_cc mid) pc = .ok (.tableswitch dflt lo hi offs, len)) (h1 : lo ≤ x) (h2 : x ≤ hi) (ho : offs[(x - lo).toNat]? = some off) (ht : (pc : Int) + off = (tgt : Int)) (k : zk_Ok mid N1 tgt ls st S Q) : zk_Ok mid N1 pc ls (.inl x :: st) S Q :=
  zk_go k (fun _ h _ => (zk_ok_c.mp h).2) (fun g p l e R s m args below meth c H locs cells slots Z la C hl q1 q2 _ _ _ w => by
    have hx : (zk_I x).toInt = x := zk_I_toInt (zk_ok_c.mp q2).1
    exact lv_tableIn C.1 C.2.1 hd (by rw [hx]; omega) (by rw [hx]; omega) (by rw [hx]; exact ho) ht w)
theorem zk_r_tsOut {dflt lo hi x : Int} {offs : Array Int} {len : Nat} {tgt : Nat} (hd : decode (zk_cc mid) pc = .ok (.tableswitch dflt lo hi offs, len)) (h1 : x < lo ∨ hi < x) (ht : (pc : Int) + dflt = (tgt : Int)) (k : zk_Ok mid N1 tgt ls st S Q) : zk_Ok mid N1 pc ls (.inl x :: st) S Q :=
  zk_go k (fun _ h _ => (zk_ok_c.mp h).2) (fun g p l e R s m args below meth c H locs cells slots Z la C hl q1 q2 _ _ _ w => by
    have hx : (zk_I x).toInt = x := zk_I_toInt (zk_ok_c.mp q2).1
    exact lv_tableOut C.1 C.2.1 hd (by rw [hx]; exact h1) ht w)
end zk_rules2
