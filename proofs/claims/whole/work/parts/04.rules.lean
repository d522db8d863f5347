/-! a rule an instruction: what keeps the memory as it is -/
theorem zk_ok_c {v : zk_V} {st : List zk_V} : zk_okL (v :: st) ↔ zk_okV v ∧ zk_okL st := by simp [zk_okL]
theorem zk_ok_n : zk_okL [] := fun v h => by cases h
theorem zk_go {mid N1 pc pc' : Nat} {ls st st' : List zk_V} {S : zk_S} {Q : Option zk_V → zk_S → Prop} (k : zk_Ok mid N1 pc' ls st' S Q) (hok : zk_okL ls → zk_okL st → zk_MG S → zk_okL st')
    (hw : ∀ (g : zk_G) (p : Program) (l : Launch) (e : Env) (R : Room) (s : State) (m : MethodId) (args : Array Value) (below : List Frame) (meth : Method) (c : Code) (H : Heap) (locs : List Loc) (cells slots : Nat) (Z : State → Prop) (la : Array Slot), zk_Cx g mid p R s m args meth c → zk_LR g la (zk_mL mid) ls → zk_okL ls → zk_okL st → zk_RH g S H → zk_MG S → va_S (zk_A g) s.heap H locs →
      W p l e R s m args below meth c H locs cells slots Z (F0 m pc' la (st'.map (zk_enc g))) → W p l e R s m args below meth c H locs cells slots Z (F0 m pc la (st.map (zk_enc g)))) : zk_Ok mid N1 pc ls st S Q := by
  intro g p l e R s m args below meth c Z C hr H locs cells slots la hl h1 h2 hR hM hS hc
  exact hw g p l e R s m args below meth c H locs cells slots Z la C hl h1 h2 hR hM hS (k g p l e R s m args below meth c Z C hr H locs cells slots la hl h1 (hok h1 h2 hM) hR hM hS hc)
section zk_rules
variable {mid N1 pc : Nat} {ls st : List zk_V} {S : zk_S} {Q : Option zk_V → zk_S → Prop}
theorem zk_r_iconst {n : Int} (hd : decode (zk_cc mid) pc = .ok (.iconst n, 1)) (hr : zk_rI n) (k : zk_Ok mid N1 (pc + 1) ls (.inl n :: st) S Q) : zk_Ok mid N1 pc ls st S Q :=
  zk_go k (fun _ h _ => zk_ok_c.mpr ⟨hr, h⟩) (fun g p l e R s m args below meth c H locs cells slots Z la C hl h1 h2 _ _ _ w => lv_iconst C.1 C.2.1 hd rfl w)
theorem zk_r_bipush {n : Int} (hd : decode (zk_cc mid) pc = .ok (.bipush n, 2)) (he : (Int8.ofInt n).toInt32 = zk_I n) (hr : zk_rI n) (k : zk_Ok mid N1 (pc + 2) ls (.inl n :: st) S Q) : zk_Ok mid N1 pc ls st S Q :=
  zk_go k (fun _ h _ => zk_ok_c.mpr ⟨hr, h⟩) (fun g p l e R s m args below meth c H locs cells slots Z la C hl h1 h2 _ _ _ w => lv_bipush C.1 C.2.1 hd he w)
theorem zk_r_sipush {n : Int} (hd : decode (zk_cc mid) pc = .ok (.sipush n, 3)) (he : (Int16.ofInt n).toInt32 = zk_I n) (hr : zk_rI n) (k : zk_Ok mid N1 (pc + 3) ls (.inl n :: st) S Q) : zk_Ok mid N1 pc ls st S Q :=
  zk_go k (fun _ h _ => zk_ok_c.mpr ⟨hr, h⟩) (fun g p l e R s m args below meth c H locs cells slots Z la C hl h1 h2 _ _ _ w => lv_sipush C.1 C.2.1 hd he w)
theorem zk_r_lconst {n : Fin 2} (hd : decode (zk_cc mid) pc = .ok (.lconst n, 1)) (he : Int64.ofNat (n : Nat) = zk_J (n : Nat)) (hr : zk_rJ ((n : Nat) : Int)) (k : zk_Ok mid N1 (pc + 1) ls (.inr (.inl ((n : Nat) : Int)) :: st) S Q) : zk_Ok mid N1 pc ls st S Q :=
  zk_go k (fun _ h _ => zk_ok_c.mpr ⟨hr, h⟩) (fun g p l e R s m args below meth c H locs cells slots Z la C hl h1 h2 _ _ _ w => lv_lconst C.1 C.2.1 hd he w)
theorem zk_r_null (hd : decode (zk_cc mid) pc = .ok (.aconst_null, 1)) (k : zk_Ok mid N1 (pc + 1) ls (.inr (.inr (.inl 0)) :: st) S Q) : zk_Ok mid N1 pc ls st S Q :=
  zk_go k (fun _ h _ => zk_ok_c.mpr ⟨trivial, h⟩) (fun g p l e R s m args below meth c H locs cells slots Z la C hl h1 h2 _ _ _ w => lv_null C.1 C.2.1 hd w)
theorem zk_r_ldc {idx : Nat} {v : Int} (hd : decode (zk_cc mid) pc = .ok (.ldc idx, 2)) (hw : Cond.constant (zk_cn (zk_own mid)) idx (Int32.ofInt v) ∈ zk_gT) (hr : zk_rI v) (k : zk_Ok mid N1 (pc + 2) ls (.inl v :: st) S Q) : zk_Ok mid N1 pc ls st S Q :=
  zk_go k (fun _ h _ => zk_ok_c.mpr ⟨hr, h⟩) (fun g p l e R s m args below meth c H locs cells slots Z la C hl h1 h2 _ _ _ w => lv_ldc C.1 C.2.1 C.2.2.2.1 (C.2.2.2.2.1 _ hw) hd w)
theorem zk_r_ldcw {idx : Nat} {v : Int} (hd : decode (zk_cc mid) pc = .ok (.ldc_w idx, 3)) (hw : Cond.constant (zk_cn (zk_own mid)) idx (Int32.ofInt v) ∈ zk_gT) (hr : zk_rI v) (k : zk_Ok mid N1 (pc + 3) ls (.inl v :: st) S Q) : zk_Ok mid N1 pc ls st S Q :=
  zk_go k (fun _ h _ => zk_ok_c.mpr ⟨hr, h⟩) (fun g p l e R s m args below meth c H locs cells slots Z la C hl h1 h2 _ _ _ w => lv_ldcw C.1 C.2.1 C.2.2.2.1 (C.2.2.2.2.1 _ hw) hd w)
theorem zk_r_ldc2 {idx : Nat} {v : Int} (hd : decode (zk_cc mid) pc = .ok (.ldc2_w idx, 3)) (hw : Cond.constantLong (zk_cn (zk_own mid)) idx (Int64.ofInt v) ∈ zk_gT) (hr : zk_rJ v) (k : zk_Ok mid N1 (pc + 3) ls (.inr (.inl v) :: st) S Q) : zk_Ok mid N1 pc ls st S Q :=
  zk_go k (fun _ h _ => zk_ok_c.mpr ⟨hr, h⟩) (fun g p l e R s m args below meth c H locs cells slots Z la C hl h1 h2 _ _ _ w => lv_ldc2 C.1 C.2.1 C.2.2.2.1 (C.2.2.2.2.1 _ hw) hd w)
theorem zk_r_ldcS {idx : Nat} (hd : decode (zk_cc mid) pc = .ok (.ldc idx, 2)) (ho : zk_own mid = 10) (hi : idx = 60) (k : zk_Ok mid N1 (pc + 2) ls (.inr (.inr (.inr 1)) :: st) S Q) : zk_Ok mid N1 pc ls st S Q :=
  zk_go k (fun _ h _ => zk_ok_c.mpr ⟨trivial, h⟩) (fun g p l e R s m args below meth c H locs cells slots Z la C hl h1 h2 _ _ _ w => by
    subst hi
    exact va_ldcS C.1 C.2.1 (own := "VeilOfStones$Tape") (by have := C.2.2.2.1; rw [ho] at this; exact this) C.2.2.2.2.2.2.2.1.1 hd w)
theorem zk_at {i : Nat} {v : zk_V} {g : zk_G} {la : Array Slot} {n : Nat} (h : zk_LR g la n ls) (hi : ls[i]? = some v) (hr : zk_real v = true) : la[i]? = some (.val (zk_enc g v)) := h.2.2 i v hi hr
theorem zk_okAt {i : Nat} {v : zk_V} (h : zk_okL ls) (hi : ls[i]? = some v) : zk_okV v := h v (List.mem_of_getElem? hi)
theorem zk_r_iload {i : Nat} {x : Int} (hd : decode (zk_cc mid) pc = .ok (.iload i, 2)) (hi : ls[i]? = some (.inl x)) (k : zk_Ok mid N1 (pc + 2) ls (.inl x :: st) S Q) : zk_Ok mid N1 pc ls st S Q :=
  zk_go k (fun h1 h _ => zk_ok_c.mpr ⟨zk_okAt h1 hi, h⟩) (fun g p l e R s m args below meth c H locs cells slots Z la C hl h1 h2 _ _ _ w => lv_iload C.1 C.2.1 hd (zk_at hl hi rfl) w)
theorem zk_r_iload_n {j : Fin 4} {x : Int} (hd : decode (zk_cc mid) pc = .ok (.iload_n j, 1)) (hi : ls[(j : Nat)]? = some (.inl x)) (k : zk_Ok mid N1 (pc + 1) ls (.inl x :: st) S Q) : zk_Ok mid N1 pc ls st S Q :=
  zk_go k (fun h1 h _ => zk_ok_c.mpr ⟨zk_okAt h1 hi, h⟩) (fun g p l e R s m args below meth c H locs cells slots Z la C hl h1 h2 _ _ _ w => lv_iload_n C.1 C.2.1 hd rfl (zk_at hl hi rfl) w)
theorem zk_r_lload {i : Nat} {x : Int} (hd : decode (zk_cc mid) pc = .ok (.lload i, 2)) (hi : ls[i]? = some (.inr (.inl x))) (k : zk_Ok mid N1 (pc + 2) ls (.inr (.inl x) :: st) S Q) : zk_Ok mid N1 pc ls st S Q :=
  zk_go k (fun h1 h _ => zk_ok_c.mpr ⟨zk_okAt h1 hi, h⟩) (fun g p l e R s m args below meth c H locs cells slots Z la C hl h1 h2 _ _ _ w => lv_lload C.1 C.2.1 hd (zk_at hl hi rfl) w)
theorem zk_r_lload_n {j : Fin 4} {x : Int} (hd : decode (zk_cc mid) pc = .ok (.lload_n j, 1)) (hi : ls[(j : Nat)]? = some (.inr (.inl x))) (k : zk_Ok mid N1 (pc + 1) ls (.inr (.inl x) :: st) S Q) : zk_Ok mid N1 pc ls st S Q :=
  zk_go k (fun h1 h _ => zk_ok_c.mpr ⟨zk_okAt h1 hi, h⟩) (fun g p l e R s m args below meth c H locs cells slots Z la C hl h1 h2 _ _ _ w => lv_lload_n C.1 C.2.1 hd rfl (zk_at hl hi rfl) w)
/-- a reference that is no null: a cell, the text, the script -/
def zk_isR (v : zk_V) : Bool := match v with
  | .inr (.inr (.inl _)) => true
  | .inr (.inr (.inr (_ + 1))) => true
  | _ => false
theorem zk_isR_enc {g : zk_G} {v : zk_V} (h : zk_isR v = true) : (∃ a, zk_enc g v = .ref a) ∨ zk_enc g v = .null := by
  match v, h with
  | .inr (.inr (.inl 0)), _ => exact Or.inr rfl
  | .inr (.inr (.inl (k + 1))), _ => exact Or.inl ⟨_, rfl⟩
  | .inr (.inr (.inr (k + 1))), _ => exact Or.inl ⟨_, rfl⟩
theorem zk_isR_real {v : zk_V} (h : zk_isR v = true) : zk_real v = true := by
  match v, h with
  | .inr (.inr (.inl k)), _ => rfl
  | .inr (.inr (.inr (k + 1))), _ => rfl
theorem zk_isR_ok {v : zk_V} (h : zk_isR v = true) : zk_okV v := by
  match v, h with
  | .inr (.inr (.inl k)), _ => trivial
  | .inr (.inr (.inr (k + 1))), _ => trivial
theorem zk_r_aload {i : Nat} {v : zk_V} (hd : decode (zk_cc mid) pc = .ok (.aload i, 2)) (hi : ls[i]? = some v) (hv : zk_isR v = true) (k : zk_Ok mid N1 (pc + 2) ls (v :: st) S Q) : zk_Ok mid N1 pc ls st S Q :=
  zk_go k (fun h1 h _ => zk_ok_c.mpr ⟨zk_okAt h1 hi, h⟩) (fun g p l e R s m args below meth c H locs cells slots Z la C hl h1 h2 _ _ _ w => by
    have hat := zk_at hl hi (zk_isR_real hv)
    rcases zk_isR_enc (g := g) hv with ⟨a, ha⟩ | ha
    · rw [ha] at hat
      rw [List.map_cons, ha] at w
      exact lv_aload C.1 C.2.1 hd hat w
    · rw [ha] at hat
      rw [List.map_cons, ha] at w
      have h1' := C.1
      have h2' := C.2.1
      intro T hT X
      obtain ⟨t, a, b⟩ := w T hT X
      refine ⟨t, ?_, b⟩
      jvm_step X.here [X.here.top, h1', h2', hd, hat, Value.isRef]
      exact a)
theorem zk_r_aload_n {j : Fin 4} {v : zk_V} (hd : decode (zk_cc mid) pc = .ok (.aload_n j, 1)) (hi : ls[(j : Nat)]? = some v) (hv : zk_isR v = true) (k : zk_Ok mid N1 (pc + 1) ls (v :: st) S Q) : zk_Ok mid N1 pc ls st S Q :=
  zk_go k (fun h1 h _ => zk_ok_c.mpr ⟨zk_okAt h1 hi, h⟩) (fun g p l e R s m args below meth c H locs cells slots Z la C hl h1 h2 _ _ _ w => by
    have hat := zk_at hl hi (zk_isR_real hv)
    rcases zk_isR_enc (g := g) hv with ⟨a, ha⟩ | ha
    · rw [ha] at hat
      rw [List.map_cons, ha] at w
      exact lv_aload_n C.1 C.2.1 hd rfl hat w
    · rw [ha] at hat
      rw [List.map_cons, ha] at w
      have h1' := C.1
      have h2' := C.2.1
      intro T hT X
      obtain ⟨t, a, b⟩ := w T hT X
      refine ⟨t, ?_, b⟩
      jvm_step X.here [X.here.top, h1', h2', hd, hat, Value.isRef]
      exact a)
/-! stores into locals -/
theorem zk_LR_set {g : zk_G} {la la' : Array Slot} {n i : Nat} {v : zk_V} (h : zk_LR g la n ls) (hc : (zk_enc g v).category = 1) (hp : ∀ x, i ≠ 0 → ls[i - 1]? ≠ some (.inr (.inl x))) (hl : lv_has la' n ((i, zk_enc g v) :: (ls.zipIdx.filterMap fun q => if zk_real q.1 then some (q.2, zk_enc g q.1) else none).filter (fun q => !(q.1 == i) && !(q.1 + 1 == i && q.2.category == 2)))) : zk_LR g la' n (ls.set i v) := by
  refine ⟨hl.1, hl.2.1, fun j w hj hw => ?_⟩
  by_cases e : i = j
  · subst e
    have hlt : i < ls.length := by
      have := (List.getElem?_eq_some_iff.mp hj).1
      simpa using this
    rw [List.getElem?_set_self hlt] at hj
    cases hj
    exact hl.2.2 (i, zk_enc g v) List.mem_cons_self
  · rw [List.getElem?_set_ne e] at hj
    refine hl.2.2 (j, zk_enc g w) (List.mem_cons_of_mem _ (List.mem_filter.mpr ⟨List.mem_filterMap.mpr ⟨(w, j), ?_, by simp [hw]⟩, ?_⟩))
    · exact List.mem_zipIdx_iff_getElem?.mpr hj
    · by_cases e2 : j + 1 = i
      · have h2 : ¬ (zk_enc g w).category = 2 := by
          match w, hw with
          | .inl x, _ => simp [zk_enc, Value.category]
          | .inr (.inl x), _ =>
            exact absurd hj (by have := hp x (by omega); rw [← e2] at this; simpa using this)
          | .inr (.inr (.inl 0)), _ => simp [zk_enc, zk_encR, Value.category]
          | .inr (.inr (.inl (k + 1))), _ => simp [zk_enc, zk_encR, Value.category]
          | .inr (.inr (.inr k)), _ => simp [zk_enc, Value.category]
        simp [Ne.symm e, h2]
      · simp [Ne.symm e, e2]
theorem zk_LR_has {g : zk_G} {la : Array Slot} {n : Nat} (h : zk_LR g la n ls) : lv_has la n (ls.zipIdx.filterMap fun q => if zk_real q.1 then some (q.2, zk_enc g q.1) else none) := by
  refine ⟨h.1, h.2.1, fun q hq => ?_⟩
  obtain ⟨⟨w, j⟩, hm, he⟩ := List.mem_filterMap.mp hq
  have hj := List.mem_zipIdx_iff_getElem?.mp hm
  by_cases hw : zk_real w = true
  · simp [hw] at he
    rw [← he]
    exact h.2.2 j w hj hw
  · simp [hw] at he
theorem zk_ok_set {i : Nat} {v : zk_V} (h : zk_okL ls) (hv : zk_okV v) : zk_okL (ls.set i v) := fun w hw => by
  rcases List.mem_or_eq_of_mem_set hw with h1 | h1
  · exact h w h1
  · rw [h1]; exact hv
/-- a store into a local: what lv_istore and its like need -/
theorem zk_goS {mid N1 pc pc' i : Nat} {v : zk_V} {ls st st' : List zk_V} {S : zk_S} {Q : Option zk_V → zk_S → Prop} (k : zk_Ok mid N1 pc' (ls.set i v) st' S Q) (hc : ∀ g, (zk_enc g v).category = 1) (hp : ∀ x, i ≠ 0 → ls[i - 1]? ≠ some (.inr (.inl x))) (hok : zk_okL ls → zk_okL st → zk_okL st' ∧ zk_okV v)
    (hw : ∀ (g : zk_G) (p : Program) (l : Launch) (e : Env) (R : Room) (s : State) (m : MethodId) (args : Array Value) (below : List Frame) (meth : Method) (c : Code) (H : Heap) (locs : List Loc) (cells slots : Nat) (Z : State → Prop) (la : Array Slot), zk_Cx g mid p R s m args meth c → zk_LR g la (zk_mL mid) ls → zk_okL ls → zk_okL st →
      (∀ la', lv_has la' (zk_mL mid) ((i, zk_enc g v) :: (ls.zipIdx.filterMap fun q => if zk_real q.1 then some (q.2, zk_enc g q.1) else none).filter (fun q => !(q.1 == i) && !(q.1 + 1 == i && q.2.category == 2))) → W p l e R s m args below meth c H locs cells slots Z (F0 m pc' la' (st'.map (zk_enc g)))) → W p l e R s m args below meth c H locs cells slots Z (F0 m pc la (st.map (zk_enc g)))) : zk_Ok mid N1 pc ls st S Q := by
  intro g p l e R s m args below meth c Z C hr H locs cells slots la hl h1 h2 hR hM hS hcs
  refine hw g p l e R s m args below meth c H locs cells slots Z la C hl h1 h2 (fun la' hl' => ?_)
  exact k g p l e R s m args below meth c Z C hr H locs cells slots la' (zk_LR_set hl (hc g) hp hl') (zk_ok_set h1 (hok h1 h2).2) (hok h1 h2).1 hR hM hS hcs
theorem zk_r_istore {i : Nat} {x : Int} (hd : decode (zk_cc mid) pc = .ok (.istore i, 2)) (hn : i < zk_mL mid) (hp : ∀ x, i ≠ 0 → ls[i - 1]? ≠ some (.inr (.inl x))) (k : zk_Ok mid N1 (pc + 2) (ls.set i (.inl x)) st S Q) : zk_Ok mid N1 pc ls (.inl x :: st) S Q :=
  zk_goS k (fun _ => rfl) hp (fun _ h => ⟨(zk_ok_c.mp h).2, (zk_ok_c.mp h).1⟩) (fun g p l e R s m args below meth c H locs cells slots Z la C hl h1 h2 w => lv_istore C.1 C.2.1 hd (zk_LR_has hl) hn rfl w)
theorem zk_r_istore_n {j : Fin 4} {x : Int} (hd : decode (zk_cc mid) pc = .ok (.istore_n j, 1)) (hn : (j : Nat) < zk_mL mid) (hp : ∀ x, (j : Nat) ≠ 0 → ls[(j : Nat) - 1]? ≠ some (.inr (.inl x))) (k : zk_Ok mid N1 (pc + 1) (ls.set j (.inl x)) st S Q) : zk_Ok mid N1 pc ls (.inl x :: st) S Q :=
  zk_goS k (fun _ => rfl) hp (fun _ h => ⟨(zk_ok_c.mp h).2, (zk_ok_c.mp h).1⟩) (fun g p l e R s m args below meth c H locs cells slots Z la C hl h1 h2 w => lv_istore_n C.1 C.2.1 hd rfl (zk_LR_has hl) hn rfl w)
theorem zk_isR_cat {g : zk_G} {v : zk_V} (h : zk_isR v = true) : (zk_enc g v).category = 1 := by
  rcases zk_isR_enc (g := g) h with ⟨a, ha⟩ | ha
  · rw [ha]; rfl
  · rw [ha]; rfl
theorem zk_r_astore {i : Nat} {v : zk_V} (hd : decode (zk_cc mid) pc = .ok (.astore i, 2)) (hv : zk_isR v = true) (hn : i < zk_mL mid) (hp : ∀ x, i ≠ 0 → ls[i - 1]? ≠ some (.inr (.inl x))) (k : zk_Ok mid N1 (pc + 2) (ls.set i v) st S Q) : zk_Ok mid N1 pc ls (v :: st) S Q :=
  zk_goS k (fun _ => zk_isR_cat hv) hp (fun _ h => ⟨(zk_ok_c.mp h).2, (zk_ok_c.mp h).1⟩) (fun g p l e R s m args below meth c H locs cells slots Z la C hl h1 h2 w => by
    rcases zk_isR_enc (g := g) hv with ⟨a, ha⟩ | ha
    · rw [ha] at w
      rw [List.map_cons, ha]
      exact lv_astore C.1 C.2.1 hd (zk_LR_has hl) hn rfl w
    · rw [ha] at w
      rw [List.map_cons, ha]
      have h1' := C.1
      have h2' := C.2.1
      obtain ⟨ls', e', h'⟩ := lv_store1 (v := .null) (zk_LR_has (g := g) hl) hn rfl
      intro T hT X
      obtain ⟨t, a, b⟩ := w ls' h' T hT X
      refine ⟨t, ?_, b⟩
      jvm_step X.here [X.here.top, ↓top_set X.here.top, h1', h2', hd, e', Value.isRef]
      exact a)
theorem zk_r_astore_n {j : Fin 4} {v : zk_V} (hd : decode (zk_cc mid) pc = .ok (.astore_n j, 1)) (hv : zk_isR v = true) (hn : (j : Nat) < zk_mL mid) (hp : ∀ x, (j : Nat) ≠ 0 → ls[(j : Nat) - 1]? ≠ some (.inr (.inl x))) (k : zk_Ok mid N1 (pc + 1) (ls.set j v) st S Q) : zk_Ok mid N1 pc ls (v :: st) S Q :=
  zk_goS k (fun _ => zk_isR_cat hv) hp (fun _ h => ⟨(zk_ok_c.mp h).2, (zk_ok_c.mp h).1⟩) (fun g p l e R s m args below meth c H locs cells slots Z la C hl h1 h2 w => by
    rcases zk_isR_enc (g := g) hv with ⟨a, ha⟩ | ha
    · rw [ha] at w
      rw [List.map_cons, ha]
      exact lv_astore_n C.1 C.2.1 hd rfl (zk_LR_has hl) hn rfl w
    · rw [ha] at w
      rw [List.map_cons, ha]
      have h1' := C.1
      have h2' := C.2.1
      obtain ⟨ls', e', h'⟩ := lv_store1 (v := .null) (zk_LR_has (g := g) hl) hn rfl
      intro T hT X
      obtain ⟨t, a, b⟩ := w ls' h' T hT X
      refine ⟨t, ?_, b⟩
      jvm_step X.here [X.here.top, ↓top_set X.here.top, h1', h2', hd, e', Value.isRef]
      exact a)
theorem zk_has_ix {g : zk_G} {i : Nat} {v : zk_V} (hi : ls[i]? = some v) (hr : zk_real v = true) : ∃ q : Nat, (ls.zipIdx.filterMap fun q => if zk_real q.1 then some (q.2, zk_enc g q.1) else none)[q]? = some (i, zk_enc g v) := by
  apply List.getElem?_of_mem
  exact List.mem_filterMap.mpr ⟨(v, i), List.mem_zipIdx_iff_getElem?.mpr hi, by simp [hr]⟩
theorem zk_r_iinc {i : Nat} {n x : Int} (hd : decode (zk_cc mid) pc = .ok (.iinc i n, 3)) (hi : ls[i]? = some (.inl x)) (hn : i < zk_mL mid) (hp : ∀ x, i ≠ 0 → ls[i - 1]? ≠ some (.inr (.inl x))) (hr : zk_rI (x + n)) (k : zk_Ok mid N1 (pc + 3) (ls.set i (.inl (x + n))) st S Q) : zk_Ok mid N1 pc ls st S Q :=
  zk_goS k (fun _ => rfl) hp (fun _ h => ⟨h, hr⟩) (fun g p l e R s m args below meth c H locs cells slots Z la C hl h1 h2 w => by
    obtain ⟨q, hq⟩ := zk_has_ix (g := g) hi rfl
    exact lv_iinc C.1 C.2.1 hd (zk_LR_has hl) hq (by rw [← zk_I_add]; rfl) hn rfl w)
end zk_rules
