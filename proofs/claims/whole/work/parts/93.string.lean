/-! the text of the words *-/
def zt_W (i : Nat) : Int := (zk_wordsL.getD i 0).toInt
/-! String.length and charAt of the words: the machine's side *-/
theorem zy_dd {mid pc n : Nat} {i : Instr} (h : (match decode (zk_cc mid) pc with
    | .ok (j, k) => decide (j = i) && Nat.beq k n
    | _ => false) = true) : decode (zk_cc mid) pc = .ok (i, n) := by
  split at h
  · rename_i j k e
    rw [e]
    have h := (Bool.and_eq_true _ _).mp h
    rw [of_decide_eq_true h.1, Nat.eq_of_beq_eq_true h.2]
  · exact absurd h (by decide)
section
variable {mid N1 pc : Nat} {ls st : List zk_V} {S : zk_S} {Q : Option zk_V → zk_S → Prop}
theorem zy_vlen (ho : zk_cn (zk_own mid) = "java/lang/String") (hd : decode (zk_cc mid) pc = .ok (.getfield 9, 3)) (hd2 : decode (zk_cc mid) (pc + 3) = .ok (.arraylength, 1)) (kk : zk_Ok mid N1 (pc + 4) ls (.inl 77 :: st) S Q) : zk_Ok mid N1 pc ls (.inr (.inr (.inr 1)) :: st) S Q := by
  refine zk_go kk (fun _ h _ => zk_ok_c.mpr ⟨(show zk_rI 77 by unfold zk_rI; omega), (zk_ok_c.mp h).2⟩) (fun g p l e R s m args below meth c H locs cells slots Z la C hl h1 h2 hR hM hS w => ?_)
  have E := C.2.2.2.2.2.2.1.1.1 0 (by decide)
  have ow : s.vm.findClass "java/lang/String" = some m.cls := by rw [← ho]; exact C.2.2.2.1
  refine vk_getf C.1 C.2.1 E.2.2.1 hS ow (C.2.2.2.2.1 _ (zk_in_jdk (List.mem_of_getElem? (i := 2) rfl))) (fun _ h => h) hd ?_
  exact va_tlen C.1 C.2.1 E.2.2.2 hS (v := zk_I 77) rfl hd2 w
theorem zy_cod (ho : zk_cn (zk_own mid) = "java/lang/String") (hd : decode (zk_cc mid) pc = .ok (.getfield 15, 3)) (kk : zk_Ok mid N1 (pc + 3) ls (.inl 0 :: st) S Q) : zk_Ok mid N1 pc ls (.inr (.inr (.inr 1)) :: st) S Q := by
  refine zk_go kk (fun _ h _ => zk_ok_c.mpr ⟨(show zk_rI 0 by unfold zk_rI; omega), (zk_ok_c.mp h).2⟩) (fun g p l e R s m args below meth c H locs cells slots Z la C hl h1 h2 hR hM hS w => ?_)
  have E := C.2.2.2.2.2.2.1.1.1 0 (by decide)
  have ow : s.vm.findClass "java/lang/String" = some m.cls := by rw [← ho]; exact C.2.2.2.1
  exact vk_getf C.1 C.2.1 E.2.1 hS ow (C.2.2.2.2.1 _ (zk_in_jdk (List.mem_of_getElem? (i := 1) rfl))) (fun _ h => h) hd w
theorem zy_cs (ho : zk_cn (zk_own mid) = "java/lang/String") (hd : decode (zk_cc mid) pc = .ok (.getstatic 38, 3)) (kk : zk_Ok mid N1 (pc + 3) ls (.inl 1 :: st) S Q) : zk_Ok mid N1 pc ls st S Q := by
  refine zk_go kk (fun _ h _ => zk_ok_c.mpr ⟨(show zk_rI 1 by unfold zk_rI; omega), h⟩) (fun g p l e R s m args below meth c H locs cells slots Z la C hl h1 h2 hR hM hS w => ?_)
  have ow : s.vm.findClass "java/lang/String" = some m.cls := by rw [← ho]; exact C.2.2.2.1
  exact va_gets C.1 C.2.1 C.2.2.2.2.2.2.1.2.1 hS ow (C.2.2.2.2.1 _ (zk_in_jdk (List.mem_of_getElem? (i := 0) rfl))) (fun _ h => h) hd w
end
theorem zy_coder {μ : zk_M} {B : Int → zk_M → Prop} (h : B 0 μ) : zk_C 250 [.inr (.inr (.inr 1))] μ (zk_RI B) := by
  refine zk_ct (by decide +kernel) ?_
  have ho : zk_cn (zk_own 250) = "java/lang/String" := by decide +kernel
  have mL : zk_mL 250 = 1 := by decide +kernel
  rw [mL]
  refine zy_cs ho (zy_dd (by decide +kernel)) ?_
  refine zk_r_if_eq (off := 10) (tgt := 13) (zy_dd (by decide +kernel)) rfl (fun q => absurd q (by decide)) (fun _ => ?_)
  refine zk_r_aload_n (j := 0) (v := .inr (.inr (.inr 1))) (zy_dd (by decide +kernel)) rfl rfl ?_
  refine zy_cod ho (zy_dd (by decide +kernel)) ?_
  refine zk_r_goto (off := 4) (tgt := 14) (zy_dd (by decide +kernel)) rfl ?_
  refine zk_r_ret (v := some (.inl 0)) ⟨μ, rfl, h⟩ ⟨zy_dd (by decide +kernel), .byte, by decide +kernel, rfl⟩ (show 80 = zk_N1 250 + zk_mc 250 by decide +kernel) (show zk_SZ 80 = zk_SZ (zk_N1 250) + zk_ms 250 by decide +kernel)
theorem zy_latin {μ : zk_M} {B : Int → zk_M → Prop} (h : B 1 μ) : zk_C 251 [.inr (.inr (.inr 1))] μ (zk_RI B) := by
  refine zk_ct (by decide +kernel) ?_
  have ho : zk_cn (zk_own 251) = "java/lang/String" := by decide +kernel
  have mL : zk_mL 251 = 1 := by decide +kernel
  rw [mL]
  refine zy_cs ho (zy_dd (by decide +kernel)) ?_
  refine zk_r_if_eq (off := 14) (tgt := 17) (zy_dd (by decide +kernel)) rfl (fun q => absurd q (by decide)) (fun _ => ?_)
  refine zk_r_aload_n (j := 0) (v := .inr (.inr (.inr 1))) (zy_dd (by decide +kernel)) rfl rfl ?_
  refine zy_cod ho (zy_dd (by decide +kernel)) ?_
  refine zk_r_if_ne (off := 7) (tgt := 17) (zy_dd (by decide +kernel)) rfl (fun q => absurd rfl q) (fun _ => ?_)
  refine zk_r_iconst (n := 1) (zy_dd (by decide +kernel)) (by unfold zk_rI; omega) ?_
  refine zk_r_goto (off := 4) (tgt := 18) (zy_dd (by decide +kernel)) rfl ?_
  exact zk_r_ret (v := some (.inl 1)) ⟨μ, rfl, h⟩ ⟨zy_dd (by decide +kernel), .boolean, by decide +kernel, rfl⟩ (show 80 = zk_N1 251 + zk_mc 251 by decide +kernel) (show zk_SZ 80 = zk_SZ (zk_N1 251) + zk_ms 251 by decide +kernel)
theorem zy_slen {μ : zk_M} {B : Int → zk_M → Prop} (h : B 77 μ) : zk_C 248 [.inr (.inr (.inr 1))] μ (zk_RI B) := by
  refine zk_ct (by decide +kernel) ?_
  have ho : zk_cn (zk_own 248) = "java/lang/String" := by decide +kernel
  have mL : zk_mL 248 = 1 := by decide +kernel
  rw [mL]
  refine zk_r_aload_n (j := 0) (v := .inr (.inr (.inr 1))) (zy_dd (by decide +kernel)) rfl rfl ?_
  refine zy_vlen ho (zy_dd (by decide +kernel)) (zy_dd (by decide +kernel)) ?_
  refine zk_r_aload_n (j := 0) (v := .inr (.inr (.inr 1))) (zy_dd (by decide +kernel)) rfl rfl ?_
  refine zk_r_invVS (callee := 250) (idx := 335) (as := []) (st := [.inl 77]) (Q1 := fun v S' => ∃ μ', S' = (80, zk_rho, μ') ∧ zk_RI (fun r μ' => r = 0 ∧ μ' = μ) v μ') (zy_dd (by decide +kernel)) (by decide +kernel) (by decide +kernel) (by decide +kernel) (by decide +kernel) (by decide +kernel) (by decide +kernel) (by decide +kernel) (by decide +kernel) (show 80 + zk_mc 250 ≤ zk_N1 248 + zk_mc 248 by decide +kernel) (show zk_SZ 80 + zk_ms 250 ≤ zk_SZ (zk_N1 248) + zk_ms 248 by decide +kernel) (zy_coder (B := fun r μ' => r = 0 ∧ μ' = μ) ⟨rfl, rfl⟩) (fun v S' hq => ?_)
  obtain ⟨μ', rfl, hv⟩ := hq
  match v, hv with
  | some (.inl r), hv =>
    obtain ⟨rfl, rfl⟩ := hv
    refine zk_r_ishr (x := 77) (y := 0) (zy_dd (by decide +kernel)) ?_
    rw [show zk_shr 77 0 = 77 by decide +kernel]
    exact zk_r_ret (v := some (.inl 77)) ⟨μ', rfl, h⟩ ⟨zy_dd (by decide +kernel), .int, by decide +kernel, rfl⟩ (show 80 = zk_N1 248 + zk_mc 248 by decide +kernel) (show zk_SZ 80 = zk_SZ (zk_N1 248) + zk_ms 248 by decide +kernel)
/-! contracts whose arguments are values as they are *-/
def zy_P (g : zk_G) (vs : List Value) (S : zk_S) : Array Value → State → Prop := fun v U => v = vs.toArray ∧ zk_RH g S U.heap ∧ zk_MG S ∧ zk_Kn g U ∧ zk_Od g U U.heap ∧ zk_Ow g U ∧ zk_a0 g + 1 ≤ U.heap.size
theorem zy_P_blind {g : zk_G} {vs : List Value} {S : zk_S} : FrameBlind (zy_P g vs S) := fun a U g' mk h =>
  ⟨h.1, h.2.1, h.2.2.1, va_K.moved (u := U) (U := U.calling g' mk a) (Vm.Alike.refl U.vm) h.2.2.2.1, zk_Od.moved (u := U) (U := U.calling g' mk a) (Vm.Alike.refl U.vm) h.2.2.2.2.1, zk_Ow.same (u := U) (U := U.calling g' mk a) rfl h.2.2.2.2.2.1, h.2.2.2.2.2.2⟩
def zy_hr (mid N1 : Nat) (g : zk_G) (Q : Option zk_V → zk_S → Prop) (p : Program) (l : Launch) (e : Env) (R : Room) (s : State) (m : MethodId) (args : Array Value) (below : List Frame) (meth : Method) (c : Code) (Z : State → Prop) : Prop :=
  ∀ (v : Option zk_V) (S' : zk_S) (H : Heap) (locs : List Loc) (cells slots pc' : Nat) (la : Array Slot), Q v S' → (∀ x, v = some x → zk_okV x) → zk_rets mid pc' v → zk_RH g S' H → zk_MG S' → va_S (zk_A g) s.heap H locs → zk_cs N1 S' cells slots →
      S'.1 = N1 + zk_mc mid → zk_SZ S'.1 = zk_SZ N1 + zk_ms mid → W p l e R s m args below meth c H locs cells slots Z (F0 m pc' la (v.toList.map (zk_enc g)))
section
variable {mid N1 pc : Nat} {ls st : List zk_V} {S : zk_S} {Q : Option zk_V → zk_S → Prop}
theorem zy_enter {vs : List Value} {g : zk_G} {l : Launch} (hpl : plainName (zk_yn mid).cls = true) (hlen : (lg_sl vs).length ≤ zk_mL mid) (hkd : zk_kd mid ≠ 2)
    (k : ∀ (p : Program) (e : Env) (R : Room) (s : State) (m : MethodId) (args : Array Value) (below : List Frame) (meth : Method) (c : Code) (Z : State → Prop), zk_Cx g mid p R s m args meth c → zk_RH g S s.heap → zk_MG S → zy_hr mid S.1 g Q p l e R s m args below meth c Z → ∀ la : Array Slot, lv_has la (zk_mL mid) (lv_args 0 vs) → W p l e R s m args below meth c s.heap [] 0 0 Z (F0 m 0 la [])) : Met l (zk_yn mid) (zk_ws mid) (zk_rm mid) (zy_P g vs S) (zk_Qc g mid S Q) (zk_mc mid) (zk_ms mid) (zk_A g) := by
  refine Met.ofW (cc := zk_cc mid) (maxL := zk_mL mid) (ret := zk_rt mid) hpl rfl ?_
  intro p e s m args below meth c s₁ B hml hv
  obtain ⟨rfl, hR, hM, hK, hOd, hOw, hsz⟩ := hv
  have hx := B.exec
  have hb := B.bytes
  have hr := B.returns
  have hts := atoms_spec (ws := zk_ws mid) B.pre
  have hown : s.vm.findClass (zk_yn mid).cls = some m.cls := findClass_of_methodNamed B.named
  have hlocks := B.notSynchronized
  have hin : meth.name = (zk_yn mid).name := (name_of_methodNamed B.named B.method).1
  rw [lg_entry_eq]
  refine k p e _ s m _ below meth c _ ⟨hx, hb, hml, hown, fun w hw => hts w (List.mem_cons_of_mem _ hw), hK, hOd, hOw, Nat.le_refl _, Nat.le_refl _, Nat.le_refl _, Nat.le_refl _, fun h => absurd h hkd, hsz⟩ hR hM ?_ _ (lv_entry vs hlen)
  intro v S' H locs cells slots pc' la hq hok hrt hR' hM' hS hcs hN hZ
  refine W.widen (k := zk_mc mid) (n := zk_ms mid) (by have := hcs.1; omega) (by have := hcs.2; omega) ?_
  have hQ : ∀ t : State, t.heap = H → s.WarmedH t.vm → zk_Qc g mid S Q vs.toArray s (.returned (v.map (zk_enc g))) t := fun t ht hW => ⟨⟨v, S', rfl, hok, hq, by rw [ht]; exact hR', hM', hN, hZ⟩, hS.F ht⟩
  match v, hrt with
  | none, hrt =>
    exact W.vret hx hb (hr.trans hrt.2) hQ hS.2.2 hrt.1
  | some (.inl x), hrt =>
    obtain ⟨hd, ty, hty, hn⟩ := hrt
    exact W.zret hx hb (hr.trans hty) hn hQ hS.2.2 hd
  | some (.inr (.inl x)), hrt =>
    exact W.lret hx hb (hr.trans hrt.2) hQ hS.2.2 hrt.1
  | some (.inr (.inr (.inl r))), hrt =>
    obtain ⟨hd, nm, hty⟩ := hrt
    exact W.aret hx hb (hr.trans hty) (Or.inl ⟨nm, rfl⟩) (by cases r with
      | zero => exact Or.inl rfl
      | succ r => exact Or.inr ⟨_, rfl⟩) hQ hS.2.2 hd
theorem zy_pre {g : zk_G} {p : Program} {R : Room} {s : State} {m : MethodId} {args : Array Value} {meth : Method} {c : Code} {H : Heap} {locs : List Loc} {vs : List Value} (C : zk_Cx g mid p R s m args meth c) (hR : zk_RH g S H) (hM : zk_MG S) (hS : va_S (zk_A g) s.heap H locs) : ∀ U : State, U.heap = H → s.WarmedH U.vm → zy_P g vs S vs.toArray U := fun U hU hW =>
  ⟨rfl, by rw [hU]; exact hR, hM, va_K.moved hW.alike C.2.2.2.2.2.1, zk_Od.moved hW.alike (by rw [hU]; exact C.2.2.2.2.2.2.1.kept (fun a ha hn => hS.2.1 a ha hn)), C.2.2.2.2.2.2.2.1.warm hW, by rw [hU]; exact Nat.le_trans C.2.2.2.2.2.2.2.2.2.2.2.2.2 hS.1⟩
end
/-- checkIndex: within the bounds it answers *-/
theorem zy_254 {μ : zk_M} {i n : Int} {x : Value} {g : zk_G} {l : Launch} (hi : 0 ≤ i) (hin : i < n) (hn : n ≤ 1000) (hx : x = .null ∨ ∃ t, x = .ref t) : Met l (zk_yn 254) (zk_ws 254) (zk_rm 254) (zy_P g [.int (zk_I i), .int (zk_I n), x] (80, zk_rho, μ)) (zk_Qc g 254 (80, zk_rho, μ) (fun v S' => ∃ μ', S' = (80, zk_rho, μ') ∧ zk_RI (fun r μ' => r = i ∧ μ' = μ) v μ')) (zk_mc 254) (zk_ms 254) (zk_A g) := by
  have mL : zk_mL 254 = 3 := by decide +kernel
  refine zy_enter (by decide +kernel) ?_ (by decide +kernel) ?_
  · rw [mL]
    rcases hx with rfl | ⟨t, rfl⟩ <;> simp [lg_sl, Value.category]
  · intro p e R s m args below meth c Z C hR hM hr la hla
    have K : zk_Ok 254 80 0 [.inl i, .inl n, .inr (.inr (.inr 0))] [] (80, zk_rho, μ) (fun v S' => ∃ μ', S' = (80, zk_rho, μ') ∧ zk_RI (fun r μ' => r = i ∧ μ' = μ) v μ') := by
      refine zk_r_iload_n (j := 0) (x := i) (zy_dd (by decide +kernel)) rfl ?_
      refine zk_r_if_lt (off := 8) (tgt := 9) (zy_dd (by decide +kernel)) rfl (fun q => absurd q (by omega)) (fun _ => ?_)
      refine zk_r_iload_n (j := 0) (x := i) (zy_dd (by decide +kernel)) rfl ?_
      refine zk_r_iload_n (j := 1) (x := n) (zy_dd (by decide +kernel)) rfl ?_
      refine zk_r_icmp_lt (off := 10) (tgt := 16) (zy_dd (by decide +kernel)) rfl (fun _ => ?_) (fun q => absurd hin q)
      refine zk_r_iload_n (j := 0) (x := i) (zy_dd (by decide +kernel)) rfl ?_
      exact zk_r_ret (v := some (.inl i)) ⟨μ, rfl, rfl, rfl⟩ ⟨zy_dd (by decide +kernel), .int, by decide +kernel, rfl⟩ (show 80 = 80 + zk_mc 254 by decide +kernel) (show zk_SZ 80 = zk_SZ 80 + zk_ms 254 by decide +kernel)
    refine K g p l e R s m args below meth c Z C hr s.heap [] 0 0 la ⟨hla.1, hla.2.1, fun j v hj hv => ?_⟩ (fun v hv => ?_) zk_ok_n hR hM va_S.rf ⟨by show 0 + 80 ≤ 80; omega, by show 0 + zk_SZ 80 ≤ zk_SZ 80; omega⟩
    · match j, hj with
      | 0, hj =>
        cases hj
        exact hla.2.2 (0, .int (zk_I i)) (by simp [lv_args])
      | 1, hj =>
        cases hj
        exact hla.2.2 (1, .int (zk_I n)) (by simp [lv_args, Value.category])
      | 2, hj =>
        cases hj
        exact absurd hv (by decide)
    · simp at hv
      rcases hv with rfl | rfl | rfl
      · show zk_rI _
        unfold zk_rI
        omega
      · show zk_rI _
        unfold zk_rI
        omega
      · trivial
/-- String.checkIndex *-/
theorem zy_252 {μ : zk_M} {BV : zk_M → Prop} {i n : Int} (hi : 0 ≤ i) (hin : i < n) (hn : n ≤ 1000) (h : BV μ) : zk_C 252 [.inl i, .inl n] μ (zk_RV BV) := by
  refine zk_ct (show (plainName (zk_yn 252).cls && (Nat.ble 2 (zk_mL 252) && (!Nat.beq (zk_kd 252) 2 && Nat.beq (zk_N1 252) 80))) = true by decide +kernel) ?_
  have ho : zk_cn (zk_own 252) = "java/lang/String" := by decide +kernel
  have mL : zk_mL 252 = 2 := by decide +kernel
  rw [mL]
  refine zk_r_iload_n (j := 0) (x := i) (zy_dd (by decide +kernel)) rfl ?_
  refine zk_r_iload_n (j := 1) (x := n) (zy_dd (by decide +kernel)) rfl ?_
  intro g p l e R s m args below meth c Z C hr H locs cells slots la hl h1 h2 hR hM hS hcs
  have ow : s.vm.findClass "java/lang/String" = some m.cls := by rw [← ho]; exact C.2.2.2.1
  have go : ∀ x : Value, (x = .null ∨ ∃ t, x = .ref t) → W p l e R s m args below meth c H locs cells slots Z (F0 m 5 la (x :: [(.inl n : zk_V), .inl i].map (zk_enc g))) := fun x hx => by
    have hki := zk_kind_in (callee := 254) (by decide +kernel)
    rw [if_pos (by decide +kernel)] at hki
    have e1 : zk_mc 254 = 0 ∧ zk_mc 252 = 0 ∧ zk_N1 252 = 80 := by decide +kernel
    have e2 : zk_ms 254 = 0 ∧ zk_ms 252 = 0 := by decide +kernel
    have hc1 : cells + zk_N1 252 ≤ 80 := hcs.1
    have hc2 : slots + zk_SZ (zk_N1 252) ≤ zk_SZ 80 := hcs.2
    have hroom : cells + zk_mc 254 ≤ R.cells ∧ slots + zk_ms 254 ≤ R.slots := by
      rw [e1.2.2] at hc1 hc2
      rw [e1.1, e2.1]
      omega
    have hw := va_runS (g := F0 m 5 la (x :: [(.inl n : zk_V), .inl i].map (zk_enc g))) (rest := []) (As := [.int (zk_I i), .int (zk_I n), x]) (below := below) (H := H) (locs := locs) (cells := cells) (slots := slots) (e := e) (meth := meth) ⟨C.1, C.2.1, C.2.2.1, C.2.2.2.1, C.2.2.2.2.1⟩ (zy_254 (μ := μ) (g := g) (l := l) hi hin hn hx) ⟨zk_callB (callee := 254) (idx := 1059) C (by decide +kernel) (by decide +kernel) (by decide +kernel) (by decide +kernel), C.2.2.2.2.1 _ hki⟩ ⟨zy_P_blind, zy_pre C hR hM hS⟩ rfl (show 3 = zk_np 254 by decide +kernel) (hl.1) rfl (lv_room (Nat.zero_le _)) (show decode (zk_cc 252) 5 = .ok (.invokestatic 1059, 3) from zy_dd (by decide +kernel)) hroom
    refine zk_after (st := []) (callee := 254) (pc := 5) (fun v S' hq => ?_) C hr hl h1 zk_ok_n hS hcs hw
    obtain ⟨μ', rfl, hv⟩ := hq
    match v, hv with
    | some (.inl r), hv =>
      obtain ⟨rfl, rfl⟩ := hv
      refine zk_r_pop (v := .inl r) (zy_dd (by decide +kernel)) (fun x q => by cases q) ?_
      exact zk_r_ret (v := none) ⟨μ', rfl, h⟩ ⟨zy_dd (by decide +kernel), by decide +kernel⟩ (show 80 = zk_N1 252 + zk_mc 252 by decide +kernel) (show zk_SZ 80 = zk_SZ (zk_N1 252) + zk_ms 252 by decide +kernel)
  rcases C.2.2.2.2.2.2.1.2.2.1 with hz | ⟨t, hz⟩
  · exact va_gets C.1 C.2.1 hz hS ow (C.2.2.2.2.1 _ (zk_in_jdk (List.mem_of_getElem? (i := 3) rfl))) (fun _ h => h) (zy_dd (mid := 252) (by decide +kernel)) (go .null (Or.inl rfl))
  · exact va_gets C.1 C.2.1 hz hS ow (C.2.2.2.2.1 _ (zk_in_jdk (List.mem_of_getElem? (i := 3) rfl))) (fun _ h => h) (zy_dd (mid := 252) (by decide +kernel)) (go (.ref t) (Or.inr ⟨t, rfl⟩))
/-! charAt *-/
theorem zy_vin {i : Nat} (h : i < 77) : vp_in (zk_I (i : Int)) 77 ∧ (zk_I (i : Int)).toNatClampNeg = i := by
  have hr : zk_rI (i : Int) := by unfold zk_rI; omega
  have e : (zk_I (i : Int)).toNatClampNeg = i := by
    show (zk_I (i : Int)).toInt.toNat = i
    rw [zk_I_toInt hr]
    rfl
  refine ⟨?_, e⟩
  rw [vp_in_iff, zk_I_toInt hr]
  omega
theorem zy_wd : ∀ i : Nat, i < 77 → 0 ≤ zt_W i ∧ zt_W i ≤ 127 ∧ zk_and (zt_W i) 255 = zt_W i := by decide +kernel
section
variable {mid N1 pc callee : Nat} {S : zk_S} {Q1 : Option zk_V → zk_S → Prop}
/-- behind a call, the frame as it is *-/
theorem zy_after {g : zk_G} {p : Program} {l : Launch} {e : Env} {R : Room} {s : State} {m : MethodId} {args : Array Value} {below : List Frame} {meth : Method} {c : Code} {Z : State → Prop}
    {H : Heap} {locs : List Loc} {cells slots : Nat} {la : Array Slot} (hS : va_S (zk_A g) s.heap H locs) (hc : zk_cs N1 S cells slots) {st0 rest : List Value} {a : Array Value}
    (kk : ∀ (v : Option zk_V) (S' : zk_S) (H' : Heap) (locs' : List Loc) (cells' slots' : Nat), Q1 v S' → (∀ x, v = some x → zk_okV x) → zk_RH g S' H' → zk_MG S' → va_S (zk_A g) s.heap H' locs' → zk_cs N1 S' cells' slots' → W p l e R s m args below meth c H' locs' cells' slots' Z (F0 m (pc + 3) la ((v.map (zk_enc g)).toList ++ rest)))
    (hrun : va_Run p l e R s m args below meth c H locs cells slots (zk_mc callee) (zk_ms callee) (F0 m pc la st0) rest (zk_Qc g callee S Q1 a) (zk_A g)) : W p l e R s m args below meth c H locs cells slots Z (F0 m pc la st0) := by
  intro T hT X
  obtain ⟨v, st₀, t, T', L, e0, X', hL, e1, e2, ⟨⟨v', S', hv, hok, hq, hR', hM', hN', hZ'⟩, hz, hkp⟩, hst⟩ := hrun T hT X
  cases hv
  rw [e0] at hz hkp
  have hS' : va_S (zk_A g) s.heap t.heap (locs ++ L) := by
    refine ⟨Nat.le_trans hS.1 hz, fun q g1 g2 => by rw [hkp q (Nat.lt_of_lt_of_le g1 hS.1) g2]; exact hS.2.1 q g1 g2, fun q hq => ?_⟩
    rcases List.mem_append.mp hq with h | h
    · exact hS.2.2 q h
    · exact hL q h
  have hw := kk v' S' t.heap (locs ++ L) (cells + zk_mc callee) (slots + zk_ms callee) hq hok hR' hM' hS' ⟨by have := hc.1; omega, by have := hc.2; omega⟩
  obtain ⟨t2, a1, b1⟩ := hw T' e1 X'
  exact ⟨t2, hst t2 a1, b1⟩
end
theorem zy_253 {μ : zk_M} {i : Nat} {g : zk_G} {l : Launch} (hi : i < 77) : Met l (zk_yn 253) (zk_ws 253) (zk_rm 253) (zy_P g [.ref (zk_tv g), .int (zk_I (i : Int))] (80, zk_rho, μ)) (zk_Qc g 253 (80, zk_rho, μ) (fun v S' => ∃ μ', S' = (80, zk_rho, μ') ∧ zk_RI (fun r μ' => r = zt_W i ∧ μ' = μ) v μ')) (zk_mc 253) (zk_ms 253) (zk_A g) := by
  have mL : zk_mL 253 = 2 := by decide +kernel
  have wd := zy_wd i hi
  have vin := zy_vin hi
  refine zy_enter (by decide +kernel) ?_ (by decide +kernel) ?_
  · rw [mL]
    simp [lg_sl, Value.category]
  · intro p e R s m args below meth c Z C hR hM hr la hla
    have l0 : la[0]? = some (.val (.ref (zk_tv g))) := hla.2.2 (0, .ref (zk_tv g)) (by simp [lv_args])
    have l1 : la[1]? = some (.val (.int (zk_I (i : Int)))) := hla.2.2 (1, .int (zk_I (i : Int))) (by simp [lv_args, Value.category])
    have E := C.2.2.2.2.2.2.1.1.1 0 (by decide)
    have ri : zk_rI (i : Int) := by unfold zk_rI; omega
    have LR : zk_LR g la (zk_mL 253) [.inr (.inr (.inr 0)), .inl (i : Int)] := ⟨hla.1, hla.2.1, fun j v hj hv => by
      match j, hj with
      | 0, hj =>
        cases hj
        exact absurd hv (by decide)
      | 1, hj =>
        cases hj
        exact l1⟩
    refine lv_iload_n C.1 C.2.1 (show decode (zk_cc 253) 0 = .ok (.iload_n 1, 1) from zy_dd (by decide +kernel)) rfl l1 ?_
    refine lv_aload_n C.1 C.2.1 (show decode (zk_cc 253) 1 = .ok (.aload_n 0, 1) from zy_dd (by decide +kernel)) rfl l0 ?_
    refine va_tlen C.1 C.2.1 E.2.2.2 va_S.rf (v := zk_I 77) rfl (show decode (zk_cc 253) 2 = .ok (.arraylength, 1) from zy_dd (by decide +kernel)) ?_
    have hki := zk_kind_in (callee := 252) (by decide +kernel)
    rw [if_pos (by decide +kernel)] at hki
    have hct := zy_252 (μ := μ) (BV := fun μ' => μ' = μ) (i := (i : Int)) (n := 77) (by omega) (by omega) (by omega) rfl
    have hroom : 0 + zk_mc 252 ≤ R.cells ∧ 0 + zk_ms 252 ≤ R.slots := by
      rw [show zk_mc 252 = 0 by decide +kernel, show zk_ms 252 = 0 by decide +kernel]
      omega
    have hw := va_runS (g := F0 m 3 la [.int (zk_I 77), .int (zk_I (i : Int))]) (rest := []) (As := [(.inl (i : Int) : zk_V), .inl 77].map (zk_enc g)) (below := below) (H := s.heap) (locs := []) (cells := 0) (slots := 0) (e := e) (meth := meth) ⟨C.1, C.2.1, C.2.2.1, C.2.2.2.1, C.2.2.2.2.1⟩ (hct l g) ⟨zk_callB (callee := 252) (idx := 9) C (by decide +kernel) (by decide +kernel) (by decide +kernel) (by decide +kernel), C.2.2.2.2.1 _ hki⟩ ⟨zk_Pc_blind, zk_pre C (zk_ok_c.mpr ⟨ri, zk_ok_c.mpr ⟨(show zk_rI 77 by unfold zk_rI; omega), zk_ok_n⟩⟩) hR hM va_S.rf⟩ rfl (show 2 = zk_np 252 by decide +kernel) hla.1 rfl (lv_room (Nat.zero_le _)) (show decode (zk_cc 253) 3 = .ok (.invokestatic 9, 3) from zy_dd (by decide +kernel)) hroom
    refine zy_after (pc := 3) (N1 := 80) (S := (80, zk_rho, μ)) va_S.rf ⟨by show 0 + 80 ≤ 80; omega, by show 0 + zk_SZ 80 ≤ zk_SZ 80; omega⟩ (fun v S' H' locs' cells' slots' hq hok hR' hM' hS' hc' => ?_) hw
    obtain ⟨μ', rfl, hv⟩ := hq
    match v, hv with
    | none, hv =>
      have hv : μ' = μ := hv
      subst hv
      refine lv_aload_n C.1 C.2.1 (show decode (zk_cc 253) 6 = .ok (.aload_n 0, 1) from zy_dd (by decide +kernel)) rfl l0 ?_
      refine lv_iload_n C.1 C.2.1 (show decode (zk_cc 253) 7 = .ok (.iload_n 1, 1) from zy_dd (by decide +kernel)) rfl l1 ?_
      refine va_tb C.1 C.2.1 E.2.2.2 hS' (i := zk_I (i : Int)) vin.1 (v := .int (zk_I (zt_W i))) ?_ (show decode (zk_cc 253) 8 = .ok (.baload, 1) from zy_dd (by decide +kernel)) ?_
      · rw [vin.2]
        show Value.int (zk_wordsL.getD i 0) = _
        unfold zt_W zk_I
        rw [Int32.ofInt_toInt]
      · have K : zk_Ok 253 80 9 [.inr (.inr (.inr 0)), .inl (i : Int)] [.inl (zt_W i)] (80, zk_rho, μ') (fun v S' => ∃ μ2, S' = (80, zk_rho, μ2) ∧ zk_RI (fun r μ2 => r = zt_W i ∧ μ2 = μ') v μ2) := by
          refine zk_r_sipush (n := 255) (zy_dd (by decide +kernel)) (by decide +kernel) (by unfold zk_rI; omega) ?_
          refine zk_r_iand (x := zt_W i) (y := 255) (zy_dd (by decide +kernel)) ?_
          rw [wd.2.2]
          refine zk_r_i2c (x := zt_W i) (zy_dd (by decide +kernel)) wd.1 (by omega) ?_
          exact zk_r_ret (v := some (.inl (zt_W i))) ⟨μ', rfl, rfl, rfl⟩ ⟨zy_dd (by decide +kernel), .char, by decide +kernel, zk_nar_char wd.1 (by omega)⟩ (show 80 = 80 + zk_mc 253 by decide +kernel) (show zk_SZ 80 = zk_SZ 80 + zk_ms 253 by decide +kernel)
        exact K g p l e R s m args below meth c Z C hr H' locs' cells' slots' la LR (zk_ok_c.mpr ⟨trivial, zk_ok_c.mpr ⟨ri, zk_ok_n⟩⟩) (zk_ok_c.mpr ⟨(show zk_rI (zt_W i) by unfold zk_rI; omega), zk_ok_n⟩) hR' hM' hS' hc'
/-! String.charAt of the words *-/
theorem zy_schar {μ : zk_M} {B : Int → zk_M → Prop} {i : Nat} (hi : i < 77) (h : B (zt_W i) μ) : zk_C 249 [.inr (.inr (.inr 1)), .inl (i : Int)] μ (zk_RI B) := by
  refine zk_ct (show (plainName (zk_yn 249).cls && (Nat.ble 2 (zk_mL 249) && (!Nat.beq (zk_kd 249) 2 && Nat.beq (zk_N1 249) 80))) = true by decide +kernel) ?_
  have ho : zk_cn (zk_own 249) = "java/lang/String" := by decide +kernel
  have mL : zk_mL 249 = 2 := by decide +kernel
  have wd := zy_wd i hi
  rw [mL]
  refine zk_r_aload_n (j := 0) (v := .inr (.inr (.inr 1))) (zy_dd (by decide +kernel)) rfl rfl ?_
  refine zk_r_invVS (callee := 251) (idx := 492) (as := []) (st := []) (Q1 := fun v S' => ∃ μ', S' = (80, zk_rho, μ') ∧ zk_RI (fun r μ' => r = 1 ∧ μ' = μ) v μ') (zy_dd (by decide +kernel)) (by decide +kernel) (by decide +kernel) (by decide +kernel) (by decide +kernel) (by decide +kernel) (by decide +kernel) (by decide +kernel) (by decide +kernel) (show 80 + zk_mc 251 ≤ zk_N1 249 + zk_mc 249 by decide +kernel) (show zk_SZ 80 + zk_ms 251 ≤ zk_SZ (zk_N1 249) + zk_ms 249 by decide +kernel) (zy_latin (B := fun r μ' => r = 1 ∧ μ' = μ) ⟨rfl, rfl⟩) (fun v S' hq => ?_)
  obtain ⟨μ', rfl, hv⟩ := hq
  match v, hv with
  | some (.inl r), hv =>
    obtain ⟨rfl, rfl⟩ := hv
    refine zk_r_if_eq (off := 12) (tgt := 16) (zy_dd (by decide +kernel)) rfl (fun q => absurd q (by decide)) (fun _ => ?_)
    refine zk_r_aload_n (j := 0) (v := .inr (.inr (.inr 1))) (zy_dd (by decide +kernel)) rfl rfl ?_
    intro g p l e R s m args below meth c Z C hr H locs cells slots la hl h1 h2 hR hM hS hcs
    have ow : s.vm.findClass "java/lang/String" = some m.cls := by rw [← ho]; exact C.2.2.2.1
    have E := C.2.2.2.2.2.2.1.1.1 0 (by decide)
    have l1 : la[1]? = some (.val (.int (zk_I (i : Int)))) := hl.2.2 1 (.inl (i : Int)) rfl rfl
    refine vk_getf C.1 C.2.1 E.2.2.1 hS ow (C.2.2.2.2.1 _ (zk_in_jdk (List.mem_of_getElem? (i := 2) rfl))) (fun _ h => h) (show decode (zk_cc 249) 8 = .ok (.getfield 9, 3) from zy_dd (by decide +kernel)) ?_
    refine lv_iload_n C.1 C.2.1 (show decode (zk_cc 249) 11 = .ok (.iload_n 1, 1) from zy_dd (by decide +kernel)) rfl l1 ?_
    have hki := zk_kind_in (callee := 253) (by decide +kernel)
    rw [if_pos (by decide +kernel)] at hki
    have hc1 : cells + zk_N1 249 ≤ 80 := hcs.1
    have hc2 : slots + zk_SZ (zk_N1 249) ≤ zk_SZ 80 := hcs.2
    have hroom : cells + zk_mc 253 ≤ R.cells ∧ slots + zk_ms 253 ≤ R.slots := by
      rw [show zk_N1 249 = 80 by decide +kernel] at hc1 hc2
      rw [show zk_mc 253 = 0 by decide +kernel, show zk_ms 253 = 0 by decide +kernel]
      omega
    have hw := va_runS (g := F0 m 12 la [.int (zk_I (i : Int)), .ref (zk_tv g)]) (rest := []) (As := [.ref (zk_tv g), .int (zk_I (i : Int))]) (below := below) (H := H) (locs := locs) (cells := cells) (slots := slots) (e := e) (meth := meth) ⟨C.1, C.2.1, C.2.2.1, C.2.2.2.1, C.2.2.2.2.1⟩ (zy_253 (μ := μ') (g := g) (l := l) hi) ⟨zk_callB (callee := 253) (idx := 495) C (by decide +kernel) (by decide +kernel) (by decide +kernel) (by decide +kernel), C.2.2.2.2.1 _ hki⟩ ⟨zy_P_blind, zy_pre C hR hM hS⟩ rfl (show 2 = zk_np 253 by decide +kernel) (hl.1) rfl (lv_room (Nat.zero_le _)) (show decode (zk_cc 249) 12 = .ok (.invokestatic 495, 3) from zy_dd (by decide +kernel)) hroom
    refine zk_after (st := []) (callee := 253) (pc := 12) (fun v S' hq => ?_) C hr hl h1 zk_ok_n hS hcs hw
    obtain ⟨μ2, rfl, hv⟩ := hq
    match v, hv with
    | some (.inl r), hv =>
      obtain ⟨rfl, rfl⟩ := hv
      exact zk_r_ret (v := some (.inl (zt_W i))) ⟨μ2, rfl, h⟩ ⟨zy_dd (by decide +kernel), .char, by decide +kernel, zk_nar_char wd.1 (by omega)⟩ (show 80 = zk_N1 249 + zk_mc 249 by decide +kernel) (show zk_SZ 80 = zk_SZ (zk_N1 249) + zk_ms 249 by decide +kernel)
section
variable {μ : zk_M} {B : Int → zk_M → Prop}
theorem sp_slen (h : B 77 μ) : zk_C 248 [.inr (.inr (.inr 1))] μ (zk_RI B) := zy_slen h
theorem sp_schar {i : Nat} (hi : i < 77) (h : B (zt_W i) μ) : zk_C 249 [.inr (.inr (.inr 1)), .inl (i : Int)] μ (zk_RI B) := zy_schar hi h
end
