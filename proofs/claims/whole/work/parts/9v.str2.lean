/-! contracts whose arguments are values as they are *-/
def zy_P (g : zk_G) (vs : List Value) (S : zk_S) : Array Value → State → Prop := fun v U => v = vs.toArray ∧ zk_RH g S U.heap ∧ zk_MG S ∧ zk_Kn g U ∧ zk_Od g U U.heap ∧ zk_Ow g U ∧ zk_a0 g + 1 ≤ U.heap.size
theorem zy_P_blind {g : zk_G} {vs : List Value} {S : zk_S} : FrameBlind (zy_P g vs S) := fun a U g' mk h =>
  ⟨h.1, h.2.1, h.2.2.1, va_K.moved (u := U) (U := U.calling g' mk a) (Vm.Alike.refl U.vm) h.2.2.2.1, zk_Od.moved (u := U) (U := U.calling g' mk a) (Vm.Alike.refl U.vm) h.2.2.2.2.1, zk_Ow.same (u := U) (U := U.calling g' mk a) rfl h.2.2.2.2.2.1, h.2.2.2.2.2.2⟩
def zy_hr (mid N1 : Nat) (g : zk_G) (Q : Option zk_V → zk_S → Prop) (p : Program) (l : Launch) (e : Env) (R : Room) (s : State) (m : MethodId) (args : Array Value) (below : List Frame) (meth : Method) (c : Code) (Z : State → Prop) : Prop :=
  ∀ (v : Option zk_V) (S' : zk_S) (H : Heap) (locs : List Loc) (cells slots pc' : Nat) (la : Array Slot), Q v S' → (∀ x, v = some x → zk_okV x) → zk_rets mid pc' v → zk_RH g S' H → zk_MG S' → va_S (zk_A g) s.heap H locs → zk_cs N1 S' cells slots →
      S'.1 = N1 + zk_mc mid → zk_SZ S'.1 = zk_SZ N1 + zk_ms mid → W p l e R s m args below meth c H locs cells slots Z (F0 m pc' la (v.toList.map (zk_enc g)))
section
variable {mid N1 pc : Nat} {ls st : List zk_V} {S : zk_S} {Q : Option zk_V → zk_S → Prop}
theorem zy_enter {vs : List Value} {g : zk_G} {l : Launch} (hpl : plainName (zk_yn mid).cls = true) (hlen : (lg_sl vs).length ≤ zk_mL mid) (hkd : zk_kd mid ≠ 2)
    (k : ∀ (p : Program) (e : Env) (R : Room) (s : State) (m : MethodId) (args : Array Value) (below : List Frame) (meth : Method) (c : Code) (Z : State → Prop), zk_Cx g mid p R s m args meth c → zk_RH g S s.heap → zk_MG S → zy_hr mid S.1 g Q p l e R s m args below meth c Z → ∀ la : Array Slot, lv_has la (zk_mL mid) (lv_args 0 vs) → W p l e R s m args below meth c s.heap [] 0 0 Z (F0 m 0 la [])) : Met l (zk_yn mid) (zk_ws mid) (zk_rm mid) (zy_P g vs S) (zk_Qc g mid S Q) (zk_mc mid) (zk_ms mid) (zk_A g) := by
  refine Met.ofW (cc := zk_cc mid) (maxL := zk_mL mid) (ret := zk_rt mid) hpl rfl ?_
  intro p e s m args below meth c s₁ B hml hv
  obtain ⟨rfl, hR, hM, hK, hOd, hOw, hsz⟩ := hv
  have hx := B.exec
  have hb := B.bytes
  have hr := B.returns
  have hts := atoms_spec (ws := zk_ws mid) B.pre
  have hown : s.vm.findClass (zk_yn mid).cls = some m.cls := findClass_of_methodNamed B.named
  have hlocks := B.notSynchronized
  have hin : meth.name = (zk_yn mid).name := (name_of_methodNamed B.named B.method).1
  rw [lg_entry_eq]
  refine k p e _ s m _ below meth c _ ⟨hx, hb, hml, hown, fun w hw => hts w (List.mem_cons_of_mem _ hw), hK, hOd, hOw, Nat.le_refl _, Nat.le_refl _, Nat.le_refl _, Nat.le_refl _, fun h => absurd h hkd, hsz⟩ hR hM ?_ _ (lv_entry vs hlen)
  intro v S' H locs cells slots pc' la hq hok hrt hR' hM' hS hcs hN hZ
  refine W.widen (k := zk_mc mid) (n := zk_ms mid) (by have := hcs.1; omega) (by have := hcs.2; omega) ?_
  have hQ : ∀ t : State, t.heap = H → s.WarmedH t.vm → zk_Qc g mid S Q vs.toArray s (.returned (v.map (zk_enc g))) t := fun t ht hW => ⟨⟨v, S', rfl, hok, hq, by rw [ht]; exact hR', hM', hN, hZ⟩, hS.F ht⟩
  match v, hrt with
  | none, hrt =>
    exact W.vret hx hb (hr.trans hrt.2) hQ hS.2.2 hrt.1
  | some (.inl x), hrt =>
    obtain ⟨hd, ty, hty, hn⟩ := hrt
    exact W.zret hx hb (hr.trans hty) hn hQ hS.2.2 hd
  | some (.inr (.inl x)), hrt =>
    exact W.lret hx hb (hr.trans hrt.2) hQ hS.2.2 hrt.1
  | some (.inr (.inr (.inl r))), hrt =>
    obtain ⟨hd, nm, hty⟩ := hrt
    exact W.aret hx hb (hr.trans hty) (Or.inl ⟨nm, rfl⟩) (by cases r with
      | zero => exact Or.inl rfl
      | succ r => exact Or.inr ⟨_, rfl⟩) hQ hS.2.2 hd
theorem zy_pre {g : zk_G} {p : Program} {R : Room} {s : State} {m : MethodId} {args : Array Value} {meth : Method} {c : Code} {H : Heap} {locs : List Loc} {vs : List Value} (C : zk_Cx g mid p R s m args meth c) (hR : zk_RH g S H) (hM : zk_MG S) (hS : va_S (zk_A g) s.heap H locs) : ∀ U : State, U.heap = H → s.WarmedH U.vm → zy_P g vs S vs.toArray U := fun U hU hW =>
  ⟨rfl, by rw [hU]; exact hR, hM, va_K.moved hW.alike C.2.2.2.2.2.1, zk_Od.moved hW.alike (by rw [hU]; exact C.2.2.2.2.2.2.1.kept (fun a ha hn => hS.2.1 a ha hn)), C.2.2.2.2.2.2.2.1.warm hW, by rw [hU]; exact Nat.le_trans C.2.2.2.2.2.2.2.2.2.2.2.2.2 hS.1⟩
end
/-- checkIndex: within the bounds it answers *-/
theorem zy_254 {μ : zk_M} {i n : Int} {x : Value} {g : zk_G} {l : Launch} (hi : 0 ≤ i) (hin : i < n) (hn : n ≤ 1000) (hx : x = .null ∨ ∃ t, x = .ref t) : Met l (zk_yn 254) (zk_ws 254) (zk_rm 254) (zy_P g [.int (zk_I i), .int (zk_I n), x] (80, zk_rho, μ)) (zk_Qc g 254 (80, zk_rho, μ) (fun v S' => ∃ μ', S' = (80, zk_rho, μ') ∧ zk_RI (fun r μ' => r = i ∧ μ' = μ) v μ')) (zk_mc 254) (zk_ms 254) (zk_A g) := by
  have mL : zk_mL 254 = 3 := by decide +kernel
  refine zy_enter (by decide +kernel) ?_ (by decide +kernel) ?_
  · rw [mL]
    rcases hx with rfl | ⟨t, rfl⟩ <;> simp [lg_sl, Value.category]
  · intro p e R s m args below meth c Z C hR hM hr la hla
    have K : zk_Ok 254 80 0 [.inl i, .inl n, .inr (.inr (.inr 0))] [] (80, zk_rho, μ) (fun v S' => ∃ μ', S' = (80, zk_rho, μ') ∧ zk_RI (fun r μ' => r = i ∧ μ' = μ) v μ') := by
      refine zk_r_iload_n (j := 0) (x := i) (zy_dd (by decide +kernel)) rfl ?_
      refine zk_r_if_lt (off := 8) (tgt := 9) (zy_dd (by decide +kernel)) rfl (fun q => absurd q (by omega)) (fun _ => ?_)
      refine zk_r_iload_n (j := 0) (x := i) (zy_dd (by decide +kernel)) rfl ?_
      refine zk_r_iload_n (j := 1) (x := n) (zy_dd (by decide +kernel)) rfl ?_
      refine zk_r_icmp_lt (off := 10) (tgt := 16) (zy_dd (by decide +kernel)) rfl (fun _ => ?_) (fun q => absurd hin q)
      refine zk_r_iload_n (j := 0) (x := i) (zy_dd (by decide +kernel)) rfl ?_
      exact zk_r_ret (v := some (.inl i)) ⟨μ, rfl, rfl, rfl⟩ ⟨zy_dd (by decide +kernel), .int, by decide +kernel, rfl⟩ (show 80 = 80 + zk_mc 254 by decide +kernel) (show zk_SZ 80 = zk_SZ 80 + zk_ms 254 by decide +kernel)
    refine K g p l e R s m args below meth c Z C hr s.heap [] 0 0 la ⟨hla.1, hla.2.1, fun j v hj hv => ?_⟩ (fun v hv => ?_) zk_ok_n hR hM va_S.rf ⟨by show 0 + 80 ≤ 80; omega, by show 0 + zk_SZ 80 ≤ zk_SZ 80; omega⟩
    · match j, hj with
      | 0, hj =>
        cases hj
        exact hla.2.2 (0, .int (zk_I i)) (by simp [lv_args])
      | 1, hj =>
        cases hj
        exact hla.2.2 (1, .int (zk_I n)) (by simp [lv_args, Value.category])
      | 2, hj =>
        cases hj
        exact absurd hv (by decide)
    · simp at hv
      rcases hv with rfl | rfl | rfl
      · show zk_rI _
        unfold zk_rI
        omega
      · show zk_rI _
        unfold zk_rI
        omega
      · trivial
/-- String.checkIndex *-/
theorem zy_252 {μ : zk_M} {BV : zk_M → Prop} {i n : Int} (hi : 0 ≤ i) (hin : i < n) (hn : n ≤ 1000) (h : BV μ) : zk_C 252 [.inl i, .inl n] μ (zk_RV BV) := by
  refine zk_ct (show (plainName (zk_yn 252).cls && (Nat.ble 2 (zk_mL 252) && (!Nat.beq (zk_kd 252) 2 && Nat.beq (zk_N1 252) 80))) = true by decide +kernel) ?_
  have ho : zk_cn (zk_own 252) = "java/lang/String" := by decide +kernel
  have mL : zk_mL 252 = 2 := by decide +kernel
  rw [mL]
  refine zk_r_iload_n (j := 0) (x := i) (zy_dd (by decide +kernel)) rfl ?_
  refine zk_r_iload_n (j := 1) (x := n) (zy_dd (by decide +kernel)) rfl ?_
  intro g p l e R s m args below meth c Z C hr H locs cells slots la hl h1 h2 hR hM hS hcs
  have ow : s.vm.findClass "java/lang/String" = some m.cls := by rw [← ho]; exact C.2.2.2.1
  have go : ∀ x : Value, (x = .null ∨ ∃ t, x = .ref t) → W p l e R s m args below meth c H locs cells slots Z (F0 m 5 la (x :: [(.inl n : zk_V), .inl i].map (zk_enc g))) := fun x hx => by
    have hki := zk_kind_in (callee := 254) (by decide +kernel)
    rw [if_pos (by decide +kernel)] at hki
    have e1 : zk_mc 254 = 0 ∧ zk_mc 252 = 0 ∧ zk_N1 252 = 80 := by decide +kernel
    have e2 : zk_ms 254 = 0 ∧ zk_ms 252 = 0 := by decide +kernel
    have hc1 : cells + zk_N1 252 ≤ 80 := hcs.1
    have hc2 : slots + zk_SZ (zk_N1 252) ≤ zk_SZ 80 := hcs.2
    have hroom : cells + zk_mc 254 ≤ R.cells ∧ slots + zk_ms 254 ≤ R.slots := by
      rw [e1.2.2] at hc1 hc2
      rw [e1.1, e2.1]
      omega
    have hw := va_runS (g := F0 m 5 la (x :: [(.inl n : zk_V), .inl i].map (zk_enc g))) (rest := []) (As := [.int (zk_I i), .int (zk_I n), x]) (below := below) (H := H) (locs := locs) (cells := cells) (slots := slots) (e := e) (meth := meth) ⟨C.1, C.2.1, C.2.2.1, C.2.2.2.1, C.2.2.2.2.1⟩ (zy_254 (μ := μ) (g := g) (l := l) hi hin hn hx) ⟨zk_callB (callee := 254) (idx := 1059) C (by decide +kernel) (by decide +kernel) (by decide +kernel) (by decide +kernel), C.2.2.2.2.1 _ hki⟩ ⟨zy_P_blind, zy_pre C hR hM hS⟩ rfl (show 3 = zk_np 254 by decide +kernel) (hl.1) rfl (lv_room (Nat.zero_le _)) (show decode (zk_cc 252) 5 = .ok (.invokestatic 1059, 3) from zy_dd (by decide +kernel)) hroom
    refine zk_after (st := []) (callee := 254) (pc := 5) (fun v S' hq => ?_) C hr hl h1 zk_ok_n hS hcs hw
    obtain ⟨μ', rfl, hv⟩ := hq
    match v, hv with
    | some (.inl r), hv =>
      obtain ⟨rfl, rfl⟩ := hv
      refine zk_r_pop (v := .inl r) (zy_dd (by decide +kernel)) (fun x q => by cases q) ?_
      exact zk_r_ret (v := none) ⟨μ', rfl, h⟩ ⟨zy_dd (by decide +kernel), by decide +kernel⟩ (show 80 = zk_N1 252 + zk_mc 252 by decide +kernel) (show zk_SZ 80 = zk_SZ (zk_N1 252) + zk_ms 252 by decide +kernel)
  rcases C.2.2.2.2.2.2.1.2.2.1 with hz | ⟨t, hz⟩
  · exact va_gets C.1 C.2.1 hz hS ow (C.2.2.2.2.1 _ (zk_in_jdk (List.mem_of_getElem? (i := 3) rfl))) (fun _ h => h) (zy_dd (mid := 252) (by decide +kernel)) (go .null (Or.inl rfl))
  · exact va_gets C.1 C.2.1 hz hS ow (C.2.2.2.2.1 _ (zk_in_jdk (List.mem_of_getElem? (i := 3) rfl))) (fun _ h => h) (zy_dd (mid := 252) (by decide +kernel)) (go (.ref t) (Or.inr ⟨t, rfl⟩))
