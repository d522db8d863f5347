/-! charAt *-/
theorem zy_vin {i : Nat} (h : i < 77) : vp_in (zk_I (i : Int)) 77 ∧ (zk_I (i : Int)).toNatClampNeg = i := by
  have hr : zk_rI (i : Int) := by unfold zk_rI; omega
  have e : (zk_I (i : Int)).toNatClampNeg = i := by
    show (zk_I (i : Int)).toInt.toNat = i
    rw [zk_I_toInt hr]
    rfl
  refine ⟨?_, e⟩
  rw [vp_in_iff, zk_I_toInt hr]
  omega
theorem zy_wd : ∀ i : Nat, i < 77 → 0 ≤ zt_W i ∧ zt_W i ≤ 127 ∧ zk_and (zt_W i) 255 = zt_W i := by decide +kernel
section
variable {mid N1 pc callee : Nat} {S : zk_S} {Q1 : Option zk_V → zk_S → Prop}
/-- behind a call, the frame as it is *-/
theorem zy_after {g : zk_G} {p : Program} {l : Launch} {e : Env} {R : Room} {s : State} {m : MethodId} {args : Array Value} {below : List Frame} {meth : Method} {c : Code} {Z : State → Prop}
    {H : Heap} {locs : List Loc} {cells slots : Nat} {la : Array Slot} (hS : va_S (zk_A g) s.heap H locs) (hc : zk_cs N1 S cells slots) {st0 rest : List Value} {a : Array Value}
    (kk : ∀ (v : Option zk_V) (S' : zk_S) (H' : Heap) (locs' : List Loc) (cells' slots' : Nat), Q1 v S' → (∀ x, v = some x → zk_okV x) → zk_RH g S' H' → zk_MG S' → va_S (zk_A g) s.heap H' locs' → zk_cs N1 S' cells' slots' → W p l e R s m args below meth c H' locs' cells' slots' Z (F0 m (pc + 3) la ((v.map (zk_enc g)).toList ++ rest)))
    (hrun : va_Run p l e R s m args below meth c H locs cells slots (zk_mc callee) (zk_ms callee) (F0 m pc la st0) rest (zk_Qc g callee S Q1 a) (zk_A g)) : W p l e R s m args below meth c H locs cells slots Z (F0 m pc la st0) := by
  intro T hT X
  obtain ⟨v, st₀, t, T', L, e0, X', hL, e1, e2, ⟨⟨v', S', hv, hok, hq, hR', hM', hN', hZ'⟩, hz, hkp⟩, hst⟩ := hrun T hT X
  cases hv
  rw [e0] at hz hkp
  have hS' : va_S (zk_A g) s.heap t.heap (locs ++ L) := by
    refine ⟨Nat.le_trans hS.1 hz, fun q g1 g2 => by rw [hkp q (Nat.lt_of_lt_of_le g1 hS.1) g2]; exact hS.2.1 q g1 g2, fun q hq => ?_⟩
    rcases List.mem_append.mp hq with h | h
    · exact hS.2.2 q h
    · exact hL q h
  have hw := kk v' S' t.heap (locs ++ L) (cells + zk_mc callee) (slots + zk_ms callee) hq hok hR' hM' hS' ⟨by have := hc.1; omega, by have := hc.2; omega⟩
  obtain ⟨t2, a1, b1⟩ := hw T' e1 X'
  exact ⟨t2, hst t2 a1, b1⟩
end
theorem zy_253 {μ : zk_M} {i : Nat} {g : zk_G} {l : Launch} (hi : i < 77) : Met l (zk_yn 253) (zk_ws 253) (zk_rm 253) (zy_P g [.ref (zk_tv g), .int (zk_I (i : Int))] (80, zk_rho, μ)) (zk_Qc g 253 (80, zk_rho, μ) (fun v S' => ∃ μ', S' = (80, zk_rho, μ') ∧ zk_RI (fun r μ' => r = zt_W i ∧ μ' = μ) v μ')) (zk_mc 253) (zk_ms 253) (zk_A g) := by
  have mL : zk_mL 253 = 2 := by decide +kernel
  have wd := zy_wd i hi
  have vin := zy_vin hi
  refine zy_enter (by decide +kernel) ?_ (by decide +kernel) ?_
  · rw [mL]
    simp [lg_sl, Value.category]
  · intro p e R s m args below meth c Z C hR hM hr la hla
    have l0 : la[0]? = some (.val (.ref (zk_tv g))) := hla.2.2 (0, .ref (zk_tv g)) (by simp [lv_args])
    have l1 : la[1]? = some (.val (.int (zk_I (i : Int)))) := hla.2.2 (1, .int (zk_I (i : Int))) (by simp [lv_args, Value.category])
    have E := C.2.2.2.2.2.2.1.1.1 0 (by decide)
    have ri : zk_rI (i : Int) := by unfold zk_rI; omega
    have LR : zk_LR g la (zk_mL 253) [.inr (.inr (.inr 0)), .inl (i : Int)] := ⟨hla.1, hla.2.1, fun j v hj hv => by
      match j, hj with
      | 0, hj =>
        cases hj
        exact absurd hv (by decide)
      | 1, hj =>
        cases hj
        exact l1⟩
    refine lv_iload_n C.1 C.2.1 (show decode (zk_cc 253) 0 = .ok (.iload_n 1, 1) from zy_dd (by decide +kernel)) rfl l1 ?_
    refine lv_aload_n C.1 C.2.1 (show decode (zk_cc 253) 1 = .ok (.aload_n 0, 1) from zy_dd (by decide +kernel)) rfl l0 ?_
    refine va_tlen C.1 C.2.1 E.2.2.2 va_S.rf (v := zk_I 77) rfl (show decode (zk_cc 253) 2 = .ok (.arraylength, 1) from zy_dd (by decide +kernel)) ?_
    have hki := zk_kind_in (callee := 252) (by decide +kernel)
    rw [if_pos (by decide +kernel)] at hki
    have hct := zy_252 (μ := μ) (BV := fun μ' => μ' = μ) (i := (i : Int)) (n := 77) (by omega) (by omega) (by omega) rfl
    have hroom : 0 + zk_mc 252 ≤ R.cells ∧ 0 + zk_ms 252 ≤ R.slots := by
      rw [show zk_mc 252 = 0 by decide +kernel, show zk_ms 252 = 0 by decide +kernel]
      omega
    have hw := va_runS (g := F0 m 3 la [.int (zk_I 77), .int (zk_I (i : Int))]) (rest := []) (As := [(.inl (i : Int) : zk_V), .inl 77].map (zk_enc g)) (below := below) (H := s.heap) (locs := []) (cells := 0) (slots := 0) (e := e) (meth := meth) ⟨C.1, C.2.1, C.2.2.1, C.2.2.2.1, C.2.2.2.2.1⟩ (hct l g) ⟨zk_callB (callee := 252) (idx := 9) C (by decide +kernel) (by decide +kernel) (by decide +kernel) (by decide +kernel), C.2.2.2.2.1 _ hki⟩ ⟨zk_Pc_blind, zk_pre C (zk_ok_c.mpr ⟨ri, zk_ok_c.mpr ⟨(show zk_rI 77 by unfold zk_rI; omega), zk_ok_n⟩⟩) hR hM va_S.rf⟩ rfl (show 2 = zk_np 252 by decide +kernel) hla.1 rfl (lv_room (Nat.zero_le _)) (show decode (zk_cc 253) 3 = .ok (.invokestatic 9, 3) from zy_dd (by decide +kernel)) hroom
    refine zy_after (pc := 3) (N1 := 80) (S := (80, zk_rho, μ)) va_S.rf ⟨by show 0 + 80 ≤ 80; omega, by show 0 + zk_SZ 80 ≤ zk_SZ 80; omega⟩ (fun v S' H' locs' cells' slots' hq hok hR' hM' hS' hc' => ?_) hw
    obtain ⟨μ', rfl, hv⟩ := hq
    match v, hv with
    | none, hv =>
      have hv : μ' = μ := hv
      subst hv
      refine lv_aload_n C.1 C.2.1 (show decode (zk_cc 253) 6 = .ok (.aload_n 0, 1) from zy_dd (by decide +kernel)) rfl l0 ?_
      refine lv_iload_n C.1 C.2.1 (show decode (zk_cc 253) 7 = .ok (.iload_n 1, 1) from zy_dd (by decide +kernel)) rfl l1 ?_
      refine va_tb C.1 C.2.1 E.2.2.2 hS' (i := zk_I (i : Int)) vin.1 (v := .int (zk_I (zt_W i))) ?_ (show decode (zk_cc 253) 8 = .ok (.baload, 1) from zy_dd (by decide +kernel)) ?_
      · rw [vin.2]
        show Value.int (zk_wordsL.getD i 0) = _
        unfold zt_W zk_I
        rw [Int32.ofInt_toInt]
      · have K : zk_Ok 253 80 9 [.inr (.inr (.inr 0)), .inl (i : Int)] [.inl (zt_W i)] (80, zk_rho, μ') (fun v S' => ∃ μ2, S' = (80, zk_rho, μ2) ∧ zk_RI (fun r μ2 => r = zt_W i ∧ μ2 = μ') v μ2) := by
          refine zk_r_sipush (n := 255) (zy_dd (by decide +kernel)) (by decide +kernel) (by unfold zk_rI; omega) ?_
          refine zk_r_iand (x := zt_W i) (y := 255) (zy_dd (by decide +kernel)) ?_
          rw [wd.2.2]
          refine zk_r_i2c (x := zt_W i) (zy_dd (by decide +kernel)) wd.1 (by omega) ?_
          exact zk_r_ret (v := some (.inl (zt_W i))) ⟨μ', rfl, rfl, rfl⟩ ⟨zy_dd (by decide +kernel), .char, by decide +kernel, zk_nar_char wd.1 (by omega)⟩ (show 80 = 80 + zk_mc 253 by decide +kernel) (show zk_SZ 80 = zk_SZ 80 + zk_ms 253 by decide +kernel)
        exact K g p l e R s m args below meth c Z C hr H' locs' cells' slots' la LR (zk_ok_c.mpr ⟨trivial, zk_ok_c.mpr ⟨ri, zk_ok_n⟩⟩) (zk_ok_c.mpr ⟨(show zk_rI (zt_W i) by unfold zk_rI; omega), zk_ok_n⟩) hR' hM' hS' hc'
