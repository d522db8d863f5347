/-! String.charAt of the words *-/
theorem zy_schar {μ : zk_M} {B : Int → zk_M → Prop} {i : Nat} (hi : i < 77) (h : B (zt_W i) μ) : zk_C 249 [.inr (.inr (.inr 1)), .inl (i : Int)] μ (zk_RI B) := by
  refine zk_ct (show (plainName (zk_yn 249).cls && (Nat.ble 2 (zk_mL 249) && (!Nat.beq (zk_kd 249) 2 && Nat.beq (zk_N1 249) 80))) = true by decide +kernel) ?_
  have ho : zk_cn (zk_own 249) = "java/lang/String" := by decide +kernel
  have mL : zk_mL 249 = 2 := by decide +kernel
  have wd := zy_wd i hi
  rw [mL]
  refine zk_r_aload_n (j := 0) (v := .inr (.inr (.inr 1))) (zy_dd (by decide +kernel)) rfl rfl ?_
  refine zk_r_invVS (callee := 251) (idx := 492) (as := []) (st := []) (Q1 := fun v S' => ∃ μ', S' = (80, zk_rho, μ') ∧ zk_RI (fun r μ' => r = 1 ∧ μ' = μ) v μ') (zy_dd (by decide +kernel)) (by decide +kernel) (by decide +kernel) (by decide +kernel) (by decide +kernel) (by decide +kernel) (by decide +kernel) (by decide +kernel) (by decide +kernel) (show 80 + zk_mc 251 ≤ zk_N1 249 + zk_mc 249 by decide +kernel) (show zk_SZ 80 + zk_ms 251 ≤ zk_SZ (zk_N1 249) + zk_ms 249 by decide +kernel) (zy_latin (B := fun r μ' => r = 1 ∧ μ' = μ) ⟨rfl, rfl⟩) (fun v S' hq => ?_)
  obtain ⟨μ', rfl, hv⟩ := hq
  match v, hv with
  | some (.inl r), hv =>
    obtain ⟨rfl, rfl⟩ := hv
    refine zk_r_if_eq (off := 12) (tgt := 16) (zy_dd (by decide +kernel)) rfl (fun q => absurd q (by decide)) (fun _ => ?_)
    refine zk_r_aload_n (j := 0) (v := .inr (.inr (.inr 1))) (zy_dd (by decide +kernel)) rfl rfl ?_
    intro g p l e R s m args below meth c Z C hr H locs cells slots la hl h1 h2 hR hM hS hcs
    have ow : s.vm.findClass "java/lang/String" = some m.cls := by rw [← ho]; exact C.2.2.2.1
    have E := C.2.2.2.2.2.2.1.1.1 0 (by decide)
    have l1 : la[1]? = some (.val (.int (zk_I (i : Int)))) := hl.2.2 1 (.inl (i : Int)) rfl rfl
    refine vk_getf C.1 C.2.1 E.2.2.1 hS ow (C.2.2.2.2.1 _ (zk_in_jdk (List.mem_of_getElem? (i := 2) rfl))) (fun _ h => h) (show decode (zk_cc 249) 8 = .ok (.getfield 9, 3) from zy_dd (by decide +kernel)) ?_
    refine lv_iload_n C.1 C.2.1 (show decode (zk_cc 249) 11 = .ok (.iload_n 1, 1) from zy_dd (by decide +kernel)) rfl l1 ?_
    have hki := zk_kind_in (callee := 253) (by decide +kernel)
    rw [if_pos (by decide +kernel)] at hki
    have hc1 : cells + zk_N1 249 ≤ 80 := hcs.1
    have hc2 : slots + zk_SZ (zk_N1 249) ≤ zk_SZ 80 := hcs.2
    have hroom : cells + zk_mc 253 ≤ R.cells ∧ slots + zk_ms 253 ≤ R.slots := by
      rw [show zk_N1 249 = 80 by decide +kernel] at hc1 hc2
      rw [show zk_mc 253 = 0 by decide +kernel, show zk_ms 253 = 0 by decide +kernel]
      omega
    have hw := va_runS (g := F0 m 12 la [.int (zk_I (i : Int)), .ref (zk_tv g)]) (rest := []) (As := [.ref (zk_tv g), .int (zk_I (i : Int))]) (below := below) (H := H) (locs := locs) (cells := cells) (slots := slots) (e := e) (meth := meth) ⟨C.1, C.2.1, C.2.2.1, C.2.2.2.1, C.2.2.2.2.1⟩ (zy_253 (μ := μ') (g := g) (l := l) hi) ⟨zk_callB (callee := 253) (idx := 495) C (by decide +kernel) (by decide +kernel) (by decide +kernel) (by decide +kernel), C.2.2.2.2.1 _ hki⟩ ⟨zy_P_blind, zy_pre C hR hM hS⟩ rfl (show 2 = zk_np 253 by decide +kernel) (hl.1) rfl (lv_room (Nat.zero_le _)) (show decode (zk_cc 249) 12 = .ok (.invokestatic 495, 3) from zy_dd (by decide +kernel)) hroom
    refine zk_after (st := []) (callee := 253) (pc := 12) (fun v S' hq => ?_) C hr hl h1 zk_ok_n hS hcs hw
    obtain ⟨μ2, rfl, hv⟩ := hq
    match v, hv with
    | some (.inl r), hv =>
      obtain ⟨rfl, rfl⟩ := hv
      exact zk_r_ret (v := some (.inl (zt_W i))) ⟨μ2, rfl, h⟩ ⟨zy_dd (by decide +kernel), .char, by decide +kernel, zk_nar_char wd.1 (by omega)⟩ (show 80 = zk_N1 249 + zk_mc 249 by decide +kernel) (show zk_SZ 80 = zk_SZ (zk_N1 249) + zk_ms 249 by decide +kernel)
