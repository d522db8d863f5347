/-! String.length and charAt of the words: the machine's side *-/
theorem zy_dd {mid pc n : Nat} {i : Instr} (h : (match decode (zk_cc mid) pc with
    | .ok (j, k) => decide (j = i) && Nat.beq k n
    | _ => false) = true) : decode (zk_cc mid) pc = .ok (i, n) := by
  split at h
  · rename_i j k e
    rw [e]
    have h := (Bool.and_eq_true _ _).mp h
    rw [of_decide_eq_true h.1, Nat.eq_of_beq_eq_true h.2]
  · exact absurd h (by decide)
section
variable {mid N1 pc : Nat} {ls st : List zk_V} {S : zk_S} {Q : Option zk_V → zk_S → Prop}
theorem zy_vlen (ho : zk_cn (zk_own mid) = "java/lang/String") (hd : decode (zk_cc mid) pc = .ok (.getfield 9, 3)) (hd2 : decode (zk_cc mid) (pc + 3) = .ok (.arraylength, 1)) (kk : zk_Ok mid N1 (pc + 4) ls (.inl 77 :: st) S Q) : zk_Ok mid N1 pc ls (.inr (.inr (.inr 1)) :: st) S Q := by
  refine zk_go kk (fun _ h _ => zk_ok_c.mpr ⟨(show zk_rI 77 by unfold zk_rI; omega), (zk_ok_c.mp h).2⟩) (fun g p l e R s m args below meth c H locs cells slots Z la C hl h1 h2 hR hM hS w => ?_)
  have E := C.2.2.2.2.2.2.1.1.1 0 (by decide)
  have ow : s.vm.findClass "java/lang/String" = some m.cls := by rw [← ho]; exact C.2.2.2.1
  refine vk_getf C.1 C.2.1 E.2.2.1 hS ow (C.2.2.2.2.1 _ (zk_in_jdk (List.mem_of_getElem? (i := 2) rfl))) (fun _ h => h) hd ?_
  exact va_tlen C.1 C.2.1 E.2.2.2 hS (v := zk_I 77) rfl hd2 w
theorem zy_cod (ho : zk_cn (zk_own mid) = "java/lang/String") (hd : decode (zk_cc mid) pc = .ok (.getfield 15, 3)) (kk : zk_Ok mid N1 (pc + 3) ls (.inl 0 :: st) S Q) : zk_Ok mid N1 pc ls (.inr (.inr (.inr 1)) :: st) S Q := by
  refine zk_go kk (fun _ h _ => zk_ok_c.mpr ⟨(show zk_rI 0 by unfold zk_rI; omega), (zk_ok_c.mp h).2⟩) (fun g p l e R s m args below meth c H locs cells slots Z la C hl h1 h2 hR hM hS w => ?_)
  have E := C.2.2.2.2.2.2.1.1.1 0 (by decide)
  have ow : s.vm.findClass "java/lang/String" = some m.cls := by rw [← ho]; exact C.2.2.2.1
  exact vk_getf C.1 C.2.1 E.2.1 hS ow (C.2.2.2.2.1 _ (zk_in_jdk (List.mem_of_getElem? (i := 1) rfl))) (fun _ h => h) hd w
theorem zy_cs (ho : zk_cn (zk_own mid) = "java/lang/String") (hd : decode (zk_cc mid) pc = .ok (.getstatic 38, 3)) (kk : zk_Ok mid N1 (pc + 3) ls (.inl 1 :: st) S Q) : zk_Ok mid N1 pc ls st S Q := by
  refine zk_go kk (fun _ h _ => zk_ok_c.mpr ⟨(show zk_rI 1 by unfold zk_rI; omega), h⟩) (fun g p l e R s m args below meth c H locs cells slots Z la C hl h1 h2 hR hM hS w => ?_)
  have ow : s.vm.findClass "java/lang/String" = some m.cls := by rw [← ho]; exact C.2.2.2.1
  exact va_gets C.1 C.2.1 C.2.2.2.2.2.2.1.2.1 hS ow (C.2.2.2.2.1 _ (zk_in_jdk (List.mem_of_getElem? (i := 0) rfl))) (fun _ h => h) hd w
end
theorem zy_coder {μ : zk_M} {B : Int → zk_M → Prop} (h : B 0 μ) : zk_C 250 [.inr (.inr (.inr 1))] μ (zk_RI B) := by
  refine zk_ct (by decide +kernel) ?_
  have ho : zk_cn (zk_own 250) = "java/lang/String" := by decide +kernel
  have mL : zk_mL 250 = 1 := by decide +kernel
  rw [mL]
  refine zy_cs ho (zy_dd (by decide +kernel)) ?_
  refine zk_r_if_eq (off := 10) (tgt := 13) (zy_dd (by decide +kernel)) rfl (fun q => absurd q (by decide)) (fun _ => ?_)
  refine zk_r_aload_n (j := 0) (v := .inr (.inr (.inr 1))) (zy_dd (by decide +kernel)) rfl rfl ?_
  refine zy_cod ho (zy_dd (by decide +kernel)) ?_
  refine zk_r_goto (off := 4) (tgt := 14) (zy_dd (by decide +kernel)) rfl ?_
  refine zk_r_ret (v := some (.inl 0)) ⟨μ, rfl, h⟩ ⟨zy_dd (by decide +kernel), .byte, by decide +kernel, rfl⟩ (show 80 = zk_N1 250 + zk_mc 250 by decide +kernel) (show zk_SZ 80 = zk_SZ (zk_N1 250) + zk_ms 250 by decide +kernel)
theorem zy_latin {μ : zk_M} {B : Int → zk_M → Prop} (h : B 1 μ) : zk_C 251 [.inr (.inr (.inr 1))] μ (zk_RI B) := by
  refine zk_ct (by decide +kernel) ?_
  have ho : zk_cn (zk_own 251) = "java/lang/String" := by decide +kernel
  have mL : zk_mL 251 = 1 := by decide +kernel
  rw [mL]
  refine zy_cs ho (zy_dd (by decide +kernel)) ?_
  refine zk_r_if_eq (off := 14) (tgt := 17) (zy_dd (by decide +kernel)) rfl (fun q => absurd q (by decide)) (fun _ => ?_)
  refine zk_r_aload_n (j := 0) (v := .inr (.inr (.inr 1))) (zy_dd (by decide +kernel)) rfl rfl ?_
  refine zy_cod ho (zy_dd (by decide +kernel)) ?_
  refine zk_r_if_ne (off := 7) (tgt := 17) (zy_dd (by decide +kernel)) rfl (fun q => absurd rfl q) (fun _ => ?_)
  refine zk_r_iconst (n := 1) (zy_dd (by decide +kernel)) (by unfold zk_rI; omega) ?_
  refine zk_r_goto (off := 4) (tgt := 18) (zy_dd (by decide +kernel)) rfl ?_
  exact zk_r_ret (v := some (.inl 1)) ⟨μ, rfl, h⟩ ⟨zy_dd (by decide +kernel), .boolean, by decide +kernel, rfl⟩ (show 80 = zk_N1 251 + zk_mc 251 by decide +kernel) (show zk_SZ 80 = zk_SZ (zk_N1 251) + zk_ms 251 by decide +kernel)
theorem zy_slen {μ : zk_M} {B : Int → zk_M → Prop} (h : B 77 μ) : zk_C 248 [.inr (.inr (.inr 1))] μ (zk_RI B) := by
  refine zk_ct (by decide +kernel) ?_
  have ho : zk_cn (zk_own 248) = "java/lang/String" := by decide +kernel
  have mL : zk_mL 248 = 1 := by decide +kernel
  rw [mL]
  refine zk_r_aload_n (j := 0) (v := .inr (.inr (.inr 1))) (zy_dd (by decide +kernel)) rfl rfl ?_
  refine zy_vlen ho (zy_dd (by decide +kernel)) (zy_dd (by decide +kernel)) ?_
  refine zk_r_aload_n (j := 0) (v := .inr (.inr (.inr 1))) (zy_dd (by decide +kernel)) rfl rfl ?_
  refine zk_r_invVS (callee := 250) (idx := 335) (as := []) (st := [.inl 77]) (Q1 := fun v S' => ∃ μ', S' = (80, zk_rho, μ') ∧ zk_RI (fun r μ' => r = 0 ∧ μ' = μ) v μ') (zy_dd (by decide +kernel)) (by decide +kernel) (by decide +kernel) (by decide +kernel) (by decide +kernel) (by decide +kernel) (by decide +kernel) (by decide +kernel) (by decide +kernel) (show 80 + zk_mc 250 ≤ zk_N1 248 + zk_mc 248 by decide +kernel) (show zk_SZ 80 + zk_ms 250 ≤ zk_SZ (zk_N1 248) + zk_ms 248 by decide +kernel) (zy_coder (B := fun r μ' => r = 0 ∧ μ' = μ) ⟨rfl, rfl⟩) (fun v S' hq => ?_)
  obtain ⟨μ', rfl, hv⟩ := hq
  match v, hv with
  | some (.inl r), hv =>
    obtain ⟨rfl, rfl⟩ := hv
    refine zk_r_ishr (x := 77) (y := 0) (zy_dd (by decide +kernel)) ?_
    rw [show zk_shr 77 0 = 77 by decide +kernel]
    exact zk_r_ret (v := some (.inl 77)) ⟨μ', rfl, h⟩ ⟨zy_dd (by decide +kernel), .int, by decide +kernel, rfl⟩ (show 80 = zk_N1 248 + zk_mc 248 by decide +kernel) (show zk_SZ 80 = zk_SZ (zk_N1 248) + zk_ms 248 by decide +kernel)
