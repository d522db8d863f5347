/-! Math.max, min, abs *-/
set_option maxRecDepth 100000 in
theorem zk_mmax_w : Cond.code Lib.Math.max.name Lib.Math.max.code 2 (some .int) ∈ zk_gT ∧ Cond.static Lib.Math.max.name ∈ zk_gT ∧ zk_yn 246 = Lib.Math.max.name := by
  have e1 : zk_yn 246 = Lib.Math.max.name := by decide +kernel
  have e2 : zk_cc 246 = Lib.Math.max.code := by decide +kernel
  have e3 : zk_mL 246 = 2 := by decide +kernel
  have e4 : zk_rt 246 = some .int := by decide +kernel
  have h0 : 246 < zk_mtab.length := by decide +kernel
  have h1 := zk_code_in h0
  have h2 := zk_kind_in h0
  rw [if_pos (by decide +kernel)] at h2
  rw [e1, e2, e3, e4] at h1
  rw [e1] at h2
  exact ⟨h1, h2, e1⟩
set_option maxRecDepth 100000 in
theorem zk_mmin_w : Cond.code Lib.Math.min.name Lib.Math.min.code 2 (some .int) ∈ zk_gT ∧ Cond.static Lib.Math.min.name ∈ zk_gT ∧ zk_yn 247 = Lib.Math.min.name := by
  have e1 : zk_yn 247 = Lib.Math.min.name := by decide +kernel
  have e2 : zk_cc 247 = Lib.Math.min.code := by decide +kernel
  have e3 : zk_mL 247 = 2 := by decide +kernel
  have e4 : zk_rt 247 = some .int := by decide +kernel
  have h0 : 247 < zk_mtab.length := by decide +kernel
  have h1 := zk_code_in h0
  have h2 := zk_kind_in h0
  rw [if_pos (by decide +kernel)] at h2
  rw [e1, e2, e3, e4] at h1
  rw [e1] at h2
  exact ⟨h1, h2, e1⟩
set_option maxRecDepth 100000 in
theorem zk_mabs_w : Cond.code Lib.Math.abs.name Lib.Math.abs.code 1 (some .int) ∈ zk_gT ∧ Cond.static Lib.Math.abs.name ∈ zk_gT ∧ zk_yn 245 = Lib.Math.abs.name := by
  have e1 : zk_yn 245 = Lib.Math.abs.name := by decide +kernel
  have e2 : zk_cc 245 = Lib.Math.abs.code := by decide +kernel
  have e3 : zk_mL 245 = 1 := by decide +kernel
  have e4 : zk_rt 245 = some .int := by decide +kernel
  have h0 : 245 < zk_mtab.length := by decide +kernel
  have h1 := zk_code_in h0
  have h2 := zk_kind_in h0
  rw [if_pos (by decide +kernel)] at h2
  rw [e1, e2, e3, e4] at h1
  rw [e1] at h2
  exact ⟨h1, h2, e1⟩
section zk_mth
variable {mid N1 pc : Nat} {ls st : List zk_V} {S : zk_S} {Q : Option zk_V → zk_S → Prop} {idx : Nat} {x y : Int}
theorem zk_r_mmax (hd : decode (zk_cc mid) pc = .ok (.invokestatic idx, 3)) (hrow : (zk_own mid, idx, 246) ∈ zk_LK) (hcat : zk_catS st ≤ 8) (hfr : 1 ≤ zk_fr mid) (hlo : 21 ≤ zk_lo mid) (hb1 : S.1 ≤ N1 + zk_mc mid) (hb2 : zk_SZ S.1 ≤ zk_SZ N1 + zk_ms mid) (kk : zk_Ok mid N1 (pc + 3) ls (.inl (max x y) :: st) S Q) : zk_Ok mid N1 pc ls (.inl y :: .inl x :: st) S Q := by
  intro g p l e R s m args below meth c Z C hr H locs cells slots la hl h1 h2 hR hM hS hcs
  have hy : zk_rI y := (zk_ok_c.mp h2).1
  have hx : zk_rI x := (zk_ok_c.mp (zk_ok_c.mp h2).2).1
  have hst := (zk_ok_c.mp (zk_ok_c.mp h2).2).2
  have hm : zk_rI (max x y) := by unfold zk_rI at *; omega
  have em : (if zk_I x < zk_I y then zk_I y else zk_I x) = zk_I (max x y) := by
    by_cases q : x < y
    · rw [if_pos ((zk_I_lt hx hy).mpr q), Int.max_eq_right (by omega)]
    · rw [if_neg (fun z => q ((zk_I_lt hx hy).mp z)), Int.max_eq_left (by omega)]
  have w := kk g p l e R s m args below meth c Z C hr H locs cells slots la hl h1 (zk_ok_c.mpr ⟨hm, hst⟩) hR hM hS hcs
  have c1 := C.2.2.2.2.2.2.2.2.1
  have c2 := C.2.2.2.2.2.2.2.2.2.1
  have c3 := C.2.2.2.2.2.2.2.2.2.2.1
  have c4 := C.2.2.2.2.2.2.2.2.2.2.2.1
  have s1 := hcs.1
  have s2 := hcs.2
  refine va_mmax C.1 C.2.1 (by rw [C.2.2.1]; exact hl.1.symm) C.2.2.2.1 (C.2.2.2.2.1 _ (by rw [← zk_mmax_w.2.2]; exact zk_in_LK (List.mem_map.mpr ⟨_, hrow, rfl⟩))) (C.2.2.2.2.1 _ zk_mmax_w.2.1) (C.2.2.2.2.1 _ (zk_in_ini (List.mem_of_getElem? (i := 15) rfl))) (C.2.2.2.2.1 _ zk_mmax_w.1) (by omega) (by rw [zk_catS_eq]; omega) (by omega) (by omega) hd ?_
  rw [em]
  exact w
theorem zk_r_mmin (hd : decode (zk_cc mid) pc = .ok (.invokestatic idx, 3)) (hrow : (zk_own mid, idx, 247) ∈ zk_LK) (hcat : zk_catS st ≤ 8) (hfr : 1 ≤ zk_fr mid) (hlo : 21 ≤ zk_lo mid) (hb1 : S.1 ≤ N1 + zk_mc mid) (hb2 : zk_SZ S.1 ≤ zk_SZ N1 + zk_ms mid) (kk : zk_Ok mid N1 (pc + 3) ls (.inl (min x y) :: st) S Q) : zk_Ok mid N1 pc ls (.inl y :: .inl x :: st) S Q := by
  intro g p l e R s m args below meth c Z C hr H locs cells slots la hl h1 h2 hR hM hS hcs
  have hy : zk_rI y := (zk_ok_c.mp h2).1
  have hx : zk_rI x := (zk_ok_c.mp (zk_ok_c.mp h2).2).1
  have hst := (zk_ok_c.mp (zk_ok_c.mp h2).2).2
  have hm : zk_rI (min x y) := by unfold zk_rI at *; omega
  have em : (if zk_I y < zk_I x then zk_I y else zk_I x) = zk_I (min x y) := by
    by_cases q : y < x
    · rw [if_pos ((zk_I_lt hy hx).mpr q), Int.min_eq_right (by omega)]
    · rw [if_neg (fun z => q ((zk_I_lt hy hx).mp z)), Int.min_eq_left (by omega)]
  have w := kk g p l e R s m args below meth c Z C hr H locs cells slots la hl h1 (zk_ok_c.mpr ⟨hm, hst⟩) hR hM hS hcs
  have c1 := C.2.2.2.2.2.2.2.2.1
  have c2 := C.2.2.2.2.2.2.2.2.2.1
  have c3 := C.2.2.2.2.2.2.2.2.2.2.1
  have c4 := C.2.2.2.2.2.2.2.2.2.2.2.1
  have s1 := hcs.1
  have s2 := hcs.2
  refine va_mmin C.1 C.2.1 (by rw [C.2.2.1]; exact hl.1.symm) C.2.2.2.1 (C.2.2.2.2.1 _ (by rw [← zk_mmin_w.2.2]; exact zk_in_LK (List.mem_map.mpr ⟨_, hrow, rfl⟩))) (C.2.2.2.2.1 _ zk_mmin_w.2.1) (C.2.2.2.2.1 _ (zk_in_ini (List.mem_of_getElem? (i := 15) rfl))) (C.2.2.2.2.1 _ zk_mmin_w.1) (by omega) (by rw [zk_catS_eq]; omega) (by omega) (by omega) hd ?_
  rw [em]
  exact w
theorem zk_r_mabs (hd : decode (zk_cc mid) pc = .ok (.invokestatic idx, 3)) (hrow : (zk_own mid, idx, 245) ∈ zk_LK) (hcat : zk_catS st ≤ 8) (hfr : 1 ≤ zk_fr mid) (hlo : 21 ≤ zk_lo mid) (hb1 : S.1 ≤ N1 + zk_mc mid) (hb2 : zk_SZ S.1 ≤ zk_SZ N1 + zk_ms mid) (hr0 : -x ≤ 2147483647) (kk : zk_Ok mid N1 (pc + 3) ls (.inl (if 0 ≤ x then x else -x) :: st) S Q) : zk_Ok mid N1 pc ls (.inl x :: st) S Q := by
  intro g p l e R s m args below meth c Z C hr H locs cells slots la hl h1 h2 hR hM hS hcs
  have hx : zk_rI x := (zk_ok_c.mp h2).1
  have hst := (zk_ok_c.mp h2).2
  have hm : zk_rI (if 0 ≤ x then x else -x) := by unfold zk_rI at *; split <;> omega
  have em : (if 0 ≤ zk_I x then zk_I x else 0 - zk_I x) = zk_I (if 0 ≤ x then x else -x) := by
    by_cases q : 0 ≤ x
    · rw [if_pos (show (0 : Int32) ≤ zk_I x from (zk_I_le zk_r0 hx).mpr q), if_pos q]
    · rw [if_neg (show ¬ (0 : Int32) ≤ zk_I x from fun z => q ((zk_I_le zk_r0 hx).mp z)), if_neg q]
      show zk_I 0 - zk_I x = _
      rw [zk_I_sub]
      congr 1
      omega
  have w := kk g p l e R s m args below meth c Z C hr H locs cells slots la hl h1 (zk_ok_c.mpr ⟨hm, hst⟩) hR hM hS hcs
  have c1 := C.2.2.2.2.2.2.2.2.1
  have c2 := C.2.2.2.2.2.2.2.2.2.1
  have c3 := C.2.2.2.2.2.2.2.2.2.2.1
  have c4 := C.2.2.2.2.2.2.2.2.2.2.2.1
  have s1 := hcs.1
  have s2 := hcs.2
  refine va_mabs C.1 C.2.1 (by rw [C.2.2.1]; exact hl.1.symm) C.2.2.2.1 (C.2.2.2.2.1 _ (by rw [← zk_mabs_w.2.2]; exact zk_in_LK (List.mem_map.mpr ⟨_, hrow, rfl⟩))) (C.2.2.2.2.1 _ zk_mabs_w.2.1) (C.2.2.2.2.1 _ (zk_in_ini (List.mem_of_getElem? (i := 15) rfl))) (C.2.2.2.2.1 _ zk_mabs_w.1) (by omega) (by rw [zk_catS_eq]; omega) (by omega) (by omega) hd ?_
  rw [em]
  exact w
end zk_mth
