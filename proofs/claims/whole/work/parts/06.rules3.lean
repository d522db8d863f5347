/-! rules: memory, returns, calls -/
theorem zk_in_code {w : Cond} (h : w ∈ zk_wcode) : w ∈ zk_gT := List.mem_append_left _ h
theorem zk_in_kind {w : Cond} (h : w ∈ zk_wkind) : w ∈ zk_gT := List.mem_append_right _ (List.mem_append_left _ h)
theorem zk_in_sel {w : Cond} (h : w ∈ zk_wsel) : w ∈ zk_gT := List.mem_append_right _ (List.mem_append_right _ (List.mem_append_left _ h))
theorem zk_in_ini {w : Cond} (h : w ∈ zk_wini) : w ∈ zk_gT := List.mem_append_right _ (List.mem_append_right _ (List.mem_append_right _ (List.mem_append_left _ h)))
theorem zk_in_LK {w : Cond} (h : w ∈ zk_wLK) : w ∈ zk_gT := List.mem_append_right _ (List.mem_append_right _ (List.mem_append_right _ (List.mem_append_right _ (List.mem_append_left _ h))))
theorem zk_in_AK {w : Cond} (h : w ∈ zk_wAK) : w ∈ zk_gT := List.mem_append_right _ (List.mem_append_right _ (List.mem_append_right _ (List.mem_append_right _ (List.mem_append_right _ (List.mem_append_left _ h)))))
theorem zk_in_OK {w : Cond} (h : w ∈ zk_wOK) : w ∈ zk_gT := List.mem_append_right _ (List.mem_append_right _ (List.mem_append_right _ (List.mem_append_right _ (List.mem_append_right _ (List.mem_append_right _ (List.mem_append_left _ h))))))
theorem zk_in_FL {w : Cond} (h : w ∈ zk_wFL) : w ∈ zk_gT := List.mem_append_right _ (List.mem_append_right _ (List.mem_append_right _ (List.mem_append_right _ (List.mem_append_right _ (List.mem_append_right _ (List.mem_append_right _ (List.mem_append_left _ h)))))))
theorem zk_in_lay {w : Cond} (h : w ∈ zk_wlay) : w ∈ zk_gT := List.mem_append_right _ (List.mem_append_right _ (List.mem_append_right _ (List.mem_append_right _ (List.mem_append_right _ (List.mem_append_right _ (List.mem_append_right _ (List.mem_append_right _ (List.mem_append_left _ h))))))))
theorem zk_in_CL {w : Cond} (h : w ∈ zk_wCL) : w ∈ zk_gT := List.mem_append_right _ (List.mem_append_right _ (List.mem_append_right _ (List.mem_append_right _ (List.mem_append_right _ (List.mem_append_right _ (List.mem_append_right _ (List.mem_append_right _ (List.mem_append_right _ (List.mem_append_left _ h)))))))))
theorem zk_in_new {w : Cond} (h : w ∈ zk_wnew) : w ∈ zk_gT := List.mem_append_right _ (List.mem_append_right _ (List.mem_append_right _ (List.mem_append_right _ (List.mem_append_right _ (List.mem_append_right _ (List.mem_append_right _ (List.mem_append_right _ (List.mem_append_right _ (List.mem_append_right _ (List.mem_append_left _ h))))))))))
theorem zk_in_CT {w : Cond} (h : w ∈ zk_wCT) : w ∈ zk_gT := List.mem_append_right _ (List.mem_append_right _ (List.mem_append_right _ (List.mem_append_right _ (List.mem_append_right _ (List.mem_append_right _ (List.mem_append_right _ (List.mem_append_right _ (List.mem_append_right _ (List.mem_append_right _ (List.mem_append_right _ (List.mem_append_left _ h)))))))))))
theorem zk_in_LT {w : Cond} (h : w ∈ zk_wLT) : w ∈ zk_gT := List.mem_append_right _ (List.mem_append_right _ (List.mem_append_right _ (List.mem_append_right _ (List.mem_append_right _ (List.mem_append_right _ (List.mem_append_right _ (List.mem_append_right _ (List.mem_append_right _ (List.mem_append_right _ (List.mem_append_right _ (List.mem_append_right _ (List.mem_append_left _ h))))))))))))
theorem zk_in_etc {w : Cond} (h : w ∈ zk_wetc) : w ∈ zk_gT := List.mem_append_right _ (List.mem_append_right _ (List.mem_append_right _ (List.mem_append_right _ (List.mem_append_right _ (List.mem_append_right _ (List.mem_append_right _ (List.mem_append_right _ (List.mem_append_right _ (List.mem_append_right _ (List.mem_append_right _ (List.mem_append_right _ (List.mem_append_right _ (List.mem_append_left _ h)))))))))))))
theorem zk_in_jdk {w : Cond} (h : w ∈ zk_wjdk) : w ∈ zk_gT := List.mem_append_right _ (List.mem_append_right _ (List.mem_append_right _ (List.mem_append_right _ (List.mem_append_right _ (List.mem_append_right _ (List.mem_append_right _ (List.mem_append_right _ (List.mem_append_right _ (List.mem_append_right _ (List.mem_append_right _ (List.mem_append_right _ (List.mem_append_right _ (List.mem_append_right _ (h))))))))))))))
theorem zk_lay_in {ci : Nat} (h : ci < 13) : ∀ w ∈ u_ws (zk_cn ci) (zk_TT ci) (zk_nf ci), w ∈ zk_gT := fun w hw => zk_in_lay (List.mem_flatMap.mpr ⟨ci, List.mem_range.mpr h, hw⟩)
theorem zk_cl_at {ci : Nat} (h : ci < 13) : zk_cl[ci]? = some (zk_cn ci, zk_TT ci, zk_nf ci) := by
  unfold zk_cl
  rw [List.getElem?_map, List.getElem?_range h]
  rfl
theorem zk_FL_in {o idx ci i : Nat} (h : (o, idx, ci, i) ∈ zk_FL) : Cond.fieldLink (zk_cn o) idx (zk_TT ci i).1 (zk_TT ci i).2.1 (zk_TT ci i).2.2.1 ∈ zk_gT := zk_in_FL (List.mem_map.mpr ⟨_, h, rfl⟩)
theorem zk_ty_ok : ∀ ci, ci < 13 → ∀ k, k < zk_nf ci → parseFieldDescriptor (zk_TT ci k).2.2.1 = some (zk_ty ci k) := by decide +kernel
theorem zk_nm_ok : ∀ ci, ci < 13 → ∀ a, a < zk_nf ci → ∀ b, b < zk_nf ci → a ≠ b → (zk_TT ci a).2.1 ≠ (zk_TT ci b).2.1 := by decide +kernel
theorem zk_FL_ok : ∀ r ∈ zk_FL, r.2.2.1 < 13 ∧ r.2.2.2 < zk_nf r.2.2.1 := by decide +kernel
theorem zk_encC_o {g : zk_G} {S : zk_S} {k ci : Nat} (h : zk_sh k = ci) (hc : ci < 13) : zk_encC g S k = .inr (ci, zk_fs g S k) := by
  unfold zk_encC
  rw [if_pos (by omega), h]
theorem zk_encC_a {g : zk_G} {S : zk_S} {k t : Nat} (h : zk_sh k = t) (hc : 13 ≤ t) : zk_encC g S k = .inl (zk_aC g t, zk_sz k, zk_ar g S k) := by
  unfold zk_encC
  rw [if_neg (by omega), h]
theorem zk_fs_at {g : zk_G} {S : zk_S} {k ci i : Nat} (h : zk_sh k = ci) (hi : i < zk_nf ci) : (zk_fs g S k)[i]? = some (zk_encF g (zk_ft ci i) (S.2.1 k (i : Int)) (S.2.2 k (i : Int))) := by
  unfold zk_fs
  rw [h, List.getElem?_map, List.getElem?_range hi]
  rfl
theorem zk_one {g : zk_G} {S : zk_S} {H : Heap} {k : Nat} (hR : zk_RH g S H) (h1 : 1 ≤ k) (h2 : k ≤ S.1) : va_P (zk_D g) zk_cl [(zk_a0 g + k, zk_encC g S k)] H := fun j q hq => by
  have hj : j < 1 := (List.getElem?_eq_some_iff.mp hq).1
  rw [show j = 0 by omega] at hq
  cases hq
  exact hR.2.2.1 k h1 h2
def zk_fv (S : zk_S) (k t : Nat) (i : Int) : zk_V := match t with
  | 1 => .inr (.inl (S.2.2 k i))
  | 3 => .inr (.inr (.inl (S.2.1 k i)))
  | _ => .inl (S.2.2 k i)
theorem zk_fv_enc (g : zk_G) (S : zk_S) (k t : Nat) (i : Int) : zk_enc g (zk_fv S k t i) = zk_encF g t (S.2.1 k i) (S.2.2 k i) := by
  match t with
  | 0 => rfl
  | 1 => rfl
  | 2 => rfl
  | 3 => rfl
  | (_ + 4) => rfl
theorem zk_fv_ok {S : zk_S} {k t : Nat} {i : Int} (hM : zk_MG S) (h : t = 1 ∨ zk_lg k i = false) : zk_okV (zk_fv S k t i) := by
  match t, h with
  | 0, h => exact (hM k i).2 (h.resolve_left (by omega))
  | 1, _ => exact (hM k i).1
  | 2, h => exact (hM k i).2 (h.resolve_left (by omega))
  | 3, _ => trivial
  | (_ + 4), h => exact (hM k i).2 (h.resolve_left (by omega))
theorem zk_lg_o {k ci i : Nat} (h : zk_sh k = ci) (hc : ci < 13) : zk_ft ci i = 1 ∨ zk_lg k (i : Int) = false := by
  by_cases e : zk_ft ci i = 1
  · exact Or.inl e
  · right
    unfold zk_lg
    rw [h]
    simp [e]
    omega
theorem zk_lg_a {k t : Nat} (i : Int) (h : zk_sh k = t) (hc : 13 ≤ t) (h2 : t ≠ 101) : zk_lg k i = false := by
  unfold zk_lg
  rw [h]
  have : zk_ft t i.toNat = 0 := by
    unfold zk_ft
    rw [show zk_ftL.getD t [] = [] from by
      rw [List.getD_eq_getElem?_getD, List.getElem?_eq_none (by show 13 ≤ t; exact hc)]; rfl]
    rfl
  rw [this]
  simp [h2]
section zk_rules3
variable {mid N1 pc : Nat} {ls st : List zk_V} {S : zk_S} {Q : Option zk_V → zk_S → Prop}
theorem zk_r_getf {idx ci i k : Nat} (hd : decode (zk_cc mid) pc = .ok (.getfield idx, 3)) (hrow : (zk_own mid, idx, ci, i) ∈ zk_FL) (hsh : zk_sh k = ci) (hk1 : 1 ≤ k) (hk : k ≤ S.1) (kk : zk_Ok mid N1 (pc + 3) ls (zk_fv S k (zk_ft ci i) (i : Int) :: st) S Q) : zk_Ok mid N1 pc ls (.inr (.inr (.inl k)) :: st) S Q := by
  obtain ⟨hci, hi⟩ := zk_FL_ok _ hrow
  refine zk_go kk (fun _ h hM => zk_ok_c.mpr ⟨zk_fv_ok hM (zk_lg_o hsh hci), (zk_ok_c.mp h).2⟩) (fun g p l e R s m args below meth c H locs cells slots Z la C hl h1 h2 hR hM hS w => ?_)
  have hP := zk_one hR hk1 hk
  obtain ⟨k', rfl⟩ : ∃ k', k = k' + 1 := ⟨k - 1, by omega⟩
  have hlink := C.2.2.2.2.1 _ (zk_FL_in hrow)
  rw [List.map_cons, zk_fv_enc] at w
  exact va_get (D := zk_D g) (ci := ci) (C := zk_cn ci) (T := zk_TT ci) (N := zk_nf ci) C.1 C.2.1 C.2.2.2.2.1 (zk_lay_in hci) C.2.2.2.1 C.2.2.2.2.2.1 hP 0 (fs := zk_fs g S (k' + 1)) (by rw [zk_encC_o hsh hci]; rfl) (zk_cl_at hci) i hi hlink (fun _ h => h) (zk_fs_at hsh hi) hd w
theorem zk_arr {g : zk_G} {U : State} (hK : zk_Kn g U) : va_K (zk_D g) zk_cl (zk_tys g) U := hK
/-- reading an array -/
theorem zk_szI_toNat {k : Nat} {i : Int} (h0 : 0 ≤ i) (h1 : i < zk_szI k) : i.toNat < zk_sz k := by unfold zk_szI at h1; omega
theorem zk_sz_small : ∀ k, k < 81 → zk_sz k ≤ 2720 := by decide +kernel
theorem zk_sz_le (k : Nat) : zk_sz k ≤ 2720 := by
  rcases Nat.lt_or_ge k 81 with h | h
  · exact zk_sz_small k h
  · unfold zk_sz
    rw [List.getD_eq_getElem?_getD, List.getElem?_eq_none (by show 81 ≤ k; exact h)]
    show (99, 0).2 ≤ 2720
    omega
theorem zk_vin {k : Nat} {i : Int} (h0 : 0 ≤ i) (h1 : i < zk_szI k) : zk_rI i ∧ vp_in (zk_I i) (zk_sz k) ∧ (zk_I i).toNatClampNeg = i.toNat := by
  have hs := zk_sz_le k
  have h2 := zk_szI_toNat h0 h1
  have hr : zk_rI i := by unfold zk_rI; omega
  refine ⟨hr, ?_, zk_clamp h0 hr⟩
  rw [vp_in_iff, zk_I_toInt hr]
  omega
theorem zk_r_iald {k : Nat} {i : Int} (hd : decode (zk_cc mid) pc = .ok (.iaload, 1)) (hsh : zk_sh k = 100) (hk1 : 1 ≤ k) (hk : k ≤ S.1) (h0 : 0 ≤ i) (h9 : i < zk_szI k) (kk : zk_Ok mid N1 (pc + 1) ls (.inl (S.2.2 k i) :: st) S Q) : zk_Ok mid N1 pc ls (.inl i :: .inr (.inr (.inl k)) :: st) S Q := by
  refine zk_go kk (fun _ h hM => zk_ok_c.mpr ⟨(hM k i).2 (zk_lg_a i hsh (by omega) (by omega)), (zk_ok_c.mp (zk_ok_c.mp h).2).2⟩) (fun g p l e R s m args below meth c H locs cells slots Z la C hl h1 h2 hR hM hS w => ?_)
  have hP := zk_one hR hk1 hk
  obtain ⟨hr, hin, hcl⟩ := zk_vin h0 h9
  obtain ⟨k', rfl⟩ : ∃ k', k = k' + 1 := ⟨k - 1, by omega⟩
  refine va_iald C.1 C.2.1 C.2.2.2.2.2.1 hP 0 0 (cA := zk_aC g 100) (n := zk_sz (k' + 1)) (f := fun j => zk_I (S.2.2 (k' + 1) (j : Int))) (by rw [zk_encC_a hsh (by omega)]; simp only [zk_ar, hsh]; rfl) rfl hin hd ?_
  rw [hcl]
  have e : ((i.toNat : Nat) : Int) = i := by omega
  rw [e]
  exact w
theorem zk_r_zald {k : Nat} {i : Int} (hd : decode (zk_cc mid) pc = .ok (.baload, 1)) (hsh : zk_sh k = 102) (hk1 : 1 ≤ k) (hk : k ≤ S.1) (h0 : 0 ≤ i) (h9 : i < zk_szI k) (kk : zk_Ok mid N1 (pc + 1) ls (.inl (S.2.2 k i) :: st) S Q) : zk_Ok mid N1 pc ls (.inl i :: .inr (.inr (.inl k)) :: st) S Q := by
  refine zk_go kk (fun _ h hM => zk_ok_c.mpr ⟨(hM k i).2 (zk_lg_a i hsh (by omega) (by omega)), (zk_ok_c.mp (zk_ok_c.mp h).2).2⟩) (fun g p l e R s m args below meth c H locs cells slots Z la C hl h1 h2 hR hM hS w => ?_)
  have hP := zk_one hR hk1 hk
  obtain ⟨hr, hin, hcl⟩ := zk_vin h0 h9
  obtain ⟨k', rfl⟩ : ∃ k', k = k' + 1 := ⟨k - 1, by omega⟩
  refine va_zald C.1 C.2.1 C.2.2.2.2.2.1 hP 0 2 (cA := zk_aC g 102) (n := zk_sz (k' + 1)) (f := fun j => zk_I (S.2.2 (k' + 1) (j : Int))) (by rw [zk_encC_a hsh (by omega)]; simp only [zk_ar, hsh]; rfl) rfl hin hd ?_
  rw [hcl]
  have e : ((i.toNat : Nat) : Int) = i := by omega
  rw [e]
  exact w
theorem zk_r_cald {k : Nat} {i : Int} (hd : decode (zk_cc mid) pc = .ok (.caload, 1)) (hsh : zk_sh k = 103) (hk1 : 1 ≤ k) (hk : k ≤ S.1) (h0 : 0 ≤ i) (h9 : i < zk_szI k) (kk : zk_Ok mid N1 (pc + 1) ls (.inl (S.2.2 k i) :: st) S Q) : zk_Ok mid N1 pc ls (.inl i :: .inr (.inr (.inl k)) :: st) S Q := by
  refine zk_go kk (fun _ h hM => zk_ok_c.mpr ⟨(hM k i).2 (zk_lg_a i hsh (by omega) (by omega)), (zk_ok_c.mp (zk_ok_c.mp h).2).2⟩) (fun g p l e R s m args below meth c H locs cells slots Z la C hl h1 h2 hR hM hS w => ?_)
  have hP := zk_one hR hk1 hk
  obtain ⟨hr, hin, hcl⟩ := zk_vin h0 h9
  obtain ⟨k', rfl⟩ : ∃ k', k = k' + 1 := ⟨k - 1, by omega⟩
  refine va_cald C.1 C.2.1 C.2.2.2.2.2.1 hP 0 3 (cA := zk_aC g 103) (n := zk_sz (k' + 1)) (f := fun j => zk_I (S.2.2 (k' + 1) (j : Int))) (by rw [zk_encC_a hsh (by omega)]; simp only [zk_ar, hsh]; rfl) rfl hin hd ?_
  rw [hcl]
  have e : ((i.toNat : Nat) : Int) = i := by omega
  rw [e]
  exact w
theorem zk_r_lald {k : Nat} {i : Int} (hd : decode (zk_cc mid) pc = .ok (.laload, 1)) (hsh : zk_sh k = 101) (hk1 : 1 ≤ k) (hk : k ≤ S.1) (h0 : 0 ≤ i) (h9 : i < zk_szI k) (kk : zk_Ok mid N1 (pc + 1) ls (.inr (.inl (S.2.2 k i)) :: st) S Q) : zk_Ok mid N1 pc ls (.inl i :: .inr (.inr (.inl k)) :: st) S Q := by
  refine zk_go kk (fun _ h hM => zk_ok_c.mpr ⟨(hM k i).1, (zk_ok_c.mp (zk_ok_c.mp h).2).2⟩) (fun g p l e R s m args below meth c H locs cells slots Z la C hl h1 h2 hR hM hS w => ?_)
  have hP := zk_one hR hk1 hk
  obtain ⟨hr, hin, hcl⟩ := zk_vin h0 h9
  obtain ⟨k', rfl⟩ : ∃ k', k = k' + 1 := ⟨k - 1, by omega⟩
  refine va_lald C.1 C.2.1 C.2.2.2.2.2.1 hP 0 1 (cA := zk_aC g 101) (n := zk_sz (k' + 1)) (f := fun j => zk_J (S.2.2 (k' + 1) (j : Int))) (by rw [zk_encC_a hsh (by omega)]; simp only [zk_ar, hsh]; rfl) rfl hin hd ?_
  rw [hcl]
  have e : ((i.toNat : Nat) : Int) = i := by omega
  rw [e]
  exact w
theorem zk_rf_enc (g : zk_G) (r : Nat) : va_rf (zk_optR g r) = zk_encR g r := by cases r <;> rfl
theorem zk_r_aald {k : Nat} {i : Int} (hd : decode (zk_cc mid) pc = .ok (.aaload, 1)) (hsh : zk_sh k = 104) (hk1 : 1 ≤ k) (hk : k ≤ S.1) (h0 : 0 ≤ i) (h9 : i < zk_szI k) (kk : zk_Ok mid N1 (pc + 1) ls (.inr (.inr (.inl (S.2.1 k i))) :: st) S Q) : zk_Ok mid N1 pc ls (.inl i :: .inr (.inr (.inl k)) :: st) S Q := by
  refine zk_go kk (fun _ h hM => zk_ok_c.mpr ⟨trivial, (zk_ok_c.mp (zk_ok_c.mp h).2).2⟩) (fun g p l e R s m args below meth c H locs cells slots Z la C hl h1 h2 hR hM hS w => ?_)
  have hP := zk_one hR hk1 hk
  obtain ⟨hr, hin, hcl⟩ := zk_vin h0 h9
  obtain ⟨k', rfl⟩ : ∃ k', k = k' + 1 := ⟨k - 1, by omega⟩
  have hcell := hP 0 _ rfl
  rw [zk_encC_a hsh (by omega)] at hcell
  have e : ((i.toNat : Nat) : Int) = i := by omega
  have hc2 : H[zk_a0 g + (k' + 1)]? = some (arrV (zk_aC g 104) (zk_sz (k' + 1)) (fun j => va_rf (zk_optR g (S.2.1 (k' + 1) (j : Int))))) := by
    have := hcell
    simp only [va_at, zk_ar, hsh] at this
    exact this
  have hlt : (zk_I i).toNatClampNeg < zk_sz (k' + 1) := Nat.not_le.mp fun q => hin (Or.inr q)
  refine W.aald (v := zk_encR g (S.2.1 (k' + 1) i)) (ty := .object "VeilOfStones$Script") C.1 C.2.1 hc2 ((C.2.2.2.2.2.1.2 4 _ rfl).1 (zk_sz (k' + 1)) _) rfl (fun q => by cases q) (by rw [arrV_size]; exact hin) (by rw [arrV_read _ _ hlt, hcl, e, zk_rf_enc]) rfl rfl hd w
theorem zk_r_alen {k : Nat} (hd : decode (zk_cc mid) pc = .ok (.arraylength, 1)) (hsh : zk_sh k = 100 ∨ zk_sh k = 103) (hk1 : 1 ≤ k) (hk : k ≤ S.1) (kk : zk_Ok mid N1 (pc + 1) ls (.inl (zk_szI k) :: st) S Q) : zk_Ok mid N1 pc ls (.inr (.inr (.inl k)) :: st) S Q := by
  have hs := zk_sz_le k
  refine zk_go kk (fun _ h hM => zk_ok_c.mpr ⟨by show zk_rI _; unfold zk_rI zk_szI; omega, (zk_ok_c.mp h).2⟩) (fun g p l e R s m args below meth c H locs cells slots Z la C hl h1 h2 hR hM hS w => ?_)
  have hP := zk_one hR hk1 hk
  obtain ⟨k', rfl⟩ : ∃ k', k = k' + 1 := ⟨k - 1, by omega⟩
  rcases hsh with hsh | hsh
  · exact va_alen C.1 C.2.1 C.2.2.2.2.2.1 hP 0 0 (cA := zk_aC g 100) (x := (zk_sz (k' + 1), zk_ar g S (k' + 1))) (by rw [zk_encC_a hsh (by omega)]; rfl) (ty := .int) rfl rfl hd w
  · exact va_alen C.1 C.2.1 C.2.2.2.2.2.1 hP 0 3 (cA := zk_aC g 103) (x := (zk_sz (k' + 1), zk_ar g S (k' + 1))) (by rw [zk_encC_a hsh (by omega)]; rfl) (ty := .char) rfl rfl hd w
/-- the script -/
theorem zk_r_sald {i : Int} (hd : decode (zk_cc mid) pc = .ok (.iaload, 1)) (h0 : 0 ≤ i) (h9 : i < S.2.2 0 (-1)) (kk : zk_Ok mid N1 (pc + 1) ls (.inl (S.2.2 0 i) :: st) S Q) : zk_Ok mid N1 pc ls (.inl i :: .inr (.inr (.inr 2)) :: st) S Q := by
  refine zk_go kk (fun _ h hM => zk_ok_c.mpr ⟨(hM 0 i).2 rfl, (zk_ok_c.mp (zk_ok_c.mp h).2).2⟩) (fun g p l e R s m args below meth c H locs cells slots Z la C hl h1 h2 hR hM hS w => ?_)
  obtain ⟨-, -, -, -, hs0, hs9, hT⟩ := C.2.2.2.2.2.2.1
  rw [hR.2.2.2] at h9
  have hr : zk_rI i := by unfold zk_rI; omega
  obtain ⟨cell, q1, q2, q3, q4, q5, q6, q7⟩ := hT.kept (H1 := H) (fun a ha hn => hS.2.1 a ha hn)
  have hcl := zk_clamp h0 hr
  have e : ((i.toNat : Nat) : Int) = i := by omega
  refine W.iald (v := .int (zk_I (zk_sx g i))) C.1 C.2.1 q1 q2 q3 ?_ ?_ rfl rfl hd (by rw [← hR.2.2.2]; exact w)
  · rintro (z | z)
    · have := (zk_I_lt hr zk_r0).mp z
      omega
    · rw [hcl] at z
      omega
  · rw [hcl, q6 _ (by omega)]
    show some (Value.int (zk_I (zk_sx g ((i.toNat : Nat) : Int)))) = _
    rw [e]
theorem zk_r_slen (hd : decode (zk_cc mid) pc = .ok (.arraylength, 1)) (kk : zk_Ok mid N1 (pc + 1) ls (.inl (S.2.2 0 (-1)) :: st) S Q) : zk_Ok mid N1 pc ls (.inr (.inr (.inr 2)) :: st) S Q := by
  refine zk_go kk (fun _ h hM => zk_ok_c.mpr ⟨(hM 0 (-1)).2 rfl, (zk_ok_c.mp h).2⟩) (fun g p l e R s m args below meth c H locs cells slots Z la C hl h1 h2 hR hM hS w => ?_)
  obtain ⟨-, -, -, -, hs0, hs9, hT⟩ := C.2.2.2.2.2.2.1
  obtain ⟨cell, q1, q2, q3, q4, q5, q6, q7⟩ := hT.kept (H1 := H) (fun a ha hn => hS.2.1 a ha hn)
  refine W.alen (n := zk_I (S.2.2 0 (-1))) C.1 C.2.1 q1 q2 ?_ rfl rfl hd w
  rw [q5, hR.2.2.2]
  show nI _ = _
  apply Int32.toInt_inj.mp
  rw [nI_toInt (by omega), zk_I_toInt (by unfold zk_rI; omega)]
  omega
end zk_rules3

