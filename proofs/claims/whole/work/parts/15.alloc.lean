/-! rules: what makes cells; references written *-/
theorem zk_SZ_step : ∀ n, n < 80 → zk_SZ (n + 1) = zk_SZ n + zk_sz (n + 1) := by decide +kernel
theorem zk_sz_obj : ∀ k, k < 81 → zk_sh k < 13 → zk_sz k = zk_nf (zk_sh k) := by decide +kernel
theorem zk_dflt : ∀ ci, ci < 13 → ∀ j, j < zk_nf ci → (zk_ft ci j = 3 → defaultValue (zk_ty ci j) = .null) ∧ (zk_ft ci j = 1 → defaultValue (zk_ty ci j) = .long 0) ∧ (zk_ft ci j ≠ 3 → zk_ft ci j ≠ 1 → defaultValue (zk_ty ci j) = .int 0) := by decide +kernel
theorem zk_dflt_enc {g : zk_G} {ci j : Nat} (hci : ci < 13) (hj : j < zk_nf ci) : defaultValue (zk_ty ci j) = zk_encF g (zk_ft ci j) 0 0 := by
  obtain ⟨h1, h2, h3⟩ := zk_dflt ci hci j hj
  unfold zk_encF
  split
  · rename_i e; rw [h2 e]; rfl
  · rename_i e; rw [h1 e]; rfl
  · rename_i e1 e2
    rw [h3 (fun q => e2 q) (fun q => e1 q)]; rfl
/-- behind a new cell -/
theorem zk_RH_new {g : zk_G} {S : zk_S} {H H1 : Heap} (hR : zk_RH g S H) (hN : S.1 < 80) (hz : H1.size = H.size + 1) (ho : ∀ q : Nat, q < H.size → H1[q]? = H[q]?) (hnew : va_at (zk_D g) zk_cl (zk_a0 g + (S.1 + 1), zk_encC g S (S.1 + 1)) H1) : zk_RH g (S.1 + 1, S.2.1, S.2.2) H1 := by
  have hs := hR.1 hN
  refine ⟨fun _ => by rw [hz, hs]; show _ = zk_a0 g + 1 + (S.1 + 1); omega, hN, fun k h1 h2 => ?_, hR.2.2.2⟩
  have e : zk_encC g (S.1 + 1, S.2.1, S.2.2) k = zk_encC g S k := zk_encC_congr rfl rfl
  rw [e]
  by_cases hk : k = S.1 + 1
  · rw [hk]; exact hnew
  · have h2 : k ≤ S.1 + 1 := h2
    exact (hR.2.2.1 k h1 (by omega)).kept (ho _ (by omega))
section zk_alloc
variable {mid N1 pc : Nat} {ls st : List zk_V} {S S' : zk_S} {Q : Option zk_V → zk_S → Prop} {idx ci : Nat}
theorem zk_S_new {A : Nat → Prop} {H0 H H1 : Heap} {locs : List Loc} (h : va_S A H0 H locs) (hz : H1.size = H.size + 1) (ho : ∀ q : Nat, q < H.size → H1[q]? = H[q]?) : va_S A H0 H1 locs := ⟨by have := h.1; omega, fun q h1 h2 => by rw [ho q (by have := h.1; omega)]; exact h.2.1 q h1 h2, h.2.2⟩
theorem zk_r_new (hd : decode (zk_cc mid) pc = .ok (.new idx, 3)) (hrow : (zk_own mid, idx, ci) ∈ zk_CL) (hci : ci < 13) (hsh : zk_sh (S.1 + 1) = ci) (hN : S.1 < 80) (h0 : ∀ i, S.2.1 (S.1 + 1) i = 0 ∧ S.2.2 (S.1 + 1) i = 0) (hb1 : S.1 + 1 ≤ N1 + zk_mc mid) (hb2 : zk_SZ (S.1 + 1) ≤ zk_SZ N1 + zk_ms mid)
    (kk : zk_Ok mid N1 (pc + 3) ls (.inr (.inr (.inl (S.1 + 1))) :: st) (S.1 + 1, S.2.1, S.2.2) Q) : zk_Ok mid N1 pc ls st S Q := by
  intro g p l e R s m args below meth c Z C hr H locs cells slots la hl h1 h2 hR hM hS hcs
  have hK : va_K (zk_D g) zk_cl (zk_tys g) s := C.2.2.2.2.2.1
  have hts := C.2.2.2.2.1
  have hKn := hK.1 ci _ (zk_cl_at hci)
  have hsz := hR.1 hN
  have e1 := zk_SZ_step S.1 hN
  have e2 := zk_sz_obj (S.1 + 1) (by omega) (by omega)
  rw [hsh] at e2
  have c3 := C.2.2.2.2.2.2.2.2.2.2.1
  have c4 := C.2.2.2.2.2.2.2.2.2.2.2.1
  have s1 := hcs.1
  have s2 := hcs.2
  have hcn : ci < zk_cnL.length := by show ci < 21; omega
  refine W.newcK (C := zk_cn ci) (n := zk_nf ci) C.1 C.2.1 C.2.2.2.1 (hts _ (zk_in_CL (List.mem_map.mpr ⟨_, hrow, rfl⟩))) (hts _ (zk_in_new (List.mem_map.mpr ⟨ci, List.mem_range.mpr hci, rfl⟩))) (hts _ (zk_in_ini (List.mem_map.mpr ⟨zk_cn ci, by
    unfold zk_cn
    rw [List.getD_eq_getElem?_getD, List.getElem?_eq_getElem hcn]
    exact List.getElem_mem hcn, rfl⟩))) rfl hd (by omega) (by omega) hKn.2.1 rfl (fun H1 kC hkC g1 g2 g3 => ?_)
  rw [show H.size = zk_a0 g + (S.1 + 1) by omega] at g1
  have w := kk g p l e R s m args below meth c Z C hr H1 locs (cells + 1) (slots + zk_nf ci) la hl h1 (zk_ok_c.mpr ⟨trivial, h2⟩) (zk_RH_new hR hN g2 g3 ?_) hM (zk_S_new hS g2 g3) ⟨by show _ ≤ S.1 + 1; omega, by show _ ≤ zk_SZ (S.1 + 1); omega⟩
  · rw [show H.size = zk_a0 g + (S.1 + 1) by omega]
    exact w
  · rw [zk_encC_o hsh hci]
    refine ⟨_, zk_cl_at hci, ?_⟩
    refine (u_born (zk_ty ci) hts (zk_lay_in hci) hKn hkC g1 (zk_ty_ok ci hci)).to (fun j hj => ?_)
    show defaultValue (zk_ty ci j) = vp_V (zk_fs g S (S.1 + 1)) j
    have hj : j < zk_nf ci := hj
    unfold vp_V
    rw [List.getD_eq_getElem?_getD, zk_fs_at hsh hj, (h0 _).1, (h0 _).2]
    exact zk_dflt_enc hci hj
/-- rows of numbers -/
def zk_atc (t : ArrayType) : Nat := match t with
  | .int => 100
  | .long => 101
  | .boolean => 102
  | .char => 103
  | _ => 98
theorem zk_r_newa {t : ArrayType} {n : Int} (hd : decode (zk_cc mid) pc = .ok (.newarray t, 2)) (ht : zk_atc t ≠ 98) (hsh : zk_sh (S.1 + 1) = zk_atc t) (hn : n = (zk_sz (S.1 + 1) : Int)) (hN : S.1 < 80) (h0 : ∀ i, S.2.2 (S.1 + 1) i = 0) (hb1 : S.1 + 1 ≤ N1 + zk_mc mid) (hb2 : zk_SZ (S.1 + 1) ≤ zk_SZ N1 + zk_ms mid)
    (kk : zk_Ok mid N1 (pc + 2) ls (.inr (.inr (.inl (S.1 + 1))) :: st) (S.1 + 1, S.2.1, S.2.2) Q) : zk_Ok mid N1 pc ls (.inl n :: st) S Q := by
  intro g p l e R s m args below meth c Z C hr H locs cells slots la hl h1 h2 hR hM hS hcs
  have hK : va_K (zk_D g) zk_cl (zk_tys g) s := C.2.2.2.2.2.1
  have hts := C.2.2.2.2.1
  have hsz := hR.1 hN
  have e1 := zk_SZ_step S.1 hN
  have e3 := zk_sz_le (S.1 + 1)
  have c3 := C.2.2.2.2.2.2.2.2.2.2.1
  have c4 := C.2.2.2.2.2.2.2.2.2.2.2.1
  have s1 := hcs.1
  have s2 := hcs.2
  have hn0 : 0 ≤ n := by omega
  have hnr : zk_rI n := by unfold zk_rI; omega
  have hcl : (zk_I n).toNatClampNeg = zk_sz (S.1 + 1) := by rw [zk_clamp hn0 hnr]; omega
  have hneg : ¬ zk_I n < 0 := fun q => by have := (zk_I_lt hnr zk_r0).mp q; omega
  have h2' := (zk_ok_c.mp h2).2
  have key : ∀ (ty : FieldType) (hty : newarray.typeOf t = ty) (q : Nat) (hq : zk_tys g = (zk_tys g)) (hw : Cond.arrayClass ty ∈ zk_gT) (hcb : zk_sz (S.1 + 1) * componentBytes ty ≤ 536870912) (hC : s.vm.findClass ("[" ++ ty.toString) = some (zk_aC g (zk_atc t)))
      (hcell : vp_cell (zk_aC g (zk_atc t)) (zk_sz (S.1 + 1), zk_ar g S (S.1 + 1)) = arrV (zk_aC g (zk_atc t)) (zk_sz (S.1 + 1)) (fun _ => defaultValue ty)), W p l e R s m args below meth c H locs cells slots Z (F0 m pc la ((.inl n :: st).map (zk_enc g))) := by
    intro ty hty q hq hw hcb hC hcell
    subst hty
    refine va_newaK C.1 C.2.1 (hts _ hw) rfl hd rfl hneg hcl hcb (by omega) (by omega) rfl (fun H1 cA g1 g2 g3 _ g5 => ?_)
    have hcA : cA = zk_aC g (zk_atc t) := Option.some.inj (g5.symm.trans hC)
    subst hcA
    rw [show H.size = zk_a0 g + (S.1 + 1) by omega] at g1
    have w := kk g p l e R s m args below meth c Z C hr H1 locs (cells + 1) (slots + zk_sz (S.1 + 1)) la hl h1 (zk_ok_c.mpr ⟨trivial, h2'⟩) (zk_RH_new hR hN g2 g3 ?_) hM (zk_S_new hS g2 g3) ⟨by show _ ≤ S.1 + 1; omega, by show _ ≤ zk_SZ (S.1 + 1); omega⟩
    · rw [show H.size = zk_a0 g + (S.1 + 1) by omega]
      exact w
    · rw [zk_encC_a hsh (by cases t <;> simp [zk_atc] at ht ⊢)]
      show H1[_]? = some (vp_cell _ _)
      rw [hcell]
      exact g1
  have ear : zk_sh (S.1 + 1) ≠ 101 → zk_sh (S.1 + 1) ≠ 104 → zk_ar g S (S.1 + 1) = .inl fun _ => zk_I 0 := fun a1 a2 => by
    unfold zk_ar
    split
    · rename_i q; exact absurd q a1
    · rename_i q; exact absurd q a2
    · congr 1; funext j; rw [h0]
  have earL : zk_sh (S.1 + 1) = 101 → zk_ar g S (S.1 + 1) = .inr (.inl fun _ => zk_J 0) := fun a1 => by
    simp only [zk_ar, a1]
    congr 2; funext j; rw [h0]
  cases t with
  | int => exact key .int rfl 0 rfl (zk_in_etc (List.mem_of_getElem? (i := 0) rfl)) (by show _ * 4 ≤ _; omega) (hK.2 0 _ rfl).2 (by rw [ear (by rw [hsh]; decide) (by rw [hsh]; decide), vp_cell_i]; rfl)
  | long => exact key .long rfl 1 rfl (zk_in_etc (List.mem_of_getElem? (i := 2) rfl)) (by show _ * 8 ≤ _; omega) (hK.2 1 _ rfl).2 (by rw [earL (by rw [hsh]; rfl), vp_cell_l]; rfl)
  | boolean => exact key .boolean rfl 2 rfl (zk_in_etc (List.mem_of_getElem? (i := 3) rfl)) (by show _ * 1 ≤ _; omega) (hK.2 2 _ rfl).2 (by rw [ear (by rw [hsh]; decide) (by rw [hsh]; decide), vp_cell_i]; rfl)
  | char => exact key .char rfl 3 rfl (zk_in_etc (List.mem_of_getElem? (i := 1) rfl)) (by show _ * 2 ≤ _; omega) (hK.2 3 _ rfl).2 (by rw [ear (by rw [hsh]; decide) (by rw [hsh]; decide), vp_cell_i]; rfl)
  | _ => exact absurd rfl ht
theorem zk_r_anew {n : Int} (hd : decode (zk_cc mid) pc = .ok (.anewarray idx, 3)) (hrow : (zk_own mid, idx, 7) ∈ zk_CL) (hsh : zk_sh (S.1 + 1) = 104) (hn : n = (zk_sz (S.1 + 1) : Int)) (hN : S.1 < 80) (h0 : ∀ i, S.2.1 (S.1 + 1) i = 0) (hb1 : S.1 + 1 ≤ N1 + zk_mc mid) (hb2 : zk_SZ (S.1 + 1) ≤ zk_SZ N1 + zk_ms mid)
    (kk : zk_Ok mid N1 (pc + 3) ls (.inr (.inr (.inl (S.1 + 1))) :: st) (S.1 + 1, S.2.1, S.2.2) Q) : zk_Ok mid N1 pc ls (.inl n :: st) S Q := by
  intro g p l e R s m args below meth c Z C hr H locs cells slots la hl h1 h2 hR hM hS hcs
  have hK : va_K (zk_D g) zk_cl (zk_tys g) s := C.2.2.2.2.2.1
  have hts := C.2.2.2.2.1
  have hsz := hR.1 hN
  have e1 := zk_SZ_step S.1 hN
  have e3 := zk_sz_le (S.1 + 1)
  have c3 := C.2.2.2.2.2.2.2.2.2.2.1
  have c4 := C.2.2.2.2.2.2.2.2.2.2.2.1
  have s1 := hcs.1
  have s2 := hcs.2
  have hn0 : 0 ≤ n := by omega
  have hnr : zk_rI n := by unfold zk_rI; omega
  have hcl : (zk_I n).toNatClampNeg = zk_sz (S.1 + 1) := by rw [zk_clamp hn0 hnr]; omega
  have hneg : ¬ zk_I n < 0 := fun q => by have := (zk_I_lt hnr zk_r0).mp q; omega
  refine W.anew (C := "VeilOfStones$Script") C.1 C.2.1 C.2.2.2.1 (hts _ (zk_in_CL (List.mem_map.mpr ⟨_, hrow, rfl⟩))) (va_AO.use C.2.2.2.2.2.2.1.2.2.2.1) rfl hd rfl hneg (by rw [hcl]; omega) (by omega) (by rw [hcl]; omega) (fun cA kA comp f1 f2 f3 f4 => ?_)
  rw [hcl]
  obtain ⟨kA', comp', k1, k2, k3, k4⟩ := (hK.2 4 _ rfl).2
  have hcA : cA = zk_aC g 104 := Option.some.inj (f1.symm.trans k4)
  subst hcA
  generalize hH1 : H.push ({ cls := zk_aC g 104, slots := Array.replicate (zk_sz (S.1 + 1)) .null, vm := .none } : Cell) = H1
  have g2 : H1.size = H.size + 1 := by rw [← hH1, Array.size_push]
  have g1 : H1[zk_a0 g + (S.1 + 1)]? = some (arrV (zk_aC g 104) (zk_sz (S.1 + 1)) (fun _ => .null)) := by
    rw [← hH1, show zk_a0 g + (S.1 + 1) = H.size by omega, Array.getElem?_push_size, ← arrV_new]
  have g3 : ∀ q : Nat, q < H.size → H1[q]? = H[q]? := fun q hq => by rw [← hH1, Array.getElem?_push, if_neg (Nat.ne_of_lt hq)]
  have w := kk g p l e R s m args below meth c Z C hr H1 locs (cells + 1) (slots + zk_sz (S.1 + 1)) la hl h1 (zk_ok_c.mpr ⟨trivial, (zk_ok_c.mp h2).2⟩) (zk_RH_new hR hN g2 g3 ?_) hM (zk_S_new hS g2 g3) ⟨by show _ ≤ S.1 + 1; omega, by show _ ≤ zk_SZ (S.1 + 1); omega⟩
  · rw [show H.size = zk_a0 g + (S.1 + 1) by omega]
    exact w
  · rw [zk_encC_a hsh (by omega)]
    show H1[_]? = some (vp_cell _ _)
    have ear : zk_ar g S (S.1 + 1) = .inr (.inr (.inr (.inr fun _ => none))) := by
      simp only [zk_ar, hsh]
      congr 4; funext j; rw [h0]; rfl
    rw [ear, vp_cell_q]
    exact g1
/-- references written -/
def zk_setR (ρ : zk_F) (k : Nat) (i : Int) (r : Nat) : zk_F := fun c j => if c = k then (if j = i then r else ρ c j) else ρ c j
theorem zk_fs_setR {g : zk_G} {k i r : Nat} (hsh : zk_sh k = ci) (hi : i < zk_nf ci) (ht : zk_ft ci i = 3) : zk_fs g (S.1, zk_setR S.2.1 k (i : Int) r, S.2.2) k = (zk_fs g S k).set i (zk_encR g r) := by
  apply List.ext_getElem?
  intro j
  rcases Nat.lt_or_ge j (zk_nf ci) with hj | hj
  · rw [zk_fs_at hsh hj]
    by_cases e : i = j
    · subst e
      rw [List.getElem?_set_self (by rw [zk_fs_len hsh]; exact hi), ht]
      show some (zk_encR g (zk_setR S.2.1 k (i : Int) r k (i : Int))) = _
      simp [zk_setR]
    · rw [List.getElem?_set_ne e, zk_fs_at hsh hj]
      show some (zk_encF g (zk_ft ci j) (zk_setR S.2.1 k (i : Int) r k (j : Int)) (S.2.2 k (j : Int))) = _
      have : ¬ ((j : Int) = (i : Int)) := by omega
      simp [zk_setR, this]
  · rw [List.getElem?_eq_none (by rw [zk_fs_len hsh]; exact hj), List.getElem?_eq_none (by rw [List.length_set, zk_fs_len hsh]; exact hj)]
theorem zk_ft_ref : ∀ ci, ci < 13 → ∀ i, i < zk_nf ci → zk_ft ci i = 3 → (match zk_ty ci i with | .object _ => true | .array _ => true | _ => false) = true := by decide +kernel
theorem zk_r_putr {i k r : Nat} (hd : decode (zk_cc mid) pc = .ok (.putfield idx, 3)) (hrow : (zk_own mid, idx, ci, i) ∈ zk_FL) (hsh : zk_sh k = ci) (hk1 : 1 ≤ k) (hk : k ≤ S.1) (hfin : (zk_TT ci i).2.2.2 = true ∧ zk_kd mid = 2 ∧ (zk_TT ci i).1 = zk_cn (zk_own mid)) (ht : zk_ft ci i = 3) (kk : zk_Ok mid N1 (pc + 3) ls st (S.1, zk_setR S.2.1 k (i : Int) (r + 1), S.2.2) Q) : zk_Ok mid N1 pc ls (.inr (.inr (.inl (r + 1))) :: .inr (.inr (.inl k)) :: st) S Q := by
  obtain ⟨hci, hi⟩ : ci < 13 ∧ i < zk_nf ci := zk_FL_ok _ hrow
  refine zk_r_put (S' := (S.1, zk_setR S.2.1 k (i : Int) (r + 1), S.2.2)) hd hrow hsh hk1 hk (Or.inr hfin) (fun g _ => ?_) rfl (fun j hj => ⟨by funext q; simp [zk_setR, hj], rfl⟩) (fun g => ?_) (fun hM hv => hM) kk
  · have hty := zk_ft_ref ci hci i hi ht
    show narrow _ (.ref _) = .ref _ ∧ fits _ (.ref _) = true
    cases hq : zk_ty ci i <;> rw [hq] at hty <;> first | exact ⟨rfl, rfl⟩ | cases hty
  · rw [zk_fs_setR hsh hi ht]; rfl
theorem zk_r_aast {i : Int} {k r : Nat} (hd : decode (zk_cc mid) pc = .ok (.aastore, 1)) (hsh : zk_sh k = 104) (hk1 : 1 ≤ k) (hk : k ≤ S.1) (hr1 : 1 ≤ r) (hr2 : r ≤ S.1) (hsr : zk_sh r = 7) (h0 : 0 ≤ i) (h9 : i < zk_szI k) (kk : zk_Ok mid N1 (pc + 1) ls st (S.1, zk_setR S.2.1 k i r, S.2.2) Q) : zk_Ok mid N1 pc ls (.inr (.inr (.inl r)) :: .inl i :: .inr (.inr (.inl k)) :: st) S Q := by
  intro g p l e R s m args below meth c Z C hr H locs cells slots la hl h1 h2 hR hM hS hcs
  have h2c := (zk_ok_c.mp (zk_ok_c.mp (zk_ok_c.mp h2).2).2).2
  obtain ⟨hr0, hin, hcl⟩ := zk_vin h0 h9
  have hK : va_K (zk_D g) zk_cl (zk_tys g) s := C.2.2.2.2.2.1
  have hcell := zk_arr_at hR hk1 hk hsh (by omega)
  have ear : ∀ S : zk_S, zk_ar g S k = .inr (.inr (.inr (.inr fun j => zk_optR g (S.2.1 k (j : Int))))) := fun S => by simp only [zk_ar, hsh]
  rw [ear, vp_cell_q] at hcell
  have hat := hR.2.2.1 r hr1 hr2
  rw [zk_encC_o hsr (by omega)] at hat
  obtain ⟨rr, -, cellV, g1, g2, g3, -⟩ := hat
  have hcls := (hK.1 7 _ (zk_cl_at (by omega))).2
  obtain ⟨kA, comp, k1, k2, k3, -⟩ := (hK.2 4 _ rfl).2
  have hcomp : comp = (zk_D g).1 7 := Option.some.inj (k3.symm.trans hcls.1)
  subst hcomp
  obtain ⟨kC, hkC, -⟩ := hcls.2
  have hlt : (zk_I i).toNatClampNeg < zk_sz k := Nat.not_le.mp fun q => hin (Or.inr q)
  obtain ⟨k', rfl⟩ : ∃ k', k = k' + 1 := ⟨k - 1, by omega⟩
  obtain ⟨r', rfl⟩ : ∃ r', r = r' + 1 := ⟨r - 1, by omega⟩
  refine W.aast C.1 C.2.1 hcell (fun q h => by cases h) (fun h => by cases h) k1 k2 rfl hkC ⟨fun q => hin (Or.inl q), by show _ < (arrV _ _ _).slots.size; rw [arrV_size]; exact hlt⟩ g1 (fun q h => by rw [g3] at h; cases h) (by rw [g2]; exact hkC) (by rw [g2]; exact va_assign hcls) rfl rfl hd (fun H1 e1 z oq => ?_)
  refine zk_wr (S := S) kk rfl C hr hl h1 h2c hR hM hS hcs hk1 z oq ?_ (fun j hj => ⟨by funext q; simp [zk_setR, hj], rfl⟩)
  rw [zk_encC_a hsh (by omega)]
  show H1[_]? = some (vp_cell _ _)
  rw [e1, ear, vp_cell_q, arrV_store, hcl]
  congr 2
  funext q
  have e2 : ((i.toNat : Nat) : Int) = i := by omega
  by_cases hq : q = i.toNat
  · subst hq
    rw [e2]
    simp [updV, zk_setR, zk_optR, va_rf]
  · have : ¬ ((q : Int) = i) := by omega
    simp [updV, zk_setR, hq, this]
end zk_alloc
