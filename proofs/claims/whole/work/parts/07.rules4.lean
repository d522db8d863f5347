/-! rules: writes, returns, the entry, calls -/
def zk_set (μ : zk_M) (k : Nat) (i x : Int) : zk_M := fun c j => if c = k then (if j = i then x else μ c j) else μ c j
theorem zk_set_s (μ : zk_M) (k : Nat) (i x : Int) : zk_set μ k i x k i = x := by simp [zk_set]
theorem zk_set_o {μ : zk_M} {k c : Nat} {i x : Int} (h : c ≠ k) : zk_set μ k i x c = μ c := by funext j; simp [zk_set, h]
theorem zk_set_n {μ : zk_M} {k c : Nat} {i j x : Int} (h : j ≠ i) : zk_set μ k i x c j = μ c j := by simp [zk_set, h]
theorem zk_encC_congr {g : zk_G} {S S' : zk_S} {j : Nat} (h1 : S'.2.1 j = S.2.1 j) (h2 : S'.2.2 j = S.2.2 j) : zk_encC g S' j = zk_encC g S j := by
  simp only [zk_encC, zk_fs, zk_ar, h1, h2]
theorem zk_RH_set {g : zk_G} {S S' : zk_S} {H H1 : Heap} {k : Nat} (hR : zk_RH g S H) (hk0 : 1 ≤ k) (hS1 : S'.1 = S.1) (hz : H1.size = H.size) (ho : ∀ q : Nat, q ≠ zk_a0 g + k → H1[q]? = H[q]?) (hnew : va_at (zk_D g) zk_cl (zk_a0 g + k, zk_encC g S' k) H1) (hoth : ∀ j, j ≠ k → S'.2.1 j = S.2.1 j ∧ S'.2.2 j = S.2.2 j) : zk_RH g S' H1 := by
  refine ⟨fun h => by rw [hz, hS1]; exact hR.1 (by rw [← hS1]; exact h), by rw [hS1]; exact hR.2.1, fun j h1 h2 => ?_, fun i => ?_⟩
  · by_cases e : j = k
    · rw [e]; exact hnew
    · rw [zk_encC_congr (hoth j e).1 (hoth j e).2]
      exact (hR.2.2.1 j h1 (by rw [← hS1]; exact h2)).kept (ho _ (by omega))
  · rw [(hoth 0 (by omega)).2]
    exact hR.2.2.2 i
theorem zk_MG_set {S : zk_S} {k : Nat} {i x : Int} (hM : zk_MG S) (h1 : zk_rJ x) (h2 : zk_lg k i = false → zk_rI x) : zk_MG (S.1, S.2.1, zk_set S.2.2 k i x) := by
  intro c j
  show zk_rJ (zk_set S.2.2 k i x c j) ∧ (zk_lg c j = false → zk_rI (zk_set S.2.2 k i x c j))
  by_cases e : c = k
  · by_cases e2 : j = i
    · subst e; subst e2
      rw [zk_set_s]
      exact ⟨h1, h2⟩
    · rw [zk_set_n e2]; exact hM c j
  · rw [zk_set_o e]; exact hM c j
/-- a write of one cell: the goal behind it -/
theorem zk_wr {mid N1 pc' : Nat} {ls st' : List zk_V} {S S' : zk_S} {Q : Option zk_V → zk_S → Prop} (kk : zk_Ok mid N1 pc' ls st' S' Q) (hS1 : S'.1 = S.1)
    {g : zk_G} {p : Program} {l : Launch} {e : Env} {R : Room} {s : State} {m : MethodId} {args : Array Value} {below : List Frame} {meth : Method} {c : Code} {Z : State → Prop}
    (C : zk_Cx g mid p R s m args meth c)
    (hr : ∀ (v : Option zk_V) (S' : zk_S) (H : Heap) (locs : List Loc) (cells slots pc' : Nat) (la : Array Slot), Q v S' → (∀ x, v = some x → zk_okV x) → zk_rets mid pc' v → zk_RH g S' H → zk_MG S' → va_S (zk_A g) s.heap H locs → zk_cs N1 S' cells slots →
      S'.1 = N1 + zk_mc mid → zk_SZ S'.1 = zk_SZ N1 + zk_ms mid → W p l e R s m args below meth c H locs cells slots Z (F0 m pc' la (v.toList.map (zk_enc g))))
    {H H1 : Heap} {locs : List Loc} {cells slots k j : Nat} {la : Array Slot} (hl : zk_LR g la (zk_mL mid) ls) (h1 : zk_okL ls) (h2 : zk_okL st') (hR : zk_RH g S H) (hM' : zk_MG S') (hS : va_S (zk_A g) s.heap H locs) (hc : zk_cs N1 S cells slots) (hk0 : 1 ≤ k)
    (hz : H1.size = H.size) (ho : ∀ q : Nat, q ≠ zk_a0 g + k → H1[q]? = H[q]?) (hnew : va_at (zk_D g) zk_cl (zk_a0 g + k, zk_encC g S' k) H1) (hoth : ∀ j, j ≠ k → S'.2.1 j = S.2.1 j ∧ S'.2.2 j = S.2.2 j) :
    W p l e R s m args below meth c H1 (locs ++ [⟨zk_a0 g + k, j⟩]) cells slots Z (F0 m pc' la (st'.map (zk_enc g))) :=
  kk g p l e R s m args below meth c Z C hr H1 _ cells slots la hl h1 h2 (zk_RH_set hR hk0 hS1 hz ho hnew hoth) hM' (hS.put hz ho (show zk_a0 g < zk_a0 g + k by omega)) (by unfold zk_cs at *; rw [hS1]; exact hc)
theorem zk_fs_len {g : zk_G} {S : zk_S} {k ci : Nat} (h : zk_sh k = ci) : (zk_fs g S k).length = zk_nf ci := by simp [zk_fs, h]
section zk_rules4
variable {mid N1 pc : Nat} {ls st : List zk_V} {S S' : zk_S} {Q : Option zk_V → zk_S → Prop}
/-- a field: S' is S with that slot anew -/
theorem zk_r_put {idx ci i k : Nat} {v : zk_V} (hd : decode (zk_cc mid) pc = .ok (.putfield idx, 3)) (hrow : (zk_own mid, idx, ci, i) ∈ zk_FL) (hsh : zk_sh k = ci) (hk1 : 1 ≤ k) (hk : k ≤ S.1)
    (hfin : (zk_TT ci i).2.2.2 = false ∨ ((zk_TT ci i).2.2.2 = true ∧ zk_kd mid = 2 ∧ (zk_TT ci i).1 = zk_cn (zk_own mid))) (hfit : ∀ g, zk_okV v → narrow (zk_ty ci i) (zk_enc g v) = zk_enc g v ∧ fits (zk_ty ci i) (zk_enc g v) = true)
    (hS1 : S'.1 = S.1) (hoth : ∀ j, j ≠ k → S'.2.1 j = S.2.1 j ∧ S'.2.2 j = S.2.2 j) (hown : ∀ g, zk_fs g S' k = (zk_fs g S k).set i (zk_enc g v)) (hMG : zk_MG S → zk_okV v → zk_MG S') (kk : zk_Ok mid N1 (pc + 3) ls st S' Q) : zk_Ok mid N1 pc ls (v :: .inr (.inr (.inl k)) :: st) S Q := by
  intro g p l e R s m args below meth c Z C hr H locs cells slots la hl h1 h2 hR hM hS hcs
  obtain ⟨hci, hi⟩ : ci < 13 ∧ i < zk_nf ci := zk_FL_ok _ hrow
  have hvok := (zk_ok_c.mp h2).1
  have h2c := (zk_ok_c.mp (zk_ok_c.mp h2).2).2
  have hK : va_K (zk_D g) zk_cl (zk_tys g) s := C.2.2.2.2.2.1
  have hts := C.2.2.2.2.1
  have hown0 := C.2.2.2.1
  have hlink := hts _ (zk_FL_in hrow)
  have hap := va_apart (own := zk_cn (zk_own mid)) hts (zk_lay_in hci) (zk_ty ci) (zk_ty_ok ci hci) (zk_nm_ok ci hci) hK (zk_cl_at hci)
  have hat := hR.2.2.1 k hk1 hk
  rw [zk_encC_o hsh hci] at hat
  obtain ⟨r, e1, cell, q1, q2, q3, q4⟩ := hat
  have hr0 : r = (zk_cn ci, zk_TT ci, zk_nf ci) := Option.some.inj (e1.symm.trans (zk_cl_at hci))
  subst hr0
  obtain ⟨hSl, hfc, kC, hkC, hkind⟩ := hK.1 ci _ (zk_cl_at hci)
  obtain ⟨cf, kf, fi, f, hf, hsl⟩ := hSl i hi
  have hst := (u_facts hfc hkC (u_lays hts (zk_lay_in hci) hi) hf).1
  have hd2 := zk_ty_ok ci hci i hi
  obtain ⟨hn, hft⟩ := hfit g hvok
  obtain ⟨k', rfl⟩ : ∃ k', k = k' + 1 := ⟨k - 1, by omega⟩
  have fin : ∀ H1 : Heap, H1[zk_a0 g + (k' + 1)]? = some (cell.setSlot f.slot (zk_enc g v)) → H1.size = H.size → (∀ q, q ≠ zk_a0 g + (k' + 1) → H1[q]? = H[q]?) → W p l e R s m args below meth c H1 (locs ++ [⟨zk_a0 g + (k' + 1), f.slot⟩]) cells slots Z (F0 m (pc + 3) la (st.map (zk_enc g))) := by
    intro H1 g1 g2 g3
    refine zk_wr kk hS1 C hr hl h1 h2c hR (hMG hM hvok) hS hcs hk1 g2 g3 ?_ hoth
    rw [zk_encC_o hsh hci]
    refine ⟨_, zk_cl_at hci, ?_⟩
    rw [hown g]
    rw [hsl] at g1
    exact t_OB.to (V := updV (vp_V (zk_fs g S (k' + 1))) i (zk_enc g v)) ⟨_, g1, q2, q3, t_set q4 hap hi (zk_enc g v)⟩ (fun j _ => vp_updV_set (by rw [zk_fs_len hsh]; exact hi) (zk_enc g v) j)
  rcases hfin with hfin | ⟨hfin, hkd, hdecl⟩
  · have hlay := hts _ (zk_lay_in hci _ (u_in_lay hi))
    unfold u_lay at hlay
    rw [if_neg (by rw [hfin]; decide)] at hlay
    have h6 := u_store hfc hkC hkind hlay hf hd2 hn hft
    exact W.putK C.1 C.2.1 (f := f) ⟨hown0, hlink, ⟨_, _, _, hf⟩, hst⟩ (by rw [q2]; exact h6) q1 q3 (by rw [hsl]; exact k2_hasslot (q4 i hi)) rfl rfl hd fin
  · have hlay := hts _ (zk_lay_in hci _ (u_in_lay hi))
    unfold u_lay at hlay
    rw [if_pos hfin] at hlay
    have hcf : m.cls = cf := by
      obtain ⟨_, _, c', _, _, _, -, -, hf', -, -, -, hown2, -⟩ := Cond.laysFinal_spec hlay
      have e1 : c' = cf := by have := hf.symm.trans hf'; simp at this; exact this.1.symm
      rw [hdecl] at hown2
      rw [← e1]; exact Option.some.inj (hown0.symm.trans hown2)
    have h6 := u_fits hfc hkC hkind (Or.inr hlay) hf hd2 hn hft
    exact W.putFinK C.1 C.2.1 hown0 hlink hf hst hcf (C.2.2.2.2.2.2.2.2.2.2.2.2.1 hkd) (by rw [q2]; exact h6) q1 q3 (by rw [hsl]; exact k2_hasslot (q4 i hi)) rfl rfl hd fin
theorem zk_fs_set {g : zk_G} {S : zk_S} {k ci i : Nat} {x : Int} (hsh : zk_sh k = ci) (hi : i < zk_nf ci) (ht : zk_ft ci i ≠ 3) : zk_fs g (S.1, S.2.1, zk_set S.2.2 k (i : Int) x) k = (zk_fs g S k).set i (zk_encF g (zk_ft ci i) 0 x) := by
  apply List.ext_getElem?
  intro j
  rcases Nat.lt_or_ge j (zk_nf ci) with hj | hj
  · rw [zk_fs_at hsh hj]
    by_cases e : i = j
    · subst e
      rw [List.getElem?_set_self (by rw [zk_fs_len hsh]; exact hi)]
      show some (zk_encF g (zk_ft ci i) (S.2.1 k (i : Int)) (zk_set S.2.2 k (i : Int) x k (i : Int))) = _
      rw [zk_set_s]
      congr 1
      unfold zk_encF
      split <;> first | rfl | (rename_i h; exact absurd h ht)
    · rw [List.getElem?_set_ne e, zk_fs_at hsh hj]
      show some (zk_encF g (zk_ft ci j) (S.2.1 k (j : Int)) (zk_set S.2.2 k (i : Int) x k (j : Int))) = _
      rw [zk_set_n (by omega)]
  · rw [List.getElem?_eq_none (by rw [zk_fs_len hsh]; exact hj), List.getElem?_eq_none (by rw [List.length_set, zk_fs_len hsh]; exact hj)]
theorem zk_ft_ty : ∀ ci, ci < 13 → ∀ i, i < zk_nf ci → (zk_ft ci i = 0 → zk_ty ci i = .int) ∧ (zk_ft ci i = 1 → zk_ty ci i = .long) ∧ (zk_ft ci i = 2 → zk_ty ci i = .boolean) := by decide +kernel
theorem zk_r_puti {idx ci i k : Nat} {x : Int} (hd : decode (zk_cc mid) pc = .ok (.putfield idx, 3)) (hrow : (zk_own mid, idx, ci, i) ∈ zk_FL) (hsh : zk_sh k = ci) (hk1 : 1 ≤ k) (hk : k ≤ S.1) (hfin : (zk_TT ci i).2.2.2 = false) (ht : zk_ft ci i = 0) (kk : zk_Ok mid N1 (pc + 3) ls st (S.1, S.2.1, zk_set S.2.2 k (i : Int) x) Q) : zk_Ok mid N1 pc ls (.inl x :: .inr (.inr (.inl k)) :: st) S Q := by
  obtain ⟨hci, hi⟩ : ci < 13 ∧ i < zk_nf ci := zk_FL_ok _ hrow
  refine zk_r_put (S' := (S.1, S.2.1, zk_set S.2.2 k (i : Int) x)) hd hrow hsh hk1 hk (Or.inl hfin) (fun g _ => ?_) rfl (fun j hj => ⟨rfl, zk_set_o hj⟩) (fun g => ?_) (fun hM hv => zk_MG_set hM (zk_rIJ hv) (fun _ => hv)) kk
  · rw [(zk_ft_ty ci hci i hi).1 ht]; exact ⟨rfl, rfl⟩
  · rw [zk_fs_set hsh hi (by omega), ht]; rfl
theorem zk_r_putz {idx ci i k : Nat} {x : Int} (hd : decode (zk_cc mid) pc = .ok (.putfield idx, 3)) (hrow : (zk_own mid, idx, ci, i) ∈ zk_FL) (hsh : zk_sh k = ci) (hk1 : 1 ≤ k) (hk : k ≤ S.1) (hfin : (zk_TT ci i).2.2.2 = false) (ht : zk_ft ci i = 2) (hx : x = 0 ∨ x = 1) (kk : zk_Ok mid N1 (pc + 3) ls st (S.1, S.2.1, zk_set S.2.2 k (i : Int) x) Q) : zk_Ok mid N1 pc ls (.inl x :: .inr (.inr (.inl k)) :: st) S Q := by
  obtain ⟨hci, hi⟩ : ci < 13 ∧ i < zk_nf ci := zk_FL_ok _ hrow
  refine zk_r_put (S' := (S.1, S.2.1, zk_set S.2.2 k (i : Int) x)) hd hrow hsh hk1 hk (Or.inl hfin) (fun g _ => ?_) rfl (fun j hj => ⟨rfl, zk_set_o hj⟩) (fun g => ?_) (fun hM hv => zk_MG_set hM (zk_rIJ hv) (fun _ => hv)) kk
  · rw [(zk_ft_ty ci hci i hi).2.2 ht]
    rcases hx with rfl | rfl <;> exact ⟨rfl, rfl⟩
  · rw [zk_fs_set hsh hi (by omega), ht]; rfl
theorem zk_r_putl {idx ci i k : Nat} {x : Int} (hd : decode (zk_cc mid) pc = .ok (.putfield idx, 3)) (hrow : (zk_own mid, idx, ci, i) ∈ zk_FL) (hsh : zk_sh k = ci) (hk1 : 1 ≤ k) (hk : k ≤ S.1) (hfin : (zk_TT ci i).2.2.2 = false) (ht : zk_ft ci i = 1) (kk : zk_Ok mid N1 (pc + 3) ls st (S.1, S.2.1, zk_set S.2.2 k (i : Int) x) Q) : zk_Ok mid N1 pc ls (.inr (.inl x) :: .inr (.inr (.inl k)) :: st) S Q := by
  obtain ⟨hci, hi⟩ : ci < 13 ∧ i < zk_nf ci := zk_FL_ok _ hrow
  refine zk_r_put (S' := (S.1, S.2.1, zk_set S.2.2 k (i : Int) x)) hd hrow hsh hk1 hk (Or.inl hfin) (fun g _ => ?_) rfl (fun j hj => ⟨rfl, zk_set_o hj⟩) (fun g => ?_) (fun hM hv => zk_MG_set hM hv (fun hlg => ?_)) kk
  · rw [(zk_ft_ty ci hci i hi).2.1 ht]; exact ⟨rfl, rfl⟩
  · rw [zk_fs_set hsh hi (by omega), ht]; rfl
  · unfold zk_lg at hlg
    rw [hsh] at hlg
    simp [ht] at hlg
/-! arrays -/
theorem zk_arr_at {g : zk_G} {S : zk_S} {H : Heap} {k t : Nat} (hR : zk_RH g S H) (h1 : 1 ≤ k) (h2 : k ≤ S.1) (hsh : zk_sh k = t) (ht : 13 ≤ t) : H[zk_a0 g + k]? = some (vp_cell (zk_aC g t) (zk_sz k, zk_ar g S k)) := by
  have h := hR.2.2.1 k h1 h2
  rw [zk_encC_a hsh ht] at h
  exact h
theorem zk_upd_set {k : Nat} {μ : zk_M} {i x : Int} (h0 : 0 ≤ i) (F : Int → Value) : (fun j : Nat => F (zk_set μ k i x k (j : Int))) = updV (fun j : Nat => F (μ k (j : Int))) i.toNat (F x) := by
  funext j
  by_cases e : j = i.toNat
  · subst e
    have e2 : ((i.toNat : Nat) : Int) = i := by omega
    rw [e2, zk_set_s]
    simp [updV]
  · rw [zk_set_n (by omega)]
    simp [updV, e]
theorem zk_r_iast {k : Nat} {i x : Int} (hd : decode (zk_cc mid) pc = .ok (.iastore, 1)) (hsh : zk_sh k = 100) (hk1 : 1 ≤ k) (hk : k ≤ S.1) (h0 : 0 ≤ i) (h9 : i < zk_szI k) (kk : zk_Ok mid N1 (pc + 1) ls st (S.1, S.2.1, zk_set S.2.2 k i x) Q) : zk_Ok mid N1 pc ls (.inl x :: .inl i :: .inr (.inr (.inl k)) :: st) S Q := by
  intro g p l e R s m args below meth c Z C hr H locs cells slots la hl h1 h2 hR hM hS hcs
  have hvok := (zk_ok_c.mp h2).1
  have h2c := (zk_ok_c.mp (zk_ok_c.mp (zk_ok_c.mp h2).2).2).2
  obtain ⟨hr0, hin, hcl⟩ := zk_vin h0 h9
  have hcell := zk_arr_at hR hk1 hk hsh (by omega)
  have ear : ∀ S : zk_S, zk_ar g S k = .inl fun j => zk_I (S.2.2 k (j : Int)) := fun S => by simp only [zk_ar, hsh]
  rw [ear, vp_cell_i] at hcell
  obtain ⟨k', rfl⟩ : ∃ k', k = k' + 1 := ⟨k - 1, by omega⟩
  refine W.iast C.1 C.2.1 hcell ((C.2.2.2.2.2.1.2 0 _ rfl).1 (zk_sz (k' + 1)) _) (fun q => by cases q) (by rw [arrV_size]; exact hin) rfl rfl hd (fun H1 e1 z oq => ?_)
  refine zk_wr (S := S) kk rfl C hr hl h1 h2c hR (zk_MG_set hM (zk_rIJ hvok) (fun _ => hvok)) hS hcs hk1 z oq ?_ (fun j hj => ⟨rfl, zk_set_o hj⟩)
  rw [zk_encC_a hsh (by omega)]
  show H1[_]? = some (vp_cell _ _)
  rw [e1, ear, vp_cell_i, arrV_store, hcl]
  congr 2
  exact (zk_upd_set (k := k' + 1) (μ := S.2.2) (x := x) h0 (fun z => Value.int (zk_I z))).symm
theorem zk_r_last {k : Nat} {i x : Int} (hd : decode (zk_cc mid) pc = .ok (.lastore, 1)) (hsh : zk_sh k = 101) (hk1 : 1 ≤ k) (hk : k ≤ S.1) (h0 : 0 ≤ i) (h9 : i < zk_szI k) (kk : zk_Ok mid N1 (pc + 1) ls st (S.1, S.2.1, zk_set S.2.2 k i x) Q) : zk_Ok mid N1 pc ls (.inr (.inl x) :: .inl i :: .inr (.inr (.inl k)) :: st) S Q := by
  intro g p l e R s m args below meth c Z C hr H locs cells slots la hl h1 h2 hR hM hS hcs
  have hvok := (zk_ok_c.mp h2).1
  have h2c := (zk_ok_c.mp (zk_ok_c.mp (zk_ok_c.mp h2).2).2).2
  obtain ⟨hr0, hin, hcl⟩ := zk_vin h0 h9
  have hcell := zk_arr_at hR hk1 hk hsh (by omega)
  have ear : ∀ S : zk_S, zk_ar g S k = .inr (.inl fun j => zk_J (S.2.2 k (j : Int))) := fun S => by simp only [zk_ar, hsh]
  rw [ear, vp_cell_l] at hcell
  obtain ⟨k', rfl⟩ : ∃ k', k = k' + 1 := ⟨k - 1, by omega⟩
  refine W.last C.1 C.2.1 hcell ((C.2.2.2.2.2.1.2 1 _ rfl).1 (zk_sz (k' + 1)) _) (fun q => by cases q) (by rw [arrV_size]; exact hin) rfl rfl hd (fun H1 e1 z oq => ?_)
  refine zk_wr (S := S) kk rfl C hr hl h1 h2c hR (zk_MG_set hM hvok (fun hlg => by unfold zk_lg at hlg; rw [hsh] at hlg; simp at hlg)) hS hcs hk1 z oq ?_ (fun j hj => ⟨rfl, zk_set_o hj⟩)
  rw [zk_encC_a hsh (by omega)]
  show H1[_]? = some (vp_cell _ _)
  rw [e1, ear, vp_cell_l, arrV_store, hcl]
  congr 2
  exact (zk_upd_set (k := k' + 1) (μ := S.2.2) (x := x) h0 (fun z => Value.long (zk_J z))).symm
theorem zk_r_zast {k : Nat} {i x : Int} (hd : decode (zk_cc mid) pc = .ok (.bastore, 1)) (hsh : zk_sh k = 102) (hk1 : 1 ≤ k) (hk : k ≤ S.1) (h0 : 0 ≤ i) (h9 : i < zk_szI k) (hx : x = 0 ∨ x = 1) (kk : zk_Ok mid N1 (pc + 1) ls st (S.1, S.2.1, zk_set S.2.2 k i x) Q) : zk_Ok mid N1 pc ls (.inl x :: .inl i :: .inr (.inr (.inl k)) :: st) S Q := by
  intro g p l e R s m args below meth c Z C hr H locs cells slots la hl h1 h2 hR hM hS hcs
  have hvok := (zk_ok_c.mp h2).1
  have h2c := (zk_ok_c.mp (zk_ok_c.mp (zk_ok_c.mp h2).2).2).2
  obtain ⟨hr0, hin, hcl⟩ := zk_vin h0 h9
  have hcell := zk_arr_at hR hk1 hk hsh (by omega)
  have ear : ∀ S : zk_S, zk_ar g S k = .inl fun j => zk_I (S.2.2 k (j : Int)) := fun S => by simp only [zk_ar, hsh]
  rw [ear, vp_cell_i] at hcell
  obtain ⟨k', rfl⟩ : ∃ k', k = k' + 1 := ⟨k - 1, by omega⟩
  refine W.zast C.1 C.2.1 hcell ((C.2.2.2.2.2.1.2 2 _ rfl).1 (zk_sz (k' + 1)) _) (fun q => by cases q) (by rw [arrV_size]; exact hin) rfl rfl hd (fun H1 e1 z oq => ?_)
  refine zk_wr (S := S) kk rfl C hr hl h1 h2c hR (zk_MG_set hM (zk_rIJ hvok) (fun _ => hvok)) hS hcs hk1 z oq ?_ (fun j hj => ⟨rfl, zk_set_o hj⟩)
  have en : narrow .boolean (.int (zk_I x)) = .int (zk_I x) := by rcases hx with rfl | rfl <;> rfl
  rw [zk_encC_a hsh (by omega)]
  show H1[_]? = some (vp_cell _ _)
  rw [e1, ear, vp_cell_i, en, arrV_store, hcl]
  congr 2
  exact (zk_upd_set (k := k' + 1) (μ := S.2.2) (x := x) h0 (fun z => Value.int (zk_I z))).symm
theorem zk_nar_char {x : Int} (h0 : 0 ≤ x) (h1 : x ≤ 65535) : narrow .char (.int (zk_I x)) = .int (zk_I x) := by
  have e : zk_I x = nI x.toNat := by
    apply Int32.toInt_inj.mp
    rw [zk_I_toInt (by unfold zk_rI; omega), nI_toInt (by omega)]
    omega
  rw [e]
  exact (pk_charN (by omega)).1
theorem zk_r_cast {k : Nat} {i x : Int} (hd : decode (zk_cc mid) pc = .ok (.castore, 1)) (hsh : zk_sh k = 103) (hk1 : 1 ≤ k) (hk : k ≤ S.1) (h0 : 0 ≤ i) (h9 : i < zk_szI k) (hx0 : 0 ≤ x) (hx9 : x ≤ 65535) (kk : zk_Ok mid N1 (pc + 1) ls st (S.1, S.2.1, zk_set S.2.2 k i x) Q) : zk_Ok mid N1 pc ls (.inl x :: .inl i :: .inr (.inr (.inl k)) :: st) S Q := by
  intro g p l e R s m args below meth c Z C hr H locs cells slots la hl h1 h2 hR hM hS hcs
  have hvok := (zk_ok_c.mp h2).1
  have h2c := (zk_ok_c.mp (zk_ok_c.mp (zk_ok_c.mp h2).2).2).2
  obtain ⟨hr0, hin, hcl⟩ := zk_vin h0 h9
  have hcell := zk_arr_at hR hk1 hk hsh (by omega)
  have ear : ∀ S : zk_S, zk_ar g S k = .inl fun j => zk_I (S.2.2 k (j : Int)) := fun S => by simp only [zk_ar, hsh]
  rw [ear, vp_cell_i] at hcell
  obtain ⟨k', rfl⟩ : ∃ k', k = k' + 1 := ⟨k - 1, by omega⟩
  refine W.cast C.1 C.2.1 hcell ((C.2.2.2.2.2.1.2 3 _ rfl).1 (zk_sz (k' + 1)) _) (fun q => by cases q) (by rw [arrV_size]; exact hin) rfl rfl hd (fun H1 e1 z oq => ?_)
  refine zk_wr (S := S) kk rfl C hr hl h1 h2c hR (zk_MG_set hM (zk_rIJ hvok) (fun _ => hvok)) hS hcs hk1 z oq ?_ (fun j hj => ⟨rfl, zk_set_o hj⟩)
  rw [zk_encC_a hsh (by omega)]
  show H1[_]? = some (vp_cell _ _)
  rw [e1, ear, vp_cell_i, zk_nar_char hx0 hx9, arrV_store, hcl]
  congr 2
  exact (zk_upd_set (k := k' + 1) (μ := S.2.2) (x := x) h0 (fun z => Value.int (zk_I z))).symm
end zk_rules4
