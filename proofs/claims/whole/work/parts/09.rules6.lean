/-! rules: calls -/
theorem zk_mt_ok : ∀ r ∈ zk_mtab, (zk_cn r.1 ≠ "java/lang/invoke/MethodHandle" ∧ zk_cn r.1 ≠ "java/lang/invoke/VarHandle") ∧ (parseMethodDescriptor r.2.2.1).map (fun d => d.parameters.length) = some r.2.2.2.2.2.2.2.2.2 ∧ r.1 < zk_cnL.length := by decide +kernel
def zk_catS : List zk_V → Nat
  | [] => 0
  | .inr (.inl _) :: st => 2 + zk_catS st
  | _ :: st => 1 + zk_catS st
theorem zk_catS_eq {g : zk_G} : ∀ st : List zk_V, ((st.map (zk_enc g)).map fun v => v.category).sum = zk_catS st
  | [] => rfl
  | .inl x :: st => by rw [List.map_cons, List.map_cons, List.sum_cons, zk_catS_eq st]; rfl
  | .inr (.inl x) :: st => by rw [List.map_cons, List.map_cons, List.sum_cons, zk_catS_eq st]; rfl
  | .inr (.inr (.inl 0)) :: st => by rw [List.map_cons, List.map_cons, List.sum_cons, zk_catS_eq st]; rfl
  | .inr (.inr (.inl (k + 1))) :: st => by rw [List.map_cons, List.map_cons, List.sum_cons, zk_catS_eq st]; rfl
  | .inr (.inr (.inr k)) :: st => by rw [List.map_cons, List.map_cons, List.sum_cons, zk_catS_eq st]; rfl
section zk_rules6
variable {mid N1 pc : Nat} {ls st : List zk_V} {S S' : zk_S} {Q Q1 : Option zk_V → zk_S → Prop} {idx callee k : Nat} {as : List zk_V}
theorem zk_words_at {g : zk_G} {p : Program} {R : Room} {s : State} {m : MethodId} {args : Array Value} {meth : Method} {c : Code} (C : zk_Cx g mid p R s m args meth c) (h : callee < zk_mtab.length) : ∀ w ∈ zk_ws callee, ∀ (a' : Array Value) (U : State), s.WarmedH U.vm → w.before a' U = true := by
  intro w hw a' U hW
  have hin : w ∈ zk_gT := by
    rcases List.mem_cons.mp hw with rfl | h1
    · exact zk_code_in h
    · exact h1
  exact word_at hW (good_of_word (zk_gT_word hin)) (C.2.2.2.2.1 w hin)
theorem zk_callB {g : zk_G} {p : Program} {R : Room} {s : State} {m : MethodId} {args : Array Value} {meth : Method} {c : Code} (C : zk_Cx g mid p R s m args meth c) (h : callee < zk_mtab.length) (hfr : zk_fr callee + 1 ≤ zk_fr mid) (hlo : 8 + (zk_mL callee + 11) + zk_lo callee ≤ zk_lo mid) (hrow : (zk_own mid, idx, callee) ∈ zk_LK) :
    CallB R s args (zk_cn (zk_own mid)) idx (zk_yn callee) (zk_cc callee) (zk_mL callee) (zk_rt callee) (zk_ws callee) (zk_rm callee) (zk_mc callee) (zk_ms callee) (zk_np callee) := by
  obtain ⟨hne, hpar, hcn⟩ := zk_mt_ok _ (zk_mr_in h)
  refine ⟨rfl, rfl, Nat.le_trans hfr C.2.2.2.2.2.2.2.2.1, Nat.le_trans hlo C.2.2.2.2.2.2.2.2.2.1, zk_words_at C h, List.mem_cons_self, C.2.2.2.2.1 _ (zk_code_in h), C.2.2.2.2.1 _ (zk_in_ini (List.mem_map.mpr ⟨zk_cn (zk_mr callee).1, ?_, rfl⟩)), hne, fun sig hs => ?_, C.2.2.2.2.1 _ (zk_in_LK (List.mem_map.mpr ⟨_, hrow, rfl⟩))⟩
  · unfold zk_cn
    rw [List.getD_eq_getElem?_getD, List.getElem?_eq_getElem hcn]
    exact List.getElem_mem hcn
  · have h2 := hpar
    rw [show (zk_mr callee).2.2.1 = (zk_yn callee).desc from rfl, hs] at h2
    exact (Option.some.inj h2).symm
theorem zk_kind_in (h : callee < zk_mtab.length) : (if zk_kd callee = 1 then Cond.static (zk_yn callee) else Cond.instanceMethod (zk_yn callee)) ∈ zk_gT := zk_in_kind (List.mem_map.mpr ⟨_, zk_mr_in h, rfl⟩)
theorem zk_sel_in (h : callee < zk_mtab.length) (hk : zk_kd callee = 0) : Cond.selects (zk_cn (zk_own callee)) (zk_yn callee) (zk_yn callee) ∈ zk_gT := zk_in_sel (List.mem_map.mpr ⟨_, List.mem_filter.mpr ⟨zk_mr_in h, by have : (zk_mr callee).2.2.2.2.2.2.2.2.1 = 0 := hk; simp [this]⟩, rfl⟩)
/-- behind a call -/
theorem zk_after (kk : ∀ v S', Q1 v S' → zk_Ok mid N1 (pc + 3) ls (v.toList ++ st) S' Q)
    {g : zk_G} {p : Program} {l : Launch} {e : Env} {R : Room} {s : State} {m : MethodId} {args : Array Value} {below : List Frame} {meth : Method} {c : Code} {Z : State → Prop}
    (C : zk_Cx g mid p R s m args meth c)
    (hr : ∀ (v : Option zk_V) (S' : zk_S) (H : Heap) (locs : List Loc) (cells slots pc' : Nat) (la : Array Slot), Q v S' → (∀ x, v = some x → zk_okV x) → zk_rets mid pc' v → zk_RH g S' H → zk_MG S' → va_S (zk_A g) s.heap H locs → zk_cs N1 S' cells slots →
      S'.1 = N1 + zk_mc mid → zk_SZ S'.1 = zk_SZ N1 + zk_ms mid → W p l e R s m args below meth c H locs cells slots Z (F0 m pc' la (v.toList.map (zk_enc g))))
    {H : Heap} {locs : List Loc} {cells slots : Nat} {la : Array Slot} (hl : zk_LR g la (zk_mL mid) ls) (h1 : zk_okL ls) (h2 : zk_okL st) (hS : va_S (zk_A g) s.heap H locs) (hc : zk_cs N1 S cells slots) {st0 : List Value} {a : Array Value}
    (hrun : va_Run p l e R s m args below meth c H locs cells slots (zk_mc callee) (zk_ms callee) (F0 m pc la st0) (st.map (zk_enc g)) (zk_Qc g callee S Q1 a) (zk_A g)) : W p l e R s m args below meth c H locs cells slots Z (F0 m pc la st0) := by
  intro T hT X
  obtain ⟨v, st₀, t, T', L, e0, X', hL, e1, e2, ⟨⟨v', S', hv, hok, hq, hR', hM', hN', hZ'⟩, hz, hkp⟩, hst⟩ := hrun T hT X
  cases hv
  rw [e0] at hz hkp
  have hS' : va_S (zk_A g) s.heap t.heap (locs ++ L) := by
    refine ⟨Nat.le_trans hS.1 hz, fun q g1 g2 => by rw [hkp q (Nat.lt_of_lt_of_le g1 hS.1) g2]; exact hS.2.1 q g1 g2, fun q hq => ?_⟩
    rcases List.mem_append.mp hq with h | h
    · exact hS.2.2 q h
    · exact hL q h
  have hst' : (v'.toList ++ st).map (zk_enc g) = (v'.map (zk_enc g)).toList ++ st.map (zk_enc g) := by
    cases v' <;> rfl
  have hw := kk v' S' hq g p l e R s m args below meth c Z C hr t.heap (locs ++ L) (cells + zk_mc callee) (slots + zk_ms callee) la hl h1 (by
    intro x hx
    rcases List.mem_append.mp hx with h | h
    · cases v' with
      | none => simp at h
      | some y => simp at h; rw [h]; exact hok y rfl
    · exact h2 x h) hR' hM' hS' ⟨by have := hc.1; omega, by have := hc.2; omega⟩
  rw [hst'] at hw
  obtain ⟨t2, a1, b1⟩ := hw T' e1 X'
  exact ⟨t2, hst t2 a1, b1⟩
theorem zk_ok_app {a b : List zk_V} (h : zk_okL (a ++ b)) : zk_okL a ∧ zk_okL b := ⟨fun v hv => h v (List.mem_append_left _ hv), fun v hv => h v (List.mem_append_right _ hv)⟩
theorem zk_ok_rev {a : List zk_V} (h : zk_okL a.reverse) : zk_okL a := fun v hv => h v (List.mem_reverse.mpr hv)
theorem zk_r_invV (hd : decode (zk_cc mid) pc = .ok (.invokevirtual idx, 3)) (hrow : (zk_own mid, idx, callee) ∈ zk_LK) (hcal : callee < zk_mtab.length) (hkd : zk_kd callee = 0) (ho : zk_own callee < 13) (hsh : zk_sh k = zk_own callee) (hk1 : 1 ≤ k) (hk : k ≤ S.1) (hn : as.length = zk_np callee) (hcat : zk_catS st ≤ 8)
    (hfr : zk_fr callee + 1 ≤ zk_fr mid) (hlo : 8 + (zk_mL callee + 11) + zk_lo callee ≤ zk_lo mid) (hb1 : S.1 + zk_mc callee ≤ N1 + zk_mc mid) (hb2 : zk_SZ S.1 + zk_ms callee ≤ zk_SZ N1 + zk_ms mid)
    (hct : zk_Ct callee (.inr (.inr (.inl k)) :: as) S Q1) (kk : ∀ v S', Q1 v S' → zk_Ok mid N1 (pc + 3) ls (v.toList ++ st) S' Q) : zk_Ok mid N1 pc ls (as.reverse ++ .inr (.inr (.inl k)) :: st) S Q := by
  intro g p l e R s m args below meth c Z C hr H locs cells slots la hl h1 h2 hR hM hS hcs
  have hst := (zk_ok_c.mp (zk_ok_app h2).2).2
  have has := zk_ok_rev (zk_ok_app h2).1
  obtain ⟨k', rfl⟩ : ∃ k', k = k' + 1 := ⟨k - 1, by omega⟩
  have hrec : ∃ cell : Cell, H[zk_a0 g + (k' + 1)]? = some cell ∧ cell.vm.isStatics = false ∧ s.vm.findClass (zk_cn (zk_own callee)) = some cell.cls := va_recv (q := (zk_cn (zk_own callee), zk_TT (zk_own callee), zk_nf (zk_own callee))) (fs := zk_fs g S (k' + 1)) (q0 := 0) C.2.2.2.2.2.1 (zk_one hR hk1 hk) (zk_cl_at ho) (by rw [zk_encC_o hsh ho]; rfl)
  have hki := zk_kind_in hcal
  rw [if_neg (by omega)] at hki
  have hw := va_runV (g := F0 m pc la (((as.reverse ++ .inr (.inr (.inl (k' + 1))) :: st)).map (zk_enc g))) (rest := st.map (zk_enc g)) (As := as.map (zk_enc g)) (b := zk_a0 g + (k' + 1)) (C := zk_cn (zk_own callee)) (below := below) (H := H) (locs := locs) (cells := cells) (slots := slots) (e := e) (meth := meth) ⟨C.1, C.2.1, C.2.2.1, C.2.2.2.1, C.2.2.2.2.1⟩ (hct l g) ⟨zk_callB C hcal hfr hlo hrow, C.2.2.2.2.1 _ hki, C.2.2.2.2.1 _ (zk_sel_in hcal hkd)⟩ ⟨zk_Pc_blind, hrec, zk_pre (as := .inr (.inr (.inl (k' + 1))) :: as) C (zk_ok_c.mpr ⟨trivial, has⟩) hR hM hS⟩ rfl (by rw [List.length_map]; exact hn) (hl.1) (by show List.map _ _ = _; rw [List.map_append, List.map_reverse]; rfl) (lv_room (by rw [zk_catS_eq]; exact hcat)) hd ⟨by have := hcs.1; have := C.2.2.2.2.2.2.2.2.2.2.1; omega, by have := hcs.2; have := C.2.2.2.2.2.2.2.2.2.2.2.1; omega⟩
  exact zk_after kk C hr hl h1 hst hS hcs hw
theorem zk_r_invVS (hd : decode (zk_cc mid) pc = .ok (.invokevirtual idx, 3)) (hrow : (zk_own mid, idx, callee) ∈ zk_LK) (hcal : callee < zk_mtab.length) (hkd : zk_kd callee = 0) (ho : zk_cn (zk_own callee) = "java/lang/String") (hn : as.length = zk_np callee) (hcat : zk_catS st ≤ 8)
    (hfr : zk_fr callee + 1 ≤ zk_fr mid) (hlo : 8 + (zk_mL callee + 11) + zk_lo callee ≤ zk_lo mid) (hb1 : S.1 + zk_mc callee ≤ N1 + zk_mc mid) (hb2 : zk_SZ S.1 + zk_ms callee ≤ zk_SZ N1 + zk_ms mid)
    (hct : zk_Ct callee (.inr (.inr (.inr 1)) :: as) S Q1) (kk : ∀ v S', Q1 v S' → zk_Ok mid N1 (pc + 3) ls (v.toList ++ st) S' Q) : zk_Ok mid N1 pc ls (as.reverse ++ .inr (.inr (.inr 1)) :: st) S Q := by
  intro g p l e R s m args below meth c Z C hr H locs cells slots la hl h1 h2 hR hM hS hcs
  have hst := (zk_ok_c.mp (zk_ok_app h2).2).2
  have has := zk_ok_rev (zk_ok_app h2).1
  have hrec : ∃ cell : Cell, H[zk_tx g]? = some cell ∧ cell.vm.isStatics = false ∧ s.vm.findClass (zk_cn (zk_own callee)) = some cell.cls := by
    rw [ho]
    exact vk_recv (i := 0) C.2.2.2.2.2.2.1.1 (by omega) hS
  have hki := zk_kind_in hcal
  rw [if_neg (by omega)] at hki
  have hw := va_runV (g := F0 m pc la (((as.reverse ++ .inr (.inr (.inr 1)) :: st)).map (zk_enc g))) (rest := st.map (zk_enc g)) (As := as.map (zk_enc g)) (b := zk_tx g) (C := zk_cn (zk_own callee)) (below := below) (H := H) (locs := locs) (cells := cells) (slots := slots) (e := e) (meth := meth) ⟨C.1, C.2.1, C.2.2.1, C.2.2.2.1, C.2.2.2.2.1⟩ (hct l g) ⟨zk_callB C hcal hfr hlo hrow, C.2.2.2.2.1 _ hki, C.2.2.2.2.1 _ (zk_sel_in hcal hkd)⟩ ⟨zk_Pc_blind, hrec, zk_pre (as := .inr (.inr (.inr 1)) :: as) C (zk_ok_c.mpr ⟨trivial, has⟩) hR hM hS⟩ rfl (by rw [List.length_map]; exact hn) (hl.1) (by show List.map _ _ = _; rw [List.map_append, List.map_reverse]; rfl) (lv_room (by rw [zk_catS_eq]; exact hcat)) hd ⟨by have := hcs.1; have := C.2.2.2.2.2.2.2.2.2.2.1; omega, by have := hcs.2; have := C.2.2.2.2.2.2.2.2.2.2.2.1; omega⟩
  exact zk_after kk C hr hl h1 hst hS hcs hw
theorem zk_r_invS (hd : decode (zk_cc mid) pc = .ok (.invokestatic idx, 3)) (hrow : (zk_own mid, idx, callee) ∈ zk_LK) (hcal : callee < zk_mtab.length) (hkd : zk_kd callee = 1) (hn : as.length = zk_np callee) (hcat : zk_catS st ≤ 8)
    (hfr : zk_fr callee + 1 ≤ zk_fr mid) (hlo : 8 + (zk_mL callee + 11) + zk_lo callee ≤ zk_lo mid) (hb1 : S.1 + zk_mc callee ≤ N1 + zk_mc mid) (hb2 : zk_SZ S.1 + zk_ms callee ≤ zk_SZ N1 + zk_ms mid)
    (hct : zk_Ct callee as S Q1) (kk : ∀ v S', Q1 v S' → zk_Ok mid N1 (pc + 3) ls (v.toList ++ st) S' Q) : zk_Ok mid N1 pc ls (as.reverse ++ st) S Q := by
  intro g p l e R s m args below meth c Z C hr H locs cells slots la hl h1 h2 hR hM hS hcs
  have hst := (zk_ok_app h2).2
  have has := zk_ok_rev (zk_ok_app h2).1
  have hki := zk_kind_in hcal
  rw [if_pos hkd] at hki
  have hw := va_runS (g := F0 m pc la ((as.reverse ++ st).map (zk_enc g))) (rest := st.map (zk_enc g)) (As := as.map (zk_enc g)) (below := below) (H := H) (locs := locs) (cells := cells) (slots := slots) (e := e) (meth := meth) ⟨C.1, C.2.1, C.2.2.1, C.2.2.2.1, C.2.2.2.2.1⟩ (hct l g) ⟨zk_callB C hcal hfr hlo hrow, C.2.2.2.2.1 _ hki⟩ ⟨zk_Pc_blind, zk_pre C has hR hM hS⟩ rfl (by rw [List.length_map]; exact hn) (hl.1) (by show List.map _ _ = _; rw [List.map_append, List.map_reverse]) (lv_room (by rw [zk_catS_eq]; exact hcat)) hd ⟨by have := hcs.1; have := C.2.2.2.2.2.2.2.2.2.2.1; omega, by have := hcs.2; have := C.2.2.2.2.2.2.2.2.2.2.2.1; omega⟩
  exact zk_after kk C hr hl h1 hst hS hcs hw
theorem zk_r_invI (hd : decode (zk_cc mid) pc = .ok (.invokespecial idx, 3)) (hrow : (zk_own mid, idx, callee) ∈ zk_LK) (hcal : callee < zk_mtab.length) (hkd : zk_kd callee = 2) (hnm : (zk_yn callee).name = "<init>") (hrt : zk_rt callee = none) (hk1 : 1 ≤ k) (hn : as.length = zk_np callee) (hcat : zk_catS st ≤ 8)
    (hfr : zk_fr callee + 1 ≤ zk_fr mid) (hlo : 8 + (zk_mL callee + 11) + zk_lo callee ≤ zk_lo mid) (hb1 : S.1 + zk_mc callee ≤ N1 + zk_mc mid) (hb2 : zk_SZ S.1 + zk_ms callee ≤ zk_SZ N1 + zk_ms mid)
    (hct : zk_Ct callee (.inr (.inr (.inl k)) :: as) S Q1) (kk : ∀ v S', Q1 v S' → zk_Ok mid N1 (pc + 3) ls (v.toList ++ st) S' Q) : zk_Ok mid N1 pc ls (as.reverse ++ .inr (.inr (.inl k)) :: st) S Q := by
  intro g p l e R s m args below meth c Z C hr H locs cells slots la hl h1 h2 hR hM hS hcs
  have hst := (zk_ok_c.mp (zk_ok_app h2).2).2
  have has := zk_ok_rev (zk_ok_app h2).1
  obtain ⟨k', rfl⟩ : ∃ k', k = k' + 1 := ⟨k - 1, by omega⟩
  have hki := zk_kind_in hcal
  rw [if_neg (by omega)] at hki
  have hcb := zk_callB C hcal hfr hlo hrow
  rw [hrt] at hcb
  have hw := va_runI (g := F0 m pc la (((as.reverse ++ .inr (.inr (.inl (k' + 1))) :: st)).map (zk_enc g))) (rest := st.map (zk_enc g)) (As := as.map (zk_enc g)) (b := zk_a0 g + (k' + 1)) (below := below) (H := H) (locs := locs) (cells := cells) (slots := slots) (e := e) (meth := meth) ⟨C.1, C.2.1, C.2.2.1, C.2.2.2.1, C.2.2.2.2.1⟩ (hct l g) ⟨hcb, hnm, C.2.2.2.2.1 _ hki⟩ ⟨zk_Pc_blind, zk_pre (as := .inr (.inr (.inl (k' + 1))) :: as) C (zk_ok_c.mpr ⟨trivial, has⟩) hR hM hS⟩ rfl (by rw [List.length_map]; exact hn) (hl.1) (by show List.map _ _ = _; rw [List.map_append, List.map_reverse]; rfl) (lv_room (by rw [zk_catS_eq]; exact hcat)) hd ⟨by have := hcs.1; have := C.2.2.2.2.2.2.2.2.2.2.1; omega, by have := hcs.2; have := C.2.2.2.2.2.2.2.2.2.2.2.1; omega⟩
  exact zk_after kk C hr hl h1 hst hS hcs hw
/-- a nest mate's constructor -/
theorem zk_r_invN {host : String} (hd : decode (zk_cc mid) pc = .ok (.invokespecial idx, 3)) (hrow : (zk_own mid, idx, callee, host) ∈ zk_nst) (hcal : callee < zk_mtab.length) (hkd : zk_kd callee = 2) (hnm : (zk_yn callee).name = "<init>") (hrt : zk_rt callee = none) (hk1 : 1 ≤ k) (hn : as.length = zk_np callee) (hcat : zk_catS st ≤ 8)
    (hfr : zk_fr callee + 1 ≤ zk_fr mid) (hlo : 8 + (zk_mL callee + 11) + zk_lo callee ≤ zk_lo mid) (hb1 : S.1 + zk_mc callee ≤ N1 + zk_mc mid) (hb2 : zk_SZ S.1 + zk_ms callee ≤ zk_SZ N1 + zk_ms mid)
    (hct : zk_Ct callee (.inr (.inr (.inl k)) :: as) S Q1) (kk : ∀ v S', Q1 v S' → zk_Ok mid N1 (pc + 3) ls (v.toList ++ st) S' Q) : zk_Ok mid N1 pc ls (as.reverse ++ .inr (.inr (.inl k)) :: st) S Q := by
  intro g p l e R s m args below meth c Z C hr H locs cells slots la hl h1 h2 hR hM hS hcs
  have hst := (zk_ok_c.mp (zk_ok_app h2).2).2
  have has := zk_ok_rev (zk_ok_app h2).1
  obtain ⟨k', rfl⟩ : ∃ k', k = k' + 1 := ⟨k - 1, by omega⟩
  have hki := zk_kind_in hcal
  rw [if_neg (by omega)] at hki
  obtain ⟨hne, hpar, hcn⟩ := zk_mt_ok _ (zk_mr_in hcal)
  have hini : (Cond.initialized (zk_yn callee).cls).before args s = true := C.2.2.2.2.1 _ (zk_in_ini (List.mem_map.mpr ⟨zk_cn (zk_mr callee).1, by
    unfold zk_cn
    rw [List.getD_eq_getElem?_getD, List.getElem?_eq_getElem hcn]
    exact List.getElem_mem hcn, rfl⟩))
  have hcb : va_CN R s args (zk_cn (zk_own mid)) idx (zk_yn callee) host (zk_cc callee) (zk_mL callee) none (zk_ws callee) (zk_rm callee) (zk_mc callee) (zk_ms callee) (zk_np callee) := by
    have hc := C.2.2.2.2.1 _ (zk_code_in hcal)
    have hmem : Cond.code (zk_yn callee) (zk_cc callee) (zk_mL callee) (zk_rt callee) ∈ zk_ws callee := List.mem_cons_self
    rw [hrt] at hc hmem
    refine ⟨⟨rfl, rfl, Nat.le_trans hfr C.2.2.2.2.2.2.2.2.1, Nat.le_trans hlo C.2.2.2.2.2.2.2.2.2.1, zk_words_at C hcal, hmem⟩, hc, hini, hne, fun sig hs => ?_, va_Nw.use (w := .methodLinkNest (zk_cn (zk_own mid)) idx (zk_yn callee) host) rfl (C.2.2.2.2.2.2.2.1.2 (zk_own mid, idx, callee, host) hrow)⟩
    have h2 := hpar
    rw [show (zk_mr callee).2.2.1 = (zk_yn callee).desc from rfl, hs] at h2
    exact (Option.some.inj h2).symm
  have hw := va_runIN (g := F0 m pc la (((as.reverse ++ .inr (.inr (.inl (k' + 1))) :: st)).map (zk_enc g))) (rest := st.map (zk_enc g)) (As := as.map (zk_enc g)) (b := zk_a0 g + (k' + 1)) (below := below) (H := H) (locs := locs) (cells := cells) (slots := slots) (e := e) (meth := meth) ⟨C.1, C.2.1, C.2.2.1, C.2.2.2.1, C.2.2.2.2.1⟩ (hct l g) ⟨hcb, hnm, C.2.2.2.2.1 _ hki⟩ ⟨zk_Pc_blind, zk_pre (as := .inr (.inr (.inl (k' + 1))) :: as) C (zk_ok_c.mpr ⟨trivial, has⟩) hR hM hS⟩ rfl (by rw [List.length_map]; exact hn) (hl.1) (by show List.map _ _ = _; rw [List.map_append, List.map_reverse]; rfl) (lv_room (by rw [zk_catS_eq]; exact hcat)) hd ⟨by have := hcs.1; have := C.2.2.2.2.2.2.2.2.2.2.1; omega, by have := hcs.2; have := C.2.2.2.2.2.2.2.2.2.2.2.1; omega⟩
  exact zk_after kk C hr hl h1 hst hS hcs hw
/-- Object's constructor -/
theorem zk_r_obj (hd : decode (zk_cc mid) pc = .ok (.invokespecial idx, 3)) (hrow : (zk_own mid, idx) ∈ zk_OK) (hk1 : 1 ≤ k) (hcat : zk_catS st ≤ 8) (hfr : 1 ≤ zk_fr mid) (hlo : 20 ≤ zk_lo mid) (kk : zk_Ok mid N1 (pc + 3) ls st S Q) : zk_Ok mid N1 pc ls (.inr (.inr (.inl k)) :: st) S Q :=
  zk_go kk (fun _ h _ => (zk_ok_c.mp h).2) (fun g p l e R s m args below meth c H locs cells slots Z la C hl h1 h2 _ _ _ w => by
    obtain ⟨k', rfl⟩ : ∃ k', k = k' + 1 := ⟨k - 1, by omega⟩
    exact W.objInit C.1 C.2.1 C.2.2.2.1 (C.2.2.2.2.1 _ (zk_in_OK (List.mem_map.mpr ⟨_, hrow, rfl⟩))) (C.2.2.2.2.1 _ (zk_in_etc (List.mem_of_getElem? (i := 6) rfl))) (C.2.2.2.2.1 _ (zk_in_etc (List.mem_of_getElem? (i := 7) rfl))) rfl (by rw [C.2.2.1]; exact hl.1) rfl hd (Nat.le_trans hfr C.2.2.2.2.2.2.2.2.1) (by
      rw [zk_catS_eq]
      have := C.2.2.2.2.2.2.2.2.2.1
      show 2 * 0 + _ + 12 ≤ _
      omega) w)
end zk_rules6
