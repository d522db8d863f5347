/-! rules: returns, the entry, calls, the copy of a row -/
section zk_rules5
variable {mid N1 pc : Nat} {ls st : List zk_V} {S S' : zk_S} {Q : Option zk_V → zk_S → Prop}
theorem zk_r_ret {v : Option zk_V} (hq : Q v S) (hv : zk_rets mid pc v) (hN : S.1 = N1 + zk_mc mid) (hZ : zk_SZ S.1 = zk_SZ N1 + zk_ms mid) : zk_Ok mid N1 pc ls v.toList S Q := by
  intro g p l e R s m args below meth c Z C hr H locs cells slots la hl h1 h2 hR hM hS hcs
  exact hr v S H locs cells slots pc la hq (fun x hx => by subst hx; exact (zk_ok_c.mp h2).1) hv hR hM hS hcs hN hZ
/-- the locals at the entry -/
def zk_ent : List zk_V → List zk_V
  | [] => []
  | v :: vs => match v with
    | .inr (.inl _) => v :: .inr (.inr (.inr 0)) :: zk_ent vs
    | _ => v :: zk_ent vs
def zk_loc (as : List zk_V) (n : Nat) : List zk_V := zk_ent as ++ List.replicate (n - (zk_ent as).length) (.inr (.inr (.inr 0)))
theorem zk_ent_c1 {v : zk_V} {vs : List zk_V} (h : ∀ x, v ≠ .inr (.inl x)) : zk_ent (v :: vs) = v :: zk_ent vs := by
  match v, h with
  | .inl x, _ => rfl
  | .inr (.inl x), h => exact absurd rfl (h x)
  | .inr (.inr x), _ => rfl
theorem zk_cat_of {g : zk_G} {v : zk_V} : (∃ x, v = .inr (.inl x) ∧ (zk_enc g v).category = 2) ∨ ((∀ x, v ≠ .inr (.inl x)) ∧ (zk_enc g v).category = 1) := by
  match v with
  | .inl x => exact Or.inr ⟨fun y h => (by cases h), rfl⟩
  | .inr (.inl x) => exact Or.inl ⟨x, rfl, rfl⟩
  | .inr (.inr (.inl 0)) => exact Or.inr ⟨fun y h => (by cases h), rfl⟩
  | .inr (.inr (.inl (k + 1))) => exact Or.inr ⟨fun y h => (by cases h), rfl⟩
  | .inr (.inr (.inr k)) => exact Or.inr ⟨fun y h => (by cases h), rfl⟩
theorem zk_ent_at {g : zk_G} : ∀ (as : List zk_V) (b i : Nat) (v : zk_V), (zk_ent as)[i]? = some v → zk_real v = true → (b + i, zk_enc g v) ∈ lv_args b (as.map (zk_enc g))
  | [], b, i, v, h, _ => by simp [zk_ent] at h
  | a :: as, b, i, v, h, hr => by
    rcases zk_cat_of (g := g) (v := a) with ⟨x, rfl, hc⟩ | ⟨hx, hc⟩
    · rw [List.map_cons, lv_args, if_pos hc]
      match i, h with
      | 0, h => cases h; exact List.mem_cons_self
      | 1, h => cases h; exact absurd hr (by decide)
      | i + 2, h =>
        have := zk_ent_at (g := g) as (b + 2) i v h hr
        rw [show b + 2 + i = b + (i + 2) by omega] at this
        exact List.mem_cons_of_mem _ this
    · rw [List.map_cons, lv_args, if_neg (by omega)]
      rw [zk_ent_c1 hx] at h
      match i, h with
      | 0, h => cases h; exact List.mem_cons_self
      | i + 1, h =>
        have := zk_ent_at (g := g) as (b + 1) i v h hr
        rw [show b + 1 + i = b + (i + 1) by omega] at this
        exact List.mem_cons_of_mem _ this
theorem zk_ent_len {g : zk_G} : ∀ as : List zk_V, (lg_sl (as.map (zk_enc g))).length = (zk_ent as).length
  | [] => rfl
  | a :: as => by
    have ih := zk_ent_len (g := g) as
    rcases zk_cat_of (g := g) (v := a) with ⟨x, rfl, hc⟩ | ⟨hx, hc⟩
    · simp [lg_sl, zk_ent, hc, ih] at *
      omega
    · rw [zk_ent_c1 hx]
      simp [lg_sl, hc, ih] at *
      omega
theorem zk_ok_ent : ∀ as : List zk_V, zk_okL as → zk_okL (zk_ent as)
  | [], _ => zk_ok_n
  | a :: as, h => by
    have ih := zk_ok_ent as (zk_ok_c.mp h).2
    rcases zk_cat_of (g := (0, 0, 0, 0, fun _ => 0, fun _ _ => 0, fun _ => 0, fun _ => 0)) (v := a) with ⟨x, rfl, hc⟩ | ⟨hx, hc⟩
    · exact zk_ok_c.mpr ⟨(zk_ok_c.mp h).1, zk_ok_c.mpr ⟨trivial, ih⟩⟩
    · rw [zk_ent_c1 hx]
      exact zk_ok_c.mpr ⟨(zk_ok_c.mp h).1, ih⟩
theorem zk_ok_loc {as : List zk_V} {n : Nat} (h : zk_okL as) : zk_okL (zk_loc as n) := by
  intro v hv
  rcases List.mem_append.mp hv with h1 | h1
  · exact zk_ok_ent as h v h1
  · rw [(List.mem_replicate.mp h1).2]; trivial
theorem zk_LR_ent {g : zk_G} {as : List zk_V} {n : Nat} (h : (zk_ent as).length ≤ n) : zk_LR g ((lg_sl (as.map (zk_enc g)) ++ List.replicate (n - (lg_sl (as.map (zk_enc g))).length) Slot.unset).toArray) n (zk_loc as n) := by
  have h0 := lv_entry (as.map (zk_enc g)) (n := n) (by rw [zk_ent_len]; exact h)
  refine ⟨h0.1, h0.2.1, fun i v hi hr => ?_⟩
  unfold zk_loc at hi
  rcases Nat.lt_or_ge i (zk_ent as).length with hlt | hge
  · rw [List.getElem?_append_left hlt] at hi
    have := zk_ent_at (g := g) as 0 i v hi hr
    rw [Nat.zero_add] at this
    exact h0.2.2 _ this
  · rw [List.getElem?_append_right hge] at hi
    have := List.mem_of_getElem? hi
    rw [(List.mem_replicate.mp this).2] at hr
    exact absurd hr (by decide)
/-- the entry: a contract out of the walk from 0 -/
theorem zk_enter {as : List zk_V} (hpl : plainName (zk_yn mid).cls = true) (hlen : (zk_ent as).length ≤ zk_mL mid) (hkd : zk_kd mid = 2 → (zk_yn mid).name = "<init>") (k : zk_Ok mid S.1 0 (zk_loc as (zk_mL mid)) [] S Q) : zk_Ct mid as S Q := by
  intro l g
  refine Met.ofW (cc := zk_cc mid) (maxL := zk_mL mid) (ret := zk_rt mid) hpl rfl ?_
  intro p e s m args below meth c s₁ B hml hv
  obtain ⟨rfl, hoka, hR, hM, hK, hOd, hOw, hsz⟩ := hv
  have hx := B.exec
  have hb := B.bytes
  have hr := B.returns
  have hts := atoms_spec (ws := zk_ws mid) B.pre
  have hown : s.vm.findClass (zk_yn mid).cls = some m.cls := findClass_of_methodNamed B.named
  have hlocks := B.notSynchronized
  have hin : meth.name = (zk_yn mid).name := (name_of_methodNamed B.named B.method).1
  rw [lg_entry_eq]
  refine k g p l e _ s m _ below meth c _ ⟨hx, hb, hml, hown, fun w hw => hts w (List.mem_cons_of_mem _ hw), hK, hOd, hOw, Nat.le_refl _, Nat.le_refl _, Nat.le_refl _, Nat.le_refl _, fun h => hin.trans (hkd h), hsz⟩ ?_ s.heap [] 0 0 _ (zk_LR_ent hlen) (zk_ok_loc hoka) zk_ok_n hR hM va_S.rf ⟨by omega, by omega⟩
  intro v S' H locs cells slots pc' la hq hok hrt hR' hM' hS hcs hN hZ
  refine W.widen (k := zk_mc mid) (n := zk_ms mid) (by have := hcs.1; omega) (by have := hcs.2; omega) ?_
  have hQ : ∀ t : State, t.heap = H → s.WarmedH t.vm → zk_Qc g mid S Q (as.map (zk_enc g)).toArray s (.returned (v.map (zk_enc g))) t := fun t ht hW => ⟨⟨v, S', rfl, hok, hq, by rw [ht]; exact hR', hM', hN, hZ⟩, hS.F ht⟩
  match v, hrt with
  | none, hrt =>
    exact W.vret hx hb (hr.trans hrt.2) hQ hS.2.2 hrt.1
  | some (.inl x), hrt =>
    obtain ⟨hd, ty, hty, hn⟩ := hrt
    exact W.zret hx hb (hr.trans hty) hn hQ hS.2.2 hd
  | some (.inr (.inl x)), hrt =>
    exact W.lret hx hb (hr.trans hrt.2) hQ hS.2.2 hrt.1
  | some (.inr (.inr (.inl r))), hrt =>
    obtain ⟨hd, nm, hty⟩ := hrt
    exact W.aret hx hb (hr.trans hty) (Or.inl ⟨nm, rfl⟩) (by cases r with
      | zero => exact Or.inl rfl
      | succ r => exact Or.inr ⟨_, rfl⟩) hQ hS.2.2 hd
theorem zk_Pc_blind {g : zk_G} {as : List zk_V} : FrameBlind (zk_Pc g as S) := fun a U g' mk h =>
  ⟨h.1, h.2.1, h.2.2.1, h.2.2.2.1, va_K.moved (u := U) (U := U.calling g' mk a) (Vm.Alike.refl U.vm) h.2.2.2.2.1, zk_Od.moved (u := U) (U := U.calling g' mk a) (Vm.Alike.refl U.vm) h.2.2.2.2.2.1, zk_Ow.same (u := U) (U := U.calling g' mk a) rfl h.2.2.2.2.2.2.1, h.2.2.2.2.2.2.2⟩
theorem zk_gT_word {w : Cond} (h : w ∈ zk_gT) : goodWord w = true := by
  have := (zk_gT_good w h).2
  rcases this with h1 | ⟨ty, rfl⟩
  · cases w <;> first | exact h1 | rfl
  · rfl
theorem zk_code_in {callee : Nat} (h : callee < zk_mtab.length) : Cond.code (zk_yn callee) (zk_cc callee) (zk_mL callee) (zk_rt callee) ∈ zk_gT := by
  have hm : zk_mr callee ∈ zk_mtab := by
    unfold zk_mr
    rw [List.getD_eq_getElem?_getD, List.getElem?_append_left h, List.getElem?_eq_getElem h]
    exact List.getElem_mem h
  exact zk_in_code (List.mem_map.mpr ⟨_, hm, rfl⟩)
theorem zk_mr_in {callee : Nat} (h : callee < zk_mtab.length) : zk_mr callee ∈ zk_mtab := by
  unfold zk_mr
  rw [List.getD_eq_getElem?_getD, List.getElem?_append_left h, List.getElem?_eq_getElem h]
  exact List.getElem_mem h
theorem zk_pre {g : zk_G} {p : Program} {R : Room} {s : State} {m : MethodId} {args : Array Value} {meth : Method} {c : Code} {H : Heap} {locs : List Loc} {as : List zk_V} (C : zk_Cx g mid p R s m args meth c) (hoka : zk_okL as) (hR : zk_RH g S H) (hM : zk_MG S) (hS : va_S (zk_A g) s.heap H locs) : ∀ U : State, U.heap = H → s.WarmedH U.vm → zk_Pc g as S (as.map (zk_enc g)).toArray U := fun U hU hW =>
  ⟨rfl, hoka, by rw [hU]; exact hR, hM, va_K.moved hW.alike C.2.2.2.2.2.1, zk_Od.moved hW.alike (by rw [hU]; exact C.2.2.2.2.2.2.1.kept (fun a ha hn => hS.2.1 a ha hn)), C.2.2.2.2.2.2.2.1.warm hW, by rw [hU]; exact Nat.le_trans C.2.2.2.2.2.2.2.2.2.2.2.2.2 hS.1⟩
end zk_rules5
