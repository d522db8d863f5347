/-! the entry of a method of java.lang.Math that no native stands for *-/
theorem zk_ofWF {l : Launch} {y : MethodName} {ws ws' : List Cond} {rm : Room} {Pc : Array Value → State → Prop} {Qc : Array Value → State → Outcome → State → Prop} {mc ms : Nat} {free : Addr → Prop} {cc : ByteArray} {maxL : Nat} {ret : Option FieldType}
    (hy : plainFor y = true) (hw : ws = Cond.code y cc maxL ret :: ws')
    (body : ∀ p e s m args below meth c s₁, BodyLoose p l y (headSpec ws rm) cc maxL ret e s m args below meth c s₁ → c.maxLocals = maxL → Pc args s →
      W p l e (headSpec ws rm).room s m args below meth c s.heap [] 0 0 (MQ below Qc args s mc ms free) (entryFrame m args maxL)) : Met l y ws rm Pc Qc mc ms free :=
  MetFree.of_bodySF (code := cc) (maxLocals := maxL) (ret := ret) hy
    (fun args s m h hn => by
      obtain ⟨meth, c, q1, q2, q3, q4, q5, q6, -, -⟩ := Cond.code_spec hn (atoms_spec (ws := ws) h _ (by rw [hw]; exact List.mem_cons_self))
      exact ⟨meth, c, q1, q2, q3, q4, q5, q6⟩)
    (fun p e s m args below meth c s₁ B hml hP _ => by
      obtain ⟨t, q1, o, q2, q3, q4⟩ := body p e s m args below meth c s₁ B hml hP s₁ (by rw [B.state]; rfl) (Stand.of_body B)
      exact ⟨t, o, q1, q2, q3, ⟨q4.1, q4.2⟩⟩)
section zk_math
variable {mid N1 pc : Nat} {ls st : List zk_V} {S S' : zk_S} {Q : Option zk_V → zk_S → Prop}
theorem zk_enterF {as : List zk_V} (hpl : plainFor (zk_yn mid) = true) (hlen : (zk_ent as).length ≤ zk_mL mid) (hkd : zk_kd mid = 2 → (zk_yn mid).name = "<init>") (k : zk_Ok mid S.1 0 (zk_loc as (zk_mL mid)) [] S Q) : zk_Ct mid as S Q := by
  intro l g
  refine zk_ofWF (cc := zk_cc mid) (maxL := zk_mL mid) (ret := zk_rt mid) hpl rfl ?_
  intro p e s m args below meth c s₁ B hml hv
  obtain ⟨rfl, hoka, hR, hM, hK, hOd, hOw, hsz⟩ := hv
  have hx := B.exec
  have hb := B.bytes
  have hr := B.returns
  have hts := atoms_spec (ws := zk_ws mid) B.pre
  have hown : s.vm.findClass (zk_yn mid).cls = some m.cls := findClass_of_methodNamed B.named
  have hlocks := B.notSynchronized
  have hin : meth.name = (zk_yn mid).name := (name_of_methodNamed B.named B.method).1
  rw [lg_entry_eq]
  refine k g p l e _ s m _ below meth c _ ⟨hx, hb, hml, hown, fun w hw => hts w (List.mem_cons_of_mem _ hw), hK, hOd, hOw, Nat.le_refl _, Nat.le_refl _, Nat.le_refl _, Nat.le_refl _, fun h => hin.trans (hkd h), hsz⟩ ?_ s.heap [] 0 0 _ (zk_LR_ent hlen) (zk_ok_loc hoka) zk_ok_n hR hM va_S.rf ⟨by omega, by omega⟩
  intro v S' H locs cells slots pc' la hq hok hrt hR' hM' hS hcs hN hZ
  refine W.widen (k := zk_mc mid) (n := zk_ms mid) (by have := hcs.1; omega) (by have := hcs.2; omega) ?_
  have hQ : ∀ t : State, t.heap = H → s.WarmedH t.vm → zk_Qc g mid S Q (as.map (zk_enc g)).toArray s (.returned (v.map (zk_enc g))) t := fun t ht hW => ⟨⟨v, S', rfl, hok, hq, by rw [ht]; exact hR', hM', hN, hZ⟩, hS.F ht⟩
  match v, hrt with
  | none, hrt =>
    exact W.vret hx hb (hr.trans hrt.2) hQ hS.2.2 hrt.1
  | some (.inl x), hrt =>
    obtain ⟨hd, ty, hty, hn⟩ := hrt
    exact W.zret hx hb (hr.trans hty) hn hQ hS.2.2 hd
  | some (.inr (.inl x)), hrt =>
    exact W.lret hx hb (hr.trans hrt.2) hQ hS.2.2 hrt.1
  | some (.inr (.inr (.inl r))), hrt =>
    obtain ⟨hd, nm, hty⟩ := hrt
    exact W.aret hx hb (hr.trans hty) (Or.inl ⟨nm, rfl⟩) (by cases r with
      | zero => exact Or.inl rfl
      | succ r => exact Or.inr ⟨_, rfl⟩) hQ hS.2.2 hd
end zk_math
def zk_ckF (mid : Nat) (cl : List zk_E) (n : Nat) : Bool := (zk_chk mid cl && (Nat.beq 80 (zk_N1 mid + zk_mc mid) && Nat.beq (zk_SZ 80) (zk_SZ (zk_N1 mid) + zk_ms mid))) && (plainFor (zk_yn mid) && (Nat.beq n (zk_mL mid) && (!Nat.beq (zk_kd mid) 2 && Nat.beq (zk_N1 mid) 80)))
theorem zk_tF {mid pc N : Nat} {cl : List zk_E} (hk : zk_ckF mid cl N = true) (cuts : List (Nat × List Bool)) (n fuel : Nat) (hpc : ((cl.drop n).map (fun e => e.1)).head? = some pc) {ls st : List zk_V} {μ : zk_M} {Q : Option zk_V → zk_M → Prop} (h : zk_wq mid cuts Q fuel (cl.drop n) ls st μ) : zk_K mid pc ls st μ Q := zk_run ((Bool.and_eq_true _ _).mp hk).1 cuts n fuel hpc h
theorem zk_cF {mid N : Nat} {cl : List zk_E} (hk : zk_ckF mid cl N = true) {as : List zk_V} {μ : zk_M} {Q : Option zk_V → zk_M → Prop} (hl : Nat.ble (zk_ent as).length N = true) (k : zk_K mid 0 (zk_loc as N) [] μ Q) : zk_C mid as μ Q := by
  have h2 := ((Bool.and_eq_true _ _).mp hk).2
  simp only [Bool.and_eq_true] at h2
  obtain ⟨g1, g2, g3, g4⟩ := h2
  have g2 := Nat.eq_of_beq_eq_true g2
  subst g2
  refine zk_enterF g1 (Nat.le_of_ble_eq_true hl) (fun q => ?_) ?_
  · rw [q] at g3; cases g3
  · have g4 := Nat.eq_of_beq_eq_true g4
    unfold zk_K at k
    rw [g4] at k
    exact k
