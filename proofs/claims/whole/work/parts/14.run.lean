/-! what is dead may be forgotten *-/
def zk_fg : List Bool → List zk_V → List zk_V
  | true :: m, v :: ls => v :: zk_fg m ls
  | false :: m, _ :: ls => .inr (.inr (.inr 0)) :: zk_fg m ls
  | _, _ => []
theorem zk_fg_at : ∀ (m : List Bool) (ls : List zk_V) (i : Nat) (v : zk_V), (zk_fg m ls)[i]? = some v → zk_real v = true → ls[i]? = some v
  | true :: m, w :: ls, 0, v, h, _ => h
  | true :: m, w :: ls, i + 1, v, h, hr => zk_fg_at m ls i v h hr
  | false :: m, w :: ls, 0, v, h, hr => by cases h; exact absurd hr (by decide)
  | false :: m, w :: ls, i + 1, v, h, hr => zk_fg_at m ls i v h hr
  | [], ls, i, v, h, _ => by cases ls <;> simp [zk_fg] at h
  | true :: m, [], i, v, h, _ => by simp [zk_fg] at h
  | false :: m, [], i, v, h, _ => by simp [zk_fg] at h
theorem zk_fg_mem : ∀ (m : List Bool) (ls : List zk_V) (v : zk_V), v ∈ zk_fg m ls → v ∈ ls ∨ v = .inr (.inr (.inr 0))
  | true :: m, w :: ls, v, h => by
    rcases List.mem_cons.mp h with q | q
    · exact Or.inl (by rw [q]; exact List.mem_cons_self)
    · exact (zk_fg_mem m ls v q).imp (List.mem_cons_of_mem _) id
  | false :: m, w :: ls, v, h => by
    rcases List.mem_cons.mp h with q | q
    · exact Or.inr q
    · exact (zk_fg_mem m ls v q).imp (List.mem_cons_of_mem _) id
  | [], ls, v, h => by cases ls <;> simp [zk_fg] at h
  | true :: m, [], v, h => by simp [zk_fg] at h
  | false :: m, [], v, h => by simp [zk_fg] at h
theorem zk_forget {mid pc : Nat} {ls st : List zk_V} {μ : zk_M} {Q : Option zk_V → zk_M → Prop} (m : List Bool) (k : zk_K mid pc (zk_fg m ls) st μ Q) : zk_K mid pc ls st μ Q := by
  intro g p l e R s mm args below meth c Z C hr H locs cells slots la hl h1 h2 hR hM hS hc
  refine k g p l e R s mm args below meth c Z C hr H locs cells slots la ⟨hl.1, hl.2.1, fun i v hi hv => hl.2.2 i v (zk_fg_at m ls i v hi hv) hv⟩ (fun v hv => ?_) h2 hR hM hS hc
  rcases zk_fg_mem m ls v hv with q | q
  · exact h1 v q
  · rw [q]; trivial
/-- at a cut: what lives there -/
def zk_lf (mid : Nat) (cuts : List (Nat × List Bool)) (pc : Nat) (ls st : List zk_V) (μ : zk_M) (Q : Option zk_V → zk_M → Prop) : Prop := match cuts.lookup pc with
  | some m => zk_K mid pc (zk_fg m ls) st μ Q
  | none => zk_K mid pc ls st μ Q
theorem zk_lf_of {mid pc : Nat} {cuts : List (Nat × List Bool)} {ls st : List zk_V} {μ : zk_M} {Q : Option zk_V → zk_M → Prop} (h : zk_lf mid cuts pc ls st μ Q) : zk_K mid pc ls st μ Q := by
  unfold zk_lf at h
  split at h
  · exact zk_forget _ h
  · exact h
def zk_wq (mid : Nat) (cuts : List (Nat × List Bool)) (Q : Option zk_V → zk_M → Prop) : Nat → List zk_E → List zk_V → List zk_V → zk_M → Prop
  | 0, _, _, _, _ => False
  | _ + 1, [], _, _, _ => False
  | n + 1, e :: cs, ls, st, μ => zk_stp e cs (fun k ls st μ => match cs.drop k with
      | [] => False
      | e' :: cs' => match cuts.lookup e'.1 with
        | some m => zk_K mid e'.1 (zk_fg m ls) st μ Q
        | none => zk_wq mid cuts Q n (e' :: cs') ls st μ) (fun pc ls st μ => zk_lf mid cuts pc ls st μ Q) ls st μ Q
theorem zk_soundq {mid : Nat} (hm1 : 80 = zk_N1 mid + zk_mc mid) (hm2 : zk_SZ 80 = zk_SZ (zk_N1 mid) + zk_ms mid) (cuts : List (Nat × List Bool)) {Q : Option zk_V → zk_M → Prop} : ∀ (n : Nat) (e : zk_E) (cs : List zk_E) (ls st : List zk_V) (μ : zk_M), zk_chk mid (e :: cs) = true → zk_wq mid cuts Q n (e :: cs) ls st μ → zk_K mid e.1 ls st μ Q
  | 0, _, _, _, _, _, _, h => h.elim
  | n + 1, e, cs, ls, st, μ, hc, h => by
    have hc1 := (Bool.and_eq_true _ _).mp hc
    refine zk_sound1 hm1 hm2 hc1.1 (fun k ls st μ hk => ?_) (fun pc ls st μ hl => zk_lf_of hl) h
    have hk : (match cs.drop k with
      | [] => False
      | e' :: cs' => match cuts.lookup e'.1 with
        | some m => zk_K mid e'.1 (zk_fg m ls) st μ Q
        | none => zk_wq mid cuts Q n (e' :: cs') ls st μ) := hk
    cases hd : cs.drop k with
    | nil => rw [hd] at hk; exact hk.elim
    | cons e' cs' =>
      rw [hd] at hk
      refine ⟨e', cs', rfl, ?_⟩
      have hk : (match cuts.lookup e'.1 with
        | some m => zk_K mid e'.1 (zk_fg m ls) st μ Q
        | none => zk_wq mid cuts Q n (e' :: cs') ls st μ) := hk
      have hch : zk_chk mid (e' :: cs') = true := by
        rw [← hd]
        exact zk_chk_drop k cs hc1.2
      cases hcut : cuts.lookup e'.1 with
      | some m => rw [hcut] at hk; exact zk_forget _ hk
      | none => rw [hcut] at hk; exact zk_soundq hm1 hm2 cuts n e' cs' ls st μ hch hk
/-- from the n-th instruction on -/
theorem zk_run {mid pc : Nat} {cl : List zk_E} (hck : (zk_chk mid cl && (Nat.beq 80 (zk_N1 mid + zk_mc mid) && Nat.beq (zk_SZ 80) (zk_SZ (zk_N1 mid) + zk_ms mid))) = true) (cuts : List (Nat × List Bool)) (n fuel : Nat) (hpc : ((cl.drop n).map (fun e => e.1)).head? = some pc) {ls st : List zk_V} {μ : zk_M} {Q : Option zk_V → zk_M → Prop} (h : zk_wq mid cuts Q fuel (cl.drop n) ls st μ) : zk_K mid pc ls st μ Q := by
  simp only [Bool.and_eq_true] at hck
  obtain ⟨h1, h2, h3⟩ := hck
  have hd := zk_chk_drop n cl h1
  cases hcl : cl.drop n with
  | nil => rw [hcl] at hpc; cases hpc
  | cons e cs =>
    rw [hcl] at hpc h hd
    have : e.1 = pc := Option.some.inj hpc
    rw [← this]
    exact zk_soundq (Nat.eq_of_beq_eq_true h2) (Nat.eq_of_beq_eq_true h3) cuts fuel e cs ls st μ hd h
/-- a contract out of the walk -/
theorem zk_ct {mid : Nat} {as : List zk_V} {μ : zk_M} {Q : Option zk_V → zk_M → Prop} (hp : (plainName (zk_yn mid).cls && (Nat.ble (zk_ent as).length (zk_mL mid) && (!Nat.beq (zk_kd mid) 2 && Nat.beq (zk_N1 mid) 80))) = true) (k : zk_K mid 0 (zk_loc as (zk_mL mid)) [] μ Q) : zk_C mid as μ Q := by
  simp only [Bool.and_eq_true] at hp
  obtain ⟨h1, h2, h3, h4⟩ := hp
  refine zk_enter h1 (Nat.le_of_ble_eq_true h2) (fun q => ?_) ?_
  · rw [q] at h3; cases h3
  · have h4 := Nat.eq_of_beq_eq_true h4
    unfold zk_K at k
    rw [h4] at k
    exact k
theorem zk_C.imp {mid : Nat} {as : List zk_V} {μ : zk_M} {Q Q' : Option zk_V → zk_M → Prop} (h : zk_C mid as μ Q) (hq : ∀ v μ', Q v μ' → Q' v μ') : zk_C mid as μ Q' := by
  intro l g p e h1 h2 h3 s m args below h4 h5 h6 h7
  obtain ⟨n, o, a1, a2, a3, a4, a5⟩ := h l g p e h1 h2 h3 s m args below h4 h5 h6 h7
  refine ⟨n, o, a1, a2, a3, ?_, a5⟩
  obtain ⟨⟨v, S', b1, b2, ⟨μ', b3, b4⟩, b5⟩, b6⟩ := a4
  exact ⟨⟨v, S', b1, b2, ⟨μ', b3, hq v μ' b4⟩, b5⟩, b6⟩
def zk_ckM (mid : Nat) (cl : List zk_E) (n : Nat) : Bool := (zk_chk mid cl && (Nat.beq 80 (zk_N1 mid + zk_mc mid) && Nat.beq (zk_SZ 80) (zk_SZ (zk_N1 mid) + zk_ms mid))) && (plainName (zk_yn mid).cls && (Nat.beq n (zk_mL mid) && (!Nat.beq (zk_kd mid) 2 && Nat.beq (zk_N1 mid) 80)))
theorem zk_t {mid pc N : Nat} {cl : List zk_E} (hk : zk_ckM mid cl N = true) (cuts : List (Nat × List Bool)) (n fuel : Nat) (hpc : ((cl.drop n).map (fun e => e.1)).head? = some pc) {ls st : List zk_V} {μ : zk_M} {Q : Option zk_V → zk_M → Prop} (h : zk_wq mid cuts Q fuel (cl.drop n) ls st μ) : zk_K mid pc ls st μ Q := zk_run ((Bool.and_eq_true _ _).mp hk).1 cuts n fuel hpc h
theorem zk_c {mid N : Nat} {cl : List zk_E} (hk : zk_ckM mid cl N = true) {as : List zk_V} {μ : zk_M} {Q : Option zk_V → zk_M → Prop} (hl : Nat.ble (zk_ent as).length N = true) (k : zk_K mid 0 (zk_loc as N) [] μ Q) : zk_C mid as μ Q := by
  have h2 := ((Bool.and_eq_true _ _).mp hk).2
  simp only [Bool.and_eq_true] at h2
  obtain ⟨g1, g2, g3, g4⟩ := h2
  have g2 := Nat.eq_of_beq_eq_true g2
  subst g2
  exact zk_ct (by simp only [Bool.and_eq_true]; exact ⟨g1, hl, g3, g4⟩) k
theorem zk_iV {mid : Nat} {as : List zk_V} {μ : zk_M} {A B : zk_M → Prop} (h : zk_C mid as μ (zk_RV A)) (hq : ∀ μ', A μ' → B μ') : zk_C mid as μ (zk_RV B) := h.imp fun v μ' q => match v, q with
  | none, q => hq μ' q
theorem zk_iI {mid : Nat} {as : List zk_V} {μ : zk_M} {A B : Int → zk_M → Prop} (h : zk_C mid as μ (zk_RI A)) (hq : ∀ r μ', A r μ' → B r μ') : zk_C mid as μ (zk_RI B) := h.imp fun v μ' q => match v, q with
  | some (.inl r), q => hq r μ' q
theorem zk_iL {mid : Nat} {as : List zk_V} {μ : zk_M} {A B : Int → zk_M → Prop} (h : zk_C mid as μ (zk_RL A)) (hq : ∀ r μ', A r μ' → B r μ') : zk_C mid as μ (zk_RL B) := h.imp fun v μ' q => match v, q with
  | some (.inr (.inl r)), q => hq r μ' q
theorem zk_iR {mid : Nat} {as : List zk_V} {μ : zk_M} {A B : Nat → zk_M → Prop} (h : zk_C mid as μ (zk_RR A)) (hq : ∀ r μ', A r μ' → B r μ') : zk_C mid as μ (zk_RR B) := h.imp fun v μ' q => match v, q with
  | some (.inr (.inr (.inl r))), q => hq r μ' q
/-- the check in pieces -/
def zk_chkN (mid : Nat) : Nat → List zk_E → Bool
  | 0, _ => true
  | _, [] => true
  | n + 1, e :: cs => zk_chkE mid e cs && zk_chkN mid n cs
theorem zk_chk_split {mid : Nat} : ∀ (n : Nat) (cs : List zk_E), zk_chkN mid n cs = true → zk_chk mid (cs.drop n) = true → zk_chk mid cs = true
  | 0, cs, _, h => h
  | n + 1, [], _, _ => rfl
  | n + 1, e :: cs, h1, h2 => by
    have h1 := (Bool.and_eq_true _ _).mp h1
    exact (Bool.and_eq_true _ _).mpr ⟨h1.1, zk_chk_split n cs h1.2 h2⟩
