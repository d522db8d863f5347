/-! the run of the constructors is right *-/
def zk_P (base : zk_M) (mid N1 pc : Nat) (stop : Option Nat) (ls st : List zk_V) (x : zk_X) (r : zk_X × Option (List zk_V)) : Prop := match r.2 with
  | none => ∀ Q : Option zk_V → zk_S → Prop, Q none (zk_st base r.1) → zk_Ok mid N1 pc ls st (zk_st base x) Q
  | some ls' => ∀ Q : Option zk_V → zk_S → Prop, ∀ sp, stop = some sp → zk_Ok mid N1 sp ls' [] (zk_st base r.1) Q → zk_Ok mid N1 pc ls st (zk_st base x) Q
theorem zk_P.go {base : zk_M} {mid N1 pc pc' : Nat} {stop : Option Nat} {ls st ls' st' : List zk_V} {x x' : zk_X} {r : zk_X × Option (List zk_V)} (h : zk_P base mid N1 pc' stop ls' st' x' r) (k : ∀ Q, zk_Ok mid N1 pc' ls' st' (zk_st base x') Q → zk_Ok mid N1 pc ls st (zk_st base x) Q) : zk_P base mid N1 pc stop ls st x r := by
  unfold zk_P at *
  split
  · rename_i e
    rw [e] at h
    exact fun Q hq => k Q (h Q hq)
  · rename_i l e
    rw [e] at h
    exact fun Q sp hs hq => k Q (h Q sp hs hq)
theorem zk_nx_at {cs : List zk_E} {k pc : Nat} {off : Int} (h : zk_pcAt cs k ((pc : Int) + off) = true) : ∃ t : Nat, (pc : Int) + off = (t : Int) ∧ zk_nx (cs.drop k) t = true := by
  unfold zk_pcAt at h
  split at h
  · cases h
  · rename_i e l hd
    refine ⟨e.1, (eq_of_beq h).symm, ?_⟩
    rw [hd]
    exact Nat.beq_refl e.1
set_option maxHeartbeats 4000000 in
theorem zk_cx_sound {base : zk_M} (hb : ∀ c i, 1 ≤ c → base c i = 0) : ∀ (n mid N1 : Nat) (stop : Option Nat) (cs : List zk_E) (ls st : List zk_V) (x : zk_X) (r : zk_X × Option (List zk_V)) (pc : Nat), zk_nx cs pc = true → zk_cx n mid N1 stop cs ls st x = some r → zk_P base mid N1 pc stop ls st x r := by
  intro n
  induction n with
  | zero => intro mid N1 stop cs ls st x r pc _ h; cases h
  | succ n ih =>
    intro mid N1 stop cs ls st x r pc hpc h
    match cs, hpc, h with
    | (pc0, i, a, b, z, c, d) :: cs, hpc, h =>
      have e0 : pc0 = pc := Nat.eq_of_beq_eq_true hpc
      subst e0
      unfold zk_cx at h
      split at h
      · rename_i hstop
        split at h
        · cases h
          intro Q sp hs hq
          have : sp = pc0 := by rw [hstop] at hs; exact (Option.some.inj hs).symm
          subst this
          exact hq
        · cases h
      · cases i with
        | aload_n j =>
          dsimp only at h
          split at h
          · rename_i k hx
            obtain ⟨g1, g2⟩ := zk_condO h
            rw [Bool.and_eq_true] at g1
            exact (ih _ _ _ _ _ _ _ _ _ g1.2 g2).go (fun Q k => zk_r_aload_n (zk_dec_of g1.1) hx rfl k)
          · cases h
        | iload_n j =>
          dsimp only at h
          split at h
          · rename_i v hx
            obtain ⟨g1, g2⟩ := zk_condO h
            rw [Bool.and_eq_true] at g1
            exact (ih _ _ _ _ _ _ _ _ _ g1.2 g2).go (fun Q k => zk_r_iload_n (zk_dec_of g1.1) hx k)
          · cases h
        | iconst v =>
          dsimp only at h
          obtain ⟨g1, g2⟩ := zk_condO h
          simp only [Bool.and_eq_true, decide_eq_true_eq] at g1
          exact (ih _ _ _ _ _ _ _ _ _ g1.2.1 g2).go (fun Q k => zk_r_iconst (zk_dec_of g1.1) g1.2.2 k)
        | bipush v =>
          dsimp only at h
          obtain ⟨g1, g2⟩ := zk_condO h
          simp only [Bool.and_eq_true, decide_eq_true_eq] at g1
          exact (ih _ _ _ _ _ _ _ _ _ g1.2.1 g2).go (fun Q k => zk_r_bipush (zk_dec_of g1.1) g1.2.2.2 g1.2.2.1 k)
        | sipush v =>
          dsimp only at h
          obtain ⟨g1, g2⟩ := zk_condO h
          simp only [Bool.and_eq_true, decide_eq_true_eq] at g1
          exact (ih _ _ _ _ _ _ _ _ _ g1.2.1 g2).go (fun Q k => zk_r_sipush (zk_dec_of g1.1) g1.2.2.2 g1.2.2.1 k)
        | istore_n j =>
          dsimp only at h
          split at h
          · obtain ⟨g1, g2⟩ := zk_condO h
            simp only [Bool.and_eq_true] at g1
            exact (ih _ _ _ _ _ _ _ _ _ g1.2.1 g2).go (fun Q k => zk_r_istore_n (zk_dec_of g1.1) (Nat.blt_eq.mp g1.2.2.2) (zk_nl_of g1.2.2.1) k)
          · cases h
        | iinc j k =>
          dsimp only at h
          split at h
          · rename_i v hx
            obtain ⟨g1, g2⟩ := zk_condO h
            simp only [Bool.and_eq_true, decide_eq_true_eq] at g1
            exact (ih _ _ _ _ _ _ _ _ _ g1.2.1 g2).go (fun Q k => zk_r_iinc (zk_dec_of g1.1) hx (Nat.blt_eq.mp g1.2.2.2.1) (zk_nl_of g1.2.2.1) g1.2.2.2.2 k)
          · cases h
        | if_icmp cnd off =>
          cases cnd with
          | ge =>
            match st, h with
            | .inl w :: .inl v :: st', h =>
              dsimp only at h
              obtain ⟨g1, g2⟩ := zk_condO h
              simp only [Bool.and_eq_true] at g1
              obtain ⟨d1, d2, d3⟩ := g1
              obtain ⟨t, e1, e2⟩ := zk_nx_at d2
              split at g2
              · rename_i hle
                exact (ih _ _ _ _ _ _ _ _ _ e2 g2).go (fun Q k => zk_r_icmp_ge (zk_dec_of d1) e1 (fun _ => k) (fun q => absurd hle q))
              · rename_i hle
                exact (ih _ _ _ _ _ _ _ _ _ d3 g2).go (fun Q k => zk_r_icmp_ge (zk_dec_of d1) e1 (fun q => absurd q hle) (fun _ => k))
          | _ => cases h
        | goto off =>
          dsimp only at h
          obtain ⟨g1, g2⟩ := zk_condO h
          simp only [Bool.and_eq_true] at g1
          obtain ⟨t, e1, e2⟩ := zk_nx_at g1.2
          exact (ih _ _ _ _ _ _ _ _ _ e2 g2).go (fun Q k => zk_r_goto (zk_dec_of g1.1) e1 k)
        | dup =>
          dsimp only at h
          split at h
          · obtain ⟨g1, g2⟩ := zk_condO h
            rw [Bool.and_eq_true] at g1
            exact (ih _ _ _ _ _ _ _ _ _ g1.2 g2).go (fun Q k => zk_r_dup (zk_dec_of g1.1) (fun _ q => by cases q) k)
          · cases h
        | new idx =>
          dsimp only at h
          obtain ⟨g1, g2⟩ := zk_condO h
          simp only [Bool.and_eq_true] at g1
          obtain ⟨d1, d2, d3, d4, d5, d6, d7⟩ := g1
          unfold zk_bud at d7
          simp only [Bool.and_eq_true] at d7
          exact (ih _ _ _ _ _ _ _ _ _ d2 g2).go (fun Q k => zk_r_new (S := zk_st base x) (zk_dec_of d1) (zk_elem d3) (Nat.blt_eq.mp d4) (Nat.eq_of_beq_eq_true d5) (Nat.blt_eq.mp d7.2.2) (zk_low_r d6 hb) (Nat.le_of_ble_eq_true d7.1) (Nat.le_of_ble_eq_true d7.2.1) k)
        | newarray t =>
          dsimp only at h
          split at h
          · obtain ⟨g1, g2⟩ := zk_condO h
            simp only [Bool.and_eq_true, decide_eq_true_eq, Bool.not_eq_true'] at g1
            obtain ⟨d1, d2, d3, d4, d5, d6, d7⟩ := g1
            unfold zk_bud at d7
            simp only [Bool.and_eq_true] at d7
            exact (ih _ _ _ _ _ _ _ _ _ d2 g2).go (fun Q k => zk_r_newa (S := zk_st base x) (zk_dec_of d1) (fun q => by rw [q] at d3; cases d3) (Nat.eq_of_beq_eq_true d4) d5 (Nat.blt_eq.mp d7.2.2) (fun i => (zk_low_r d6 hb i).2) (Nat.le_of_ble_eq_true d7.1) (Nat.le_of_ble_eq_true d7.2.1) k)
          · cases h
        | anewarray idx =>
          dsimp only at h
          split at h
          · obtain ⟨g1, g2⟩ := zk_condO h
            simp only [Bool.and_eq_true, decide_eq_true_eq] at g1
            obtain ⟨d1, d2, d3, d4, d5, d6, d7⟩ := g1
            unfold zk_bud at d7
            simp only [Bool.and_eq_true] at d7
            exact (ih _ _ _ _ _ _ _ _ _ d2 g2).go (fun Q k => zk_r_anew (S := zk_st base x) (zk_dec_of d1) (zk_elem d3) (Nat.eq_of_beq_eq_true d4) d5 (Nat.blt_eq.mp d7.2.2) (fun i => (zk_low_r d6 hb i).1) (Nat.le_of_ble_eq_true d7.1) (Nat.le_of_ble_eq_true d7.2.1) k)
          · cases h
        | getfield idx =>
          dsimp only at h
          split at h
          · obtain ⟨g1, g2⟩ := zk_condO h
            simp only [Bool.and_eq_true] at g1
            obtain ⟨d1, d2, d3, d4, d5, d6, d7⟩ := g1
            refine (ih _ _ _ _ _ _ _ _ _ d2 g2).go (fun Q k => zk_r_getf (S := zk_st base x) (zk_dec_of d1) (zk_elem d3) (Nat.eq_of_beq_eq_true d5) (Nat.le_of_ble_eq_true d6) (Nat.le_of_ble_eq_true d7) ?_)
            rw [Nat.eq_of_beq_eq_true d4]
            exact k
          · cases h
        | putfield idx =>
          dsimp only at h
          split at h
          · rename_i v k st'
            obtain ⟨g1, g2⟩ := zk_condO h
            simp only [Bool.and_eq_true, Bool.not_eq_true', Bool.or_eq_true, decide_eq_true_eq] at g1
            obtain ⟨d1, d2, d3, d4, d5, d6, d7, d8⟩ := g1
            refine (ih _ _ _ _ _ _ _ _ _ d2 g2).go (fun Q kk => ?_)
            rw [← zk_mF_set] at kk
            rcases d5 with d5 | ⟨d5, d9⟩
            · exact zk_r_puti (S := zk_st base x) (zk_dec_of d1) (zk_elem d3) (Nat.eq_of_beq_eq_true d6) (Nat.le_of_ble_eq_true d7) (Nat.le_of_ble_eq_true d8) d4 (Nat.eq_of_beq_eq_true d5) kk
            · exact zk_r_putz (S := zk_st base x) (zk_dec_of d1) (zk_elem d3) (Nat.eq_of_beq_eq_true d6) (Nat.le_of_ble_eq_true d7) (Nat.le_of_ble_eq_true d8) d4 (Nat.eq_of_beq_eq_true d5) d9 kk
          · rename_i r' k st'
            obtain ⟨g1, g2⟩ := zk_condO h
            simp only [Bool.and_eq_true, decide_eq_true_eq] at g1
            obtain ⟨d1, d2, d3, d4, ⟨d5, d9, d10⟩, d6, d7, d8⟩ := g1
            refine (ih _ _ _ _ _ _ _ _ _ d2 g2).go (fun Q kk => ?_)
            rw [← zk_rF_set] at kk
            exact zk_r_putr (S := zk_st base x) (zk_dec_of d1) (zk_elem d3) (Nat.eq_of_beq_eq_true d6) (Nat.le_of_ble_eq_true d7) (Nat.le_of_ble_eq_true d8) ⟨d4, Nat.eq_of_beq_eq_true d9, d10⟩ (Nat.eq_of_beq_eq_true d5) kk
          · cases h
        | aastore =>
          dsimp only at h
          split at h
          · obtain ⟨g1, g2⟩ := zk_condO h
            simp only [Bool.and_eq_true, decide_eq_true_eq] at g1
            obtain ⟨d1, d2, d3, d4, ⟨d5, d6⟩, ⟨d7, d8⟩, d9⟩ := g1
            refine (ih _ _ _ _ _ _ _ _ _ d2 g2).go (fun Q kk => ?_)
            rw [← zk_rF_set, Int.toNat_of_nonneg d9.1] at kk
            exact zk_r_aast (S := zk_st base x) (zk_dec_of d1) (Nat.eq_of_beq_eq_true d3) (Nat.le_of_ble_eq_true d5) (Nat.le_of_ble_eq_true d6) (Nat.le_of_ble_eq_true d7) (Nat.le_of_ble_eq_true d8) (Nat.eq_of_beq_eq_true d4) d9.1 d9.2 kk
          · cases h
        | invokespecial idx =>
          match st, h with
          | .inr (.inr (.inl (k + 1))) :: st', h =>
            dsimp only at h
            obtain ⟨g1, g2⟩ := zk_condO h
            simp only [Bool.and_eq_true] at g1
            obtain ⟨d1, d2, d3⟩ := g1
            match a, g2 with
            | 0, g2 =>
              obtain ⟨g3, g4⟩ := zk_condO g2
              simp only [Bool.and_eq_true] at g3
              exact (ih _ _ _ _ _ _ _ _ _ d2 g4).go (fun Q kk => zk_r_obj (zk_dec_of d1) (zk_elem g3.1) (by omega) (Nat.le_of_ble_eq_true d3) (Nat.le_of_ble_eq_true g3.2.1) (Nat.le_of_ble_eq_true g3.2.2) kk)
            | q + 1, g2 =>
              obtain ⟨g3, g4⟩ := zk_condO g2
              simp only [Bool.and_eq_true, decide_eq_true_eq] at g3
              obtain ⟨c1, c2, c3, c4, c5, c6, ⟨c7, c8⟩, ⟨c9, c10⟩, c11, c12, c13⟩ := g3
              split at g4
              · rename_i x' hx'
                have hin := ih _ _ _ _ _ _ _ _ _ c13 hx'
                have hct : zk_Ct b [.inr (.inr (.inl (k + 1)))] (zk_st base x) (fun v S' => v = none ∧ S' = zk_st base x') := by
                  refine zk_enter c11 (by show 1 ≤ _; exact Nat.le_of_ble_eq_true c12) (fun _ => c4) ?_
                  exact hin _ ⟨rfl, rfl⟩
                refine (ih _ _ _ _ _ _ _ _ _ d2 g4).go (fun Q kk => ?_)
                have kk2 : ∀ (v : Option zk_V) (S' : zk_S), v = none ∧ S' = zk_st base x' → zk_Ok mid N1 (pc0 + 3) ls (v.toList ++ st') S' Q := by
                  rintro v S' ⟨rfl, rfl⟩
                  exact kk
                match q, c1 with
                | 0, c1 => exact zk_r_invN (as := []) (S := zk_st base x) (zk_dec_of d1) (zk_elem c1) (Nat.blt_eq.mp c2) (Nat.eq_of_beq_eq_true c3) c4 c5 (by omega) (Nat.eq_of_beq_eq_true c6).symm (Nat.le_of_ble_eq_true d3) (Nat.le_of_ble_eq_true c7) (Nat.le_of_ble_eq_true c8) (Nat.le_of_ble_eq_true c9) (Nat.le_of_ble_eq_true c10) hct kk2
                | q + 1, c1 => exact zk_r_invI (as := []) (S := zk_st base x) (zk_dec_of d1) (zk_elem c1) (Nat.blt_eq.mp c2) (Nat.eq_of_beq_eq_true c3) c4 c5 (by omega) (Nat.eq_of_beq_eq_true c6).symm (Nat.le_of_ble_eq_true d3) (Nat.le_of_ble_eq_true c7) (Nat.le_of_ble_eq_true c8) (Nat.le_of_ble_eq_true c9) (Nat.le_of_ble_eq_true c10) hct kk2
              · cases g4
        | return_ =>
          dsimp only at h
          split at h
          · obtain ⟨g1, g2⟩ := zk_condO h
            cases g2
            simp only [Bool.and_eq_true, decide_eq_true_eq] at g1
            obtain ⟨d1, d2, d3, d4⟩ := g1
            intro Q hq
            exact zk_r_ret (v := none) hq ⟨zk_dec_of d1, d2⟩ (Nat.eq_of_beq_eq_true d3) (Nat.eq_of_beq_eq_true d4)
          · cases h
        | _ => cases h
