/-! System.arraycopy over int rows, all cells made -/
def zk_cpy (μ : zk_M) (src : Nat) (sp : Int) (dst : Nat) (dp n : Int) : zk_M := fun c i => if c = dst then (if dp ≤ i ∧ i < dp + n then μ src (sp + (i - dp)) else μ c i) else μ c i
def zk_full (g : zk_G) (S : zk_S) : va_W := (List.range 80).map fun k => (zk_a0 g + (k + 1), zk_encC g S (k + 1))
theorem zk_full_at {g : zk_G} {S : zk_S} {k : Nat} (h1 : 1 ≤ k) (h2 : k ≤ 80) : (zk_full g S)[k - 1]? = some (zk_a0 g + k, zk_encC g S k) := by
  unfold zk_full
  rw [List.getElem?_map, List.getElem?_range (by omega)]
  show some (zk_a0 g + (k - 1 + 1), zk_encC g S (k - 1 + 1)) = _
  rw [show k - 1 + 1 = k by omega]
theorem zk_full_of {g : zk_G} {S : zk_S} {j : Nat} {q : Nat × va_E} (h : (zk_full g S)[j]? = some q) : j < 80 ∧ q = (zk_a0 g + (j + 1), zk_encC g S (j + 1)) := by
  unfold zk_full at h
  rw [List.getElem?_map] at h
  rcases Nat.lt_or_ge j 80 with hj | hj
  · rw [List.getElem?_range hj] at h
    exact ⟨hj, (Option.some.inj h).symm⟩
  · rw [List.getElem?_eq_none (by simpa using hj)] at h
    cases h
theorem zk_full_P {g : zk_G} {S : zk_S} {H : Heap} (hR : zk_RH g S H) (hN : S.1 = 80) : va_P (zk_D g) zk_cl (zk_full g S) H := fun j q hq => by
  obtain ⟨hj, rfl⟩ := zk_full_of hq
  exact hR.2.2.1 (j + 1) (by omega) (by omega)
theorem zk_full_D {g : zk_G} {S : zk_S} : va_D (zk_A g) (zk_full g S) := by
  refine ⟨fun i j p q hp hq e => ?_, fun k q hq => ?_⟩
  · obtain ⟨hi, rfl⟩ := zk_full_of hp
    obtain ⟨hj, rfl⟩ := zk_full_of hq
    simp at e
    exact e
  · obtain ⟨hi, rfl⟩ := zk_full_of hq
    show zk_a0 g < zk_a0 g + (k + 1)
    omega
theorem zk_nfw : nativeFrameWords "java/lang/System" "arraycopy" 5 ≤ 41 := by decide +kernel
theorem zk_r_copy {mid N1 pc idx src dst : Nat} {sp dp n : Int} {ls st : List zk_V} {S : zk_S} {Q : Option zk_V → zk_S → Prop} (hd : decode (zk_cc mid) pc = .ok (.invokestatic idx, 3)) (hrow : (zk_own mid, idx) ∈ zk_AK) (hN : S.1 = 80) (hs1 : zk_sh src = 100) (hd1 : zk_sh dst = 100) (hsr : 1 ≤ src ∧ src ≤ 80) (hds : 1 ≤ dst ∧ dst ≤ 80)
    (h1 : 0 ≤ sp) (h2 : 0 ≤ dp) (h3 : 0 ≤ n) (h4 : sp + n ≤ zk_szI src) (h5 : dp + n ≤ zk_szI dst) (hcat : zk_catS st ≤ 8) (hfr : 1 ≤ zk_fr mid) (hlo : 60 ≤ zk_lo mid) (kk : zk_Ok mid N1 (pc + 3) ls st (S.1, S.2.1, zk_cpy S.2.2 src sp dst dp n) Q) :
    zk_Ok mid N1 pc ls (.inl n :: .inl dp :: .inr (.inr (.inl dst)) :: .inl sp :: .inr (.inr (.inl src)) :: st) S Q := by
  intro g p l e R s m args below meth c Z C hr H locs cells slots la hl q1 q2 hR hM hS hcs
  have hst := (zk_ok_c.mp (zk_ok_c.mp (zk_ok_c.mp (zk_ok_c.mp (zk_ok_c.mp q2).2).2).2).2).2
  have z1 := zk_sz_le src
  have z2 := zk_sz_le dst
  unfold zk_szI at h4 h5
  have r1 : zk_rI sp := by unfold zk_rI; omega
  have r2 : zk_rI dp := by unfold zk_rI; omega
  have r3 : zk_rI n := by unfold zk_rI; omega
  have ear : ∀ (k : Nat) (S : zk_S), zk_sh k = 100 → zk_encC g S k = .inl (zk_aC g 100, zk_sz k, .inl fun j => zk_I (S.2.2 k (j : Int))) := fun k S h => by
    rw [zk_encC_a h (by omega)]
    simp only [zk_ar, h]
  have neg : ∀ z : Int, 0 ≤ z → zk_rI z → ¬ zk_I z < 0 := fun z h0 hz h => by
    have := (zk_I_lt hz zk_r0).mp h
    omega
  have hP := zk_full_P hR hN
  have hw := va_copyi (ls := la) (rest := st.map (zk_enc g)) (p := p) (l := l) (e := e) (R := R) (below := below) (meth := meth) (cells := cells) (slots := slots) (Q := Z) C.1 C.2.1 (by rw [C.2.2.1]; exact hl.1.symm) C.2.2.2.1 (C.2.2.2.2.1 _ (zk_in_AK (List.mem_map.mpr ⟨_, hrow, rfl⟩))) (C.2.2.2.2.1 _ (zk_in_etc (List.mem_of_getElem? (i := 4) rfl))) (C.2.2.2.2.1 _ (zk_in_etc (List.mem_of_getElem? (i := 5) rfl))) (C.2.2.2.2.1 _ (zk_in_ini (List.mem_of_getElem? (i := 19) rfl)))
    (C.2.2.2.2.2.1 : va_K _ _ _ _) hP zk_full_D hS (src - 1) (dst - 1) 0 0 (ty := .int) (by rw [zk_full_at hsr.1 hsr.2, ear src S hs1]) (by rw [zk_full_at hds.1 hds.2, ear dst S hd1]) rfl rfl rfl (sp := zk_I sp) (dp := zk_I dp) (n := zk_I n) (neg sp h1 r1) (neg dp h2 r2) (neg n h3 r3)
    (by rw [zk_clamp h1 r1, zk_clamp h3 r3]; omega) (by rw [zk_clamp h2 r2, zk_clamp h3 r3]; omega) (fun _ _ => rfl) (Nat.le_trans hfr C.2.2.2.2.2.2.2.2.1) (by
      rw [zk_catS_eq]
      have := C.2.2.2.2.2.2.2.2.2.1
      have := zk_nfw
      omega) hd (fun H1 locs1 hP1 _ hS1 => kk g p l e R s m args below meth c Z C hr H1 locs1 cells slots la hl q1 hst ?_ ?_ hS1 hcs)
  · obtain ⟨s', rfl⟩ : ∃ k', src = k' + 1 := ⟨src - 1, by omega⟩
    obtain ⟨d', rfl⟩ : ∃ k', dst = k' + 1 := ⟨dst - 1, by omega⟩
    exact hw
  · refine ⟨fun h => absurd h (by show ¬ S.1 < 80; omega), hR.2.1, fun k g1 g2 => ?_, fun i => ?_⟩
    · have g2 : k ≤ 80 := by have : k ≤ S.1 := g2; omega
      by_cases ek : k = dst
      · subst ek
        have hat := hP1 (k - 1) (zk_a0 g + k, .inl (zk_aC g 100, zk_sz k, .inl (va_cpy (fun j => zk_I (S.2.2 src (j : Int))) (fun j => zk_I (S.2.2 k (j : Int))) (zk_I sp).toNatClampNeg (zk_I dp).toNatClampNeg (zk_I n).toNatClampNeg))) (by
          rw [List.getElem?_set_self (by simp [zk_full]; omega)])
        rw [ear k _ hd1]
        have ef : (fun j : Nat => zk_I (zk_cpy S.2.2 src sp k dp n k (j : Int))) = va_cpy (fun j => zk_I (S.2.2 src (j : Int))) (fun j => zk_I (S.2.2 k (j : Int))) (zk_I sp).toNatClampNeg (zk_I dp).toNatClampNeg (zk_I n).toNatClampNeg := by
          funext j
          rw [zk_clamp h1 r1, zk_clamp h2 r2, zk_clamp h3 r3]
          simp only [zk_cpy, va_cpy, if_true]
          by_cases hj : dp ≤ (j : Int) ∧ (j : Int) < dp + n
          · have e3 : sp + ((j : Int) - dp) = ((sp.toNat + (j - dp.toNat) : Nat) : Int) := by omega
            rw [if_pos hj, if_pos (by omega), e3]
          · rw [if_neg hj, if_neg (by omega)]
        show va_at _ _ (_, .inl (_, _, .inl (fun j : Nat => zk_I (zk_cpy S.2.2 src sp k dp n k (j : Int))))) H1
        rw [ef]
        exact hat
      · have hat := hP1 (k - 1) (zk_a0 g + k, zk_encC g S k) (by
          rw [List.getElem?_set_ne (by omega)]
          exact zk_full_at g1 g2)
        rw [show zk_encC g (S.1, S.2.1, zk_cpy S.2.2 src sp dst dp n) k = zk_encC g S k from zk_encC_congr rfl (by funext i; simp [zk_cpy, ek])]
        exact hat
    · show zk_cpy S.2.2 src sp dst dp n 0 i = _
      simp only [zk_cpy]
      rw [if_neg (by omega)]
      exact hR.2.2.2 i
  · intro k i
    show zk_rJ (zk_cpy S.2.2 src sp dst dp n k i) ∧ (zk_lg k i = false → zk_rI (zk_cpy S.2.2 src sp dst dp n k i))
    simp only [zk_cpy]
    split
    · split
      · have := hM src (sp + (i - dp))
        exact ⟨this.1, fun _ => this.2 (zk_lg_a _ hs1 (by omega) (by omega))⟩
      · exact hM k i
    · exact hM k i
