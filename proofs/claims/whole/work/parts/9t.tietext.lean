/-! the tie of text *-/
theorem zx_txt_b {μ ν : zk_M} {t : Nat} (h63 : ∀ i : Int, i < 680 * ((t : Int) + 1) → ν 63 i = μ 63 i) (h1 : ν (26 + 4 * t) = μ (26 + 4 * t)) (h3 : ν (27 + 4 * t) = μ (27 + 4 * t)) (h2 : ν (28 + 4 * t) = μ (28 + 4 * t)) (h : zx_txt μ t) : zx_txt ν t := by
  unfold zx_txt at *
  have lw : ∀ (s : Int) L, μ 63 (680 * t) ≤ 24 → zx_law μ t s L → zx_law ν t s L := fun s L h24 hL => by
    unfold zx_law at *
    cases L with
    | none =>
      intro j hj
      rw [h63 _ (by omega)] at hj
      rw [h63 _ (by omega)]
      exact hL j hj
    | some l =>
      obtain ⟨j, f, l1, l2, l3, l4, l5, l6, l7⟩ := hL
      refine ⟨j, f, by rw [h63 _ (by omega)]; exact l1, by rw [h63 _ (by omega)]; exact l2, fun i hi => by rw [h63 _ (by omega)]; exact l3 i hi, by rw [h63 _ (by omega)]; exact l4, by rw [h63 _ (by omega)]; exact l5, l6, fun i q hq => ?_⟩
      have hi : i < l.length := (List.getElem?_eq_some_iff.1 hq).1
      rw [h63 _ (by omega), h63 _ (by omega)]
      exact l7 i q hq
  obtain ⟨a1, a2, a3, a4, ⟨L, b1, b2, b3⟩, ⟨L', c1, c2, c3⟩⟩ := h
  refine ⟨by rw [h63 _ (by omega)]; exact a1, by rw [h63 _ (by omega)]; exact a2, by rw [h63 _ (by omega), h1]; exact a3, fun j hj => ?_, ⟨L, lw 0 L a2 b1, (zx_cls_cg h1 h2 4 L).2 b2, b3⟩, ⟨L', lw 1 L' a2 c1, (zx_cls_cg h1 h2 6 L').2 c2, c3⟩⟩
  rw [h63 _ (by omega)] at hj
  rw [h63 _ (by omega), h63 _ (by omega), h63 _ (by omega), h3]
  exact a4 j hj
theorem zt_lawx {ν : zk_M} {t : Nat} {X : zt_X} (g : Bool) (hK : zt_XK ν (26 + 4 * t) X) (hR : zt_XR ν (680 * t) X) (hI : zt_XI X) (h300 : X.2.1.length ≤ 300) : ∃ L, zx_law ν t (if g then 1 else 0) L ∧ zx_cls ν t (if g then 6 else 4) L ∧ ∀ l, L = some l → zx_ty l (0, 0) = some (if g then (1, 0) else (0, 1)) ∧ (g = false → ∀ q ∈ l, q.1 = 1 → q.2 < 4) := by
  obtain ⟨k0, k1, k3, k2, k4, k5, k6, k7⟩ := hK
  obtain ⟨⟨r12, r14, rc⟩, rb, rq, rl⟩ := hR
  obtain ⟨i24, icl, iL⟩ := hI
  have eb : ((680 * t : Nat) : Int) = 680 * (t : Int) := by omega
  rw [eb] at rb
  simp only [eb] at rc rq rl
  have hl := iL g
  have cl : ∀ (j : Nat) q, X.1[j]? = some q → (ν 63 (680 * (t : Int) + 1 + 3 * j) = (if g then 1 else 0) ↔ q.1 = zt_gi g) := fun j q hq => by
    have := rq j q hq
    unfold zx_cla at this
    cases g
    · show _ = 0 ↔ q.1 = 16
      omega
    · show _ = 1 ↔ q.1 = 17
      omega
  have kp : ν (26 + 4 * t) (if g then 6 else 4) = (zt_p (X.2.2 g)).1 ∧ ν (26 + 4 * t) ((if g then 6 else 4) + 1) = (zt_p (X.2.2 g)).2 := by
    cases g
    · exact ⟨k4, k5⟩
    · exact ⟨k6, k7⟩
  unfold zt_XL at hl
  cases e : X.2.2 g with
  | none =>
    rw [e] at hl kp
    refine ⟨none, fun j hj => ?_, ?_, fun l q => absurd q (by simp)⟩
    · rw [rb] at hj
      have hj' : j < X.1.length := by omega
      have hq := List.getElem?_eq_getElem hj'
      exact fun q => hl _ (List.getElem_mem hj') ((cl j _ hq).1 q)
    · show ν (26 + 4 * t) ((if g then 6 else 4) + 1) ≤ ν (26 + 4 * t) (if g then 6 else 4)
      rw [kp.1, kp.2]
      decide
  | some L =>
    rw [e] at hl kp
    obtain ⟨⟨q, h1, h1'⟩, h2, h3, h4, h5, h6, h7⟩ := hl
    obtain ⟨v1, v2, v3⟩ := rl g L e
    refine ⟨some L.2.2, ⟨L.1, L.2.1, by rw [rb]; omega, (cl _ q h1).2 h1', fun i hi w => ?_, v2, v3, by omega, fun i q' hq => ?_⟩, ⟨L.2.1, h3, kp.1, kp.2, by omega, fun i q' hq => ?_⟩, fun l hl => ?_⟩
    · have hi' : i < X.1.length := by omega
      have hq := List.getElem?_eq_getElem hi'
      exact h2 i _ hi hq ((cl i _ hq).1 w)
    · have := rc _ _ (h5 i q' hq)
      rw [show 680 * (t : Int) + 75 + 2 * ((L.2.1 + i : Nat) : Int) = 680 * (t : Int) + 75 + 2 * ((L.2.1 : Int) + (i : Int)) by omega, show 680 * (t : Int) + 76 + 2 * ((L.2.1 + i : Nat) : Int) = 680 * (t : Int) + 76 + 2 * ((L.2.1 : Int) + (i : Int)) by omega] at this
      exact this
    · have := k2 _ _ (h5 i q' hq)
      rw [show ((L.2.1 + i : Nat) : Int) = (L.2.1 : Int) + (i : Int) by omega, show 26 + 4 * t + 2 = 28 + 4 * t by omega] at this
      exact this
    · have e2 : L.2.2 = l := by simpa using hl
      rw [← e2]
      exact ⟨h6, h7⟩
theorem zt_txt {ν : zk_M} {t : Nat} {X : zt_X} (hK : zt_XK ν (26 + 4 * t) X) (hR : zt_XR ν (680 * t) X) (hI : zt_XI X) (h300 : X.2.1.length ≤ 300) : zx_txt ν t := by
  obtain ⟨L, a1, a2, a3⟩ := zt_lawx false hK hR hI h300
  obtain ⟨L', b1, b2, b3⟩ := zt_lawx true hK hR hI h300
  obtain ⟨k0, k1, _⟩ := hK
  obtain ⟨_, rb, rq, _⟩ := hR
  have eb : ((680 * t : Nat) : Int) = 680 * (t : Int) := by omega
  rw [eb] at rb
  simp only [eb] at rq
  have i24 := hI.1
  refine ⟨by rw [rb]; omega, by rw [rb]; omega, by rw [rb]; exact k0, fun j hj => ?_, ⟨L, a1, a2, fun l q => ⟨(a3 l q).1, (a3 l q).2 rfl⟩⟩, ⟨L', b1, b2, fun l q => (b3 l q).1⟩⟩
  rw [rb] at hj
  have hj' : j < X.1.length := by omega
  have hq := List.getElem?_eq_getElem hj'
  have c := rq j _ hq
  obtain ⟨d1, d2, d3, d4⟩ := k1 j _ hq
  rw [show 26 + 4 * t + 1 = 27 + 4 * t by omega] at d1 d2 d3 d4
  rw [d1, d2, d3, d4]
  exact c
theorem zo_text : zo 119 191 [] := fun μ hi => by
  have hi0 := hi
  obtain ⟨h1, h2, h4, ⟨p1, p2, p3, p4⟩, h6, h7⟩ := hi
  obtain ⟨s1, ⟨s2, s3, s4⟩, s5, ⟨σ, c1, c2, hk⟩, ctd⟩ := h1
  by_cases h3 : μ 61 3 = 4
  · refine c_Vos_text (c_Law_scriptAt ⟨fun q => by omega, fun _ => ⟨fun _ => n_Vos_text_14 ?_, fun q => by omega⟩⟩)
    exact ⟨rfl, c_Mod_text ⟨fun q => absurd h3 q, fun _ => ⟨rfl, hi0, rfl⟩⟩⟩
  obtain ⟨t, et⟩ := Int.eq_ofNat_of_zero_le s3
  obtain ⟨len, el⟩ := Int.eq_ofNat_of_zero_le p2
  have ht : t < 4 := by omega
  obtain ⟨f, hf⟩ : ∃ f : Nat → Int, ∀ i, f i = μ 43 (i : Int) := ⟨fun i => μ 43 (i : Int), fun _ => rfl⟩
  have hb : zt_by f len := ⟨by omega, fun i hl => by
    have := p4 (i : Int) (by omega) (by omega)
    rw [hf, this.1]
    exact this.2⟩
  have txt : ∀ ξ : zk_M, (∀ i : Int, i < 680 * (t : Int) → ξ 63 i = μ 63 i) → (∀ c : Nat, 26 ≤ c → c < 26 + 4 * t → ξ c = μ c) → ∀ t' : Nat, t' < t → zx_txt ξ t' := fun ξ e63 ec t' ht' => zx_txt_b (fun i hi => e63 i (by omega)) (ec _ (by omega) (by omega)) (ec _ (by omega) (by omega)) (ec _ (by omega) (by omega)) (h7 t' (by omega))
  refine sp_textC (t := t) hb ht ⟨by rw [p1, el], fun i _ => (hf i).symm⟩ (by rw [s2, et]) (fun e ν z e42 e0 e1 => ?_) (fun e ν z z2 e21 e42 e0 e1 hK => ?_)
  · refine ⟨z 0 (by simp; omega), ?_⟩
    have n61 : ν 61 = μ 61 := z 61 (by simp; omega)
    have n60 : ν 60 = μ 60 := z 60 (by simp; omega)
    refine c_Mod_text ⟨fun _ => ?_, fun q => absurd (by rw [← n61]; exact q) h3⟩
    refine sp_readText (tt := t) hb ht (by rw [n61, et]) ⟨by rw [n60, el], fun i hl => by rw [z 64 (by simp; omega), hf]; exact (p4 (i : Int) (by omega) (by omega)).1.symm⟩ (fun _ ξ u e8 => ⟨fun _ => ⟨fun q => absurd q e, fun _ => ?_⟩, fun q => absurd q e⟩) (fun q => absurd q e)
    have y : zq [60] ξ (zk_set (zk_set (zk_set ξ 60 5 (zt_TX f len).1) 60 6 (ξ 60 8)) 60 4 0) := (((zq.rf _ _).set (by simp) _ _).set (by simp) _ _).set (by simp) _ _
    have y4 : zk_set (zk_set (zk_set ξ 60 5 (zt_TX f len).1) 60 6 (ξ 60 8)) 60 4 0 60 4 = 0 := zk_set_s _ _ _ _
    have y5 : zk_set (zk_set (zk_set ξ 60 5 (zt_TX f len).1) 60 6 (ξ 60 8)) 60 4 0 60 5 = (zt_TX f len).1 := by rw [zk_set_n (by decide), zk_set_n (by decide), zk_set_s]
    have y6 : zk_set (zk_set (zk_set ξ 60 5 (zt_TX f len).1) 60 6 (ξ 60 8)) 60 4 0 60 6 = ξ 60 8 := by rw [zk_set_n (by decide), zk_set_s]
    generalize zk_set (zk_set (zk_set ξ 60 5 (zt_TX f len).1) 60 6 (ξ 60 8)) 60 4 0 = ζ at y y4 y5 y6 ⊢
    have zz : zq [42, 44, 45, 26 + 4 * t, 27 + 4 * t, 28 + 4 * t, 60, 63, 65] μ ζ := ((z.up (by simp)).tr (u.1.up (by simp))).tr (y.up (by simp))
    have e63 : ∀ i : Int, i < 680 * (t : Int) → ζ 63 i = μ 63 i := fun i hi => by rw [y 63 (by simp), u.2.2 i (by omega), z 63 (by simp; omega)]
    have m61 : ζ 61 = μ 61 := zz 61 (by simp; omega)
    have e42' : ζ 42 1 = 0 := by rw [y 42 (by simp), u.1 42 (by simp)]; exact e42
    have e44 : ζ 44 = ν 44 := by rw [y 44 (by simp), u.1 44 (by simp)]
    refine ⟨rfl, ⟨zi_cv_cg (fun c hc => zz c (by simp; omega)) hi0.1, zi_cv_cg (fun c hc => zz c (by simp; omega)) h2, by rw [zz 62 (by simp; omega), m61]; exact h4, ⟨by rw [e42', y4], by rw [y4]; decide, by rw [y4]; decide, fun i h0 hl => by rw [y4] at hl; omega⟩, ⟨by rw [e44, e0, y5], by rw [e44, e1, y6, e8]⟩, fun t' ht' => ?_⟩, zz 0 (by simp; omega)⟩
    rw [m61, et] at ht'
    exact txt ζ e63 (fun c h1 h2 => zz c (by simp; omega)) t' (by omega)
  · refine ⟨z 0 (by simp; omega), ?_⟩
    have n61 : ν 61 = μ 61 := z 61 (by simp; omega)
    have n60 : ν 60 = μ 60 := z 60 (by simp; omega)
    refine c_Mod_text ⟨fun _ => ?_, fun q => absurd (by rw [← n61]; exact q) h3⟩
    refine sp_readText (tt := t) hb ht (by rw [n61, et]) ⟨by rw [n60, el], fun i hl => by rw [z 64 (by simp; omega), hf]; exact (p4 (i : Int) (by omega) (by omega)).1.symm⟩ (fun q => absurd e q) (fun _ ξ u hR => ⟨fun q => absurd rfl q, fun _ => ⟨fun _ => ?_, fun q => absurd rfl q⟩⟩)
    have x61 : ξ 61 3 = (t : Int) := by rw [u.1 61 (by simp), n61, et]
    rw [x61]
    refine ⟨by omega, by omega, ?_⟩
    have y : zq [60, 61] ξ (zk_set (zk_set (zk_set (zk_set ξ 60 5 0) 60 6 (-1)) 60 4 0) 61 3 ((t : Int) + 1)) := ((((zq.rf _ _).set (by simp) _ _).set (by simp) _ _).set (by simp) _ _).set (by simp) _ _
    have y4 : zk_set (zk_set (zk_set (zk_set ξ 60 5 0) 60 6 (-1)) 60 4 0) 61 3 ((t : Int) + 1) 60 4 = 0 := by rw [zk_set_o (by decide), zk_set_s]
    have y5 : zk_set (zk_set (zk_set (zk_set ξ 60 5 0) 60 6 (-1)) 60 4 0) 61 3 ((t : Int) + 1) 60 5 = 0 := by rw [zk_set_o (by decide), zk_set_n (by decide), zk_set_n (by decide), zk_set_s]
    have y6 : zk_set (zk_set (zk_set (zk_set ξ 60 5 0) 60 6 (-1)) 60 4 0) 61 3 ((t : Int) + 1) 60 6 = -1 := by rw [zk_set_o (by decide), zk_set_n (by decide), zk_set_s]
    have y12 : ∀ i : Int, 11 < i → zk_set (zk_set (zk_set (zk_set ξ 60 5 0) 60 6 (-1)) 60 4 0) 61 3 ((t : Int) + 1) 60 i = ξ 60 i := fun i hi => by rw [zk_set_o (by decide), zk_set_n (by omega), zk_set_n (by omega), zk_set_n (by omega)]
    have y3 : zk_set (zk_set (zk_set (zk_set ξ 60 5 0) 60 6 (-1)) 60 4 0) 61 3 ((t : Int) + 1) 61 3 = (t : Int) + 1 := zk_set_s _ _ _ _
    have yn : ∀ i : Int, i ≠ 3 → zk_set (zk_set (zk_set (zk_set ξ 60 5 0) 60 6 (-1)) 60 4 0) 61 3 ((t : Int) + 1) 61 i = ξ 61 i := fun i hi => by rw [zk_set_n hi, zk_set_o (by decide), zk_set_o (by decide), zk_set_o (by decide)]
    generalize zk_set (zk_set (zk_set (zk_set ξ 60 5 0) 60 6 (-1)) 60 4 0) 61 3 ((t : Int) + 1) = ζ at y y4 y5 y6 y12 y3 yn ⊢
    have zz : zq [2, 42, 44, 45, 26 + 4 * t, 27 + 4 * t, 28 + 4 * t, 60, 61, 63, 65] μ ζ := ((z.up (by simp)).tr (u.1.up (by simp))).tr (y.up (by simp))
    have e61 : ∀ i : Int, i ≠ 3 → ζ 61 i = μ 61 i := fun i hi => by rw [yn i hi, u.1 61 (by simp), n61]
    have w2 : ζ 2 = ν 2 := by rw [y 2 (by simp), u.1 2 (by simp)]
    have e63 : ∀ i : Int, i < 680 * (t : Int) → ζ 63 i = μ 63 i := fun i hi => by rw [y 63 (by simp), u.2.2 i (by omega), z 63 (by simp; omega)]
    have e42' : ζ 42 1 = 0 := by rw [y 42 (by simp), u.1 42 (by simp)]; exact e42
    have e44 : ζ 44 = ν 44 := by rw [y 44 (by simp), u.1 44 (by simp)]
    have kk : zt_XK ζ (26 + 4 * t) (zt_TX f len).2.2 := by
      unfold zt_XK
      rw [y (26 + 4 * t) (by simp; omega), y (26 + 4 * t + 1) (by simp; omega), y (26 + 4 * t + 2) (by simp; omega), u.1 (26 + 4 * t) (by simp; omega), u.1 (26 + 4 * t + 1) (by simp; omega), u.1 (26 + 4 * t + 2) (by simp; omega)]
      exact hK
    have rr : zt_XR ζ (680 * t) (zt_TX f len).2.2 := by
      unfold zt_XR
      rw [y 63 (by simp)]
      exact ⟨hR.1.cg (y12 12 (by decide)) (y12 14 (by decide)) (y 63 (by simp)), hR.2⟩
    have ok := zt_TX_ok e
    refine ⟨by omega, ⟨⟨?_, ⟨?_, by rw [y3]; omega, by rw [y3]; omega⟩, ?_, ⟨σ, za_C_cg (zz _ (by simp; omega)) (zz _ (by simp; omega)) (zz _ (by simp; omega)) c1, ?_, by rw [e61 0 (by decide)]; exact hk⟩, ?_⟩, zi_cv_cg (fun c hc => zz c (by simp; omega)) h2, by rw [zz 62 (by simp; omega), y3]; omega, ⟨by rw [e42', y4], by rw [y4]; decide, by rw [y4]; decide, fun i h0 hl => by rw [y4] at hl; omega⟩, ⟨by rw [e44, e0, y5], by rw [e44, e1, y6]⟩, fun t' ht' => ?_⟩, zz 0 (by simp; omega)⟩
    · rw [w2, z2 0 (by decide), e61 0 (by decide)]
      exact s1
    · rw [w2, e21, y3]
    · rw [w2, z2 2 (by decide), e61 4 (by decide), y3]
      exact ⟨s5.1, s5.2.1, by omega⟩
    · obtain ⟨m1, m2, m3, m4, m5⟩ := c2
      refine ⟨by rw [e61 1 (by decide)]; exact m1, by rw [e61 2 (by decide)]; exact m2, fun n hn => by rw [e61 _ (by omega), e61 _ (by omega), e61 _ (by omega), e61 _ (by omega)]; exact m3 n hn, by rw [e61 5 (by decide)]; exact m4, fun j r hr => ?_⟩
      obtain ⟨q1, q2, q3⟩ := m5 j r hr
      exact ⟨by rw [e61 _ (by omega)]; exact q1, by rw [e61 _ (by omega)]; exact q2, fun n hn => by rw [e61 _ (by omega), e61 _ (by omega), e61 _ (by omega), e61 _ (by omega)]; exact q3 n hn⟩
    · unfold zi_td at *
      rw [zz (2 + 5) (by simp; omega), zz (2 + 5 + 1) (by simp; omega), zz (2 + 5 + 2) (by simp; omega), zz (2 + 5 + 3) (by simp; omega), e61 6 (by decide)]
      refine ⟨ctd.1, ctd.2.1, ctd.2.2.1, fun i hi => ?_⟩
      rw [e61 _ (by omega), e61 _ (by omega), e61 _ (by omega)]
      exact ctd.2.2.2 i hi
    · rw [y3] at ht'
      by_cases q : t' = t
      · subst q
        exact zt_txt kk rr ok.1 (by omega)
      · exact txt ζ e63 (fun c h1 h2 => zz c (by simp; omega)) t' (by omega)
