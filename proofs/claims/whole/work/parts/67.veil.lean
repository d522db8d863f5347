/-! veil *-/
def za_in (σ : za_S) (s : Int) : Nat := zb_t (fun n => (σ.1.2.2 n).2.2.1 == s) σ.1.1
theorem za_insC {μ : zk_M} {σ : za_S} (h : za_C μ 4 σ) (s : Int) : zs_ins μ s σ.1.1 = za_in σ s := zb_t_congr _ (fun j hj => by
  have := za_C_w h hj
  rw [← this]
  rfl)
theorem za_insM {μ : zk_M} {σ : za_S} (h : za_M (μ 61) σ) (s : Int) : zs_mof μ s σ.1.1 = za_in σ s := zb_t_congr _ (fun j hj => by
  rw [← h.2.2.1 j hj])
theorem zo_veil (x y : Int) : zo 132 218 [.inl x, .inl y] := fun μ hi => by
  obtain ⟨⟨s1, s2, s3⟩, t, ⟨r1, r2, r3⟩, ⟨σ, c1, c2, hk⟩, _⟩ := hi.1
  obtain ⟨Lw, Lg, l1, l2, l3, l4⟩ := zi_laws hi (x := μ 61 4) ⟨r2, r3⟩
  refine c_Vos_veil (sp_hasSister (fun a1 a2 => ⟨fun _ => ⟨fun q0 => ⟨fun q1 => ⟨rfl, ?_⟩, fun q1 => sp_inside (za_C_c c1) hk.1.1 ⟨rfl, ?_⟩⟩, fun q0 => sp_weighVeils hk s3 c1 (by rw [r1]; exact l1) (fun μ1 z1 g1 => sp_veilOf a1 (by omega) ⟨z1 0 (by decide), ?_⟩)⟩, fun q => absurd q (by decide)⟩) (fun q => ⟨fun q => absurd rfl q, fun _ => ⟨rfl, ?_⟩⟩))
  · exact c_Mod_veil (sp_isSister ⟨s2, s3⟩ (fun b1 b2 => ⟨fun q => absurd q (by decide), fun _ => sp_isIn (fun d1 d2 => by omega) (fun _ => ⟨fun q => absurd rfl q, fun _ => ⟨rfl, hi, rfl⟩⟩)⟩) (fun q => by omega))
  · refine c_Mod_veil (sp_isSister ⟨s2, s3⟩ (fun b1 b2 => ⟨fun q => absurd q (by decide), fun _ => sp_isIn (fun d1 d2 => ⟨fun _ => ⟨fun _ => sp_stonesOf c2.1 hk.1.1 ⟨?_, hi, rfl⟩, fun q => by omega⟩, fun q => absurd q (by decide)⟩) (fun q => by omega)⟩) (fun q => by omega))
    rw [za_insC c1, za_insM c2]
  · have e61 : μ1 61 = μ 61 := z1 61 (by decide)
    have c2' : za_M (μ1 61) σ := by rw [e61]; exact c2
    refine c_Mod_veil (sp_isSister (by rw [e61]; exact ⟨s2, s3⟩) (fun b1 b2 => ⟨fun q => absurd q (by decide), fun _ => sp_isIn (fun d1 d2 => ⟨fun _ => ⟨fun q => absurd q0 q, fun _ => sp_veilBy hk s3 c2' (by rw [e61]; exact zvM_q (z1 63 (by decide)) l3) (fun μ2 z2 => ⟨?_, zi_scq ((z1.up (by decide)).tr (z2.up (by decide))) hi, ?_⟩)⟩, fun q => absurd q (by decide)⟩) (fun q => by omega)⟩) (fun q => by rw [e61] at q; omega))
    · exact g1 x a1 (by omega)
    · rw [z2 0 (by decide), z1 0 (by decide)]
  · exact c_Mod_veil (sp_isSister ⟨s2, s3⟩ (fun b1 b2 => by omega) (fun _ => ⟨fun _ => ⟨rfl, hi, rfl⟩, fun q => absurd rfl q⟩))
