/-! what the start gives *-/
section zw_world
variable {s : State} {args : Array Value}
theorem zw_kn (hts : ∀ w ∈ zk_gT, w.before args s = true) : ∃ (dC : Nat → ClassId) (dI : Nat → Nat → Nat), ∀ (k : Nat) (q : vw_C), zk_cl[k]? = some q → u_Kn s q.1 q.2.1 q.2.2 (dC k) (dI k) := by
  have h0 : ∀ ci : Nat, ∃ q : ClassId × (Nat → Nat), ci < 13 → u_Kn s (zk_cn ci) (zk_TT ci) (zk_nf ci) q.1 q.2 := by
    intro ci
    by_cases h : ci < 13
    · obtain ⟨cC, iS, hk⟩ := u_known (C := zk_cn ci) (T := zk_TT ci) (N := zk_nf ci) (n := zk_nf ci) hts (zk_lay_in h) (hts _ (zk_in_new (List.mem_map.mpr ⟨ci, List.mem_range.mpr h, rfl⟩)))
      exact ⟨(cC, iS), fun _ => hk⟩
    · exact ⟨(0, fun _ => 0), fun q => absurd q h⟩
  obtain ⟨f, hf⟩ : ∃ f : Nat → ClassId × (Nat → Nat), ∀ ci : Nat, ci < 13 → u_Kn s (zk_cn ci) (zk_TT ci) (zk_nf ci) (f ci).1 (f ci).2 := ⟨fun ci => Classical.choose (h0 ci), fun ci => Classical.choose_spec (h0 ci)⟩
  refine ⟨fun k => (f k).1, fun k => (f k).2, fun k q hq => ?_⟩
  by_cases h : k < 13
  · rw [zk_cl_at h] at hq
    cases hq
    exact hf k h
  · rw [List.getElem?_eq_none (by unfold zk_cl; rw [List.length_map, List.length_range]; omega)] at hq
    cases hq
theorem zw_arr {ty : FieldType} (hty : ∀ C, ty ≠ .object C) (hts : ∀ w ∈ zk_gT, w.before args s = true) (hin : Cond.arrayClass ty ∈ zk_wetc) : ∃ cA : ClassId, ArrOfT s cA ty ∧ va_RA s cA ty := by
  obtain ⟨cA, kA, comp, h1, h2, h3⟩ := Cond.arrayClass_spec (hts _ (zk_in_etc hin))
  refine ⟨cA, fun n z => ⟨fun k h => (by cases h), kA, h2, comp, h3⟩, ?_⟩
  cases ty with
  | object C => exact absurd rfl (hty C)
  | _ => exact h1
theorem zw_arrS (h : va_AO "VeilOfStones$Script" s) : ∃ cA : ClassId, ArrOfT s cA (.object "VeilOfStones$Script") ∧ va_RA s cA (.object "VeilOfStones$Script") := by
  obtain ⟨comp, cA, kA, h1, h2, h3, h4, h5⟩ := Cond.arrayOver_spec h
  exact ⟨cA, fun n z => ⟨fun k h => (by cases h), kA, h3, comp, h4⟩, kA, comp, h3, h4, h1, h5⟩
end zw_world
