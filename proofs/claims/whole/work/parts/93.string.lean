/-! the text of the words *-/
def zt_W (i : Nat) : Int := (zk_wordsL.getD i 0).toInt
section
variable {μ : zk_M} {B : Int → zk_M → Prop}
theorem sp_slen (h : B 77 μ) : zk_C 248 [.inr (.inr (.inr 1))] μ (zk_RI B) := by
  sorry
theorem sp_schar {i : Nat} (hi : i < 77) (h : B (zt_W i) μ) : zk_C 249 [.inr (.inr (.inr 1)), .inl (i : Int)] μ (zk_RI B) := by
  sorry
end
