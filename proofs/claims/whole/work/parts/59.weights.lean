/-! weights and who goes: plain functions of the law, the stone and the sin *-/
def zv_nm (w : za_W) (day n sin : Int) : Int → Int := fun i => if i = 0 then w.1 else if i = 1 then day - w.2.1 else if i = 2 then w.2.2.2 else if i = 3 then n else sin
def zv_wt (L : Option (List (Int × Int))) (w : za_W) (day n : Int) : Int := match L with
  | none => w.1 + 1
  | some l => max 0 (min 99 ((zv_run (zv_nm w day n 0) l ([], [])).2.headD 0))
def zv_go (L : Option (List (Int × Int))) (w : za_W) (day n sin : Int) : Bool := match L with
  | none => w.1 == sin
  | some l => (zv_run (zv_nm w day n sin) l ([], [])).1.headD 0 != 0
theorem zv_nm_r {w : za_W} {day sis n sin : Int} (h : za_w1 w day sis) (hd : day ≤ 999) (hs : sis ≤ 6) (hn : 0 ≤ n ∧ n < 30) (hsin : -1000000 ≤ sin ∧ sin ≤ 1000000) (i : Int) : -1000000 ≤ zv_nm w day n sin i ∧ zv_nm w day n sin i ≤ 1000000 := by
  unfold za_w1 at h
  unfold zv_nm
  repeat' split
  all_goals omega
theorem zv_wt_r {L : Option (List (Int × Int))} {w : za_W} {day sis n : Int} (h : za_w1 w day sis) : 0 ≤ zv_wt L w day n ∧ zv_wt L w day n ≤ 99 := by
  unfold za_w1 at h
  unfold zv_wt
  split
  · omega
  · omega
section
variable {μ : zk_M} {BV : zk_M → Prop} {B : Int → zk_M → Prop} {σ : za_S} {sis : Int}
theorem sp_nameC {n : Int} (hk : za_ok σ sis) (h : za_C μ 4 σ) (h0 : 0 ≤ n) (hn : n < σ.1.1) (hB : ∀ μ', zq [24] μ μ' → (∀ i : Int, 0 ≤ i → i < 4 → ∀ sin, μ' 24 i = zv_nm (σ.1.2.2 n.toNat) σ.1.2.1 n sin i) → BV μ') : zk_C 14 [.inr (.inr (.inl 22)), .inr (.inr (.inl 3)), .inl n] μ (zk_RV BV) := by
  have hw := hk.1.2.2.1 n.toNat (by omega)
  have hd := hk.1.2.1
  unfold za_w1 at hw
  refine c_Law_nameStone (za_kdC hk h h0 hn (c_Sto_day ?_))
  rw [zk_set_o (by decide), za_C_d h]
  refine za_swC hk (za_C_cg (zk_set_o (by decide)) (zk_set_o (by decide)) (zk_set_o (by decide)) h) h0 hn ⟨by omega, za_ownC hk (za_C_cg (μ := μ) ?_ ?_ ?_ h) h0 hn (hB _ ((((zq.rf _ _).set (by decide) _ _).set (by decide) _ _ |>.set (by decide) _ _).set (by decide) _ _) (fun i i1 i2 sin => ?_))⟩
  · rw [zk_set_o (by decide), zk_set_o (by decide)]
  · rw [zk_set_o (by decide), zk_set_o (by decide)]
  · rw [zk_set_o (by decide), zk_set_o (by decide)]
  · rcases (show i = 0 ∨ i = 1 ∨ i = 2 ∨ i = 3 by omega) with rfl | rfl | rfl | rfl <;> simp [zk_set, zv_nm]
end
