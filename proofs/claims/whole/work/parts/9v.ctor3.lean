/-! the objects are made, by computation *-/
def zw_1 : Option (zk_X × Option (List zk_V)) := zk_cx 3000 115 1 none (zk_ctor 115) [.inr (.inr (.inl 1))] [] (1, [], [])
set_option maxRecDepth 100000 in
theorem zw_1_some : zw_1.isSome = true := by decide +kernel
def zw_x1 : zk_X := ((zw_1.getD ((0, [], []), none)).1)
def zw_2 : Option (zk_X × Option (List zk_V)) := zk_cx 3000 145 60 (some 181) (zk_ctor 145) [.inr (.inr (.inl 60))] [] (60, zw_x1.2)
set_option maxRecDepth 100000 in
theorem zw_2_some : (zw_2.isSome && Nat.beq zw_x1.1 59) = true := by decide +kernel
