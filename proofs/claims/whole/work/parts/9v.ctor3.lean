/-! the class's objects are made *-/
def zw_1 : Option (zk_X × Option (List zk_V)) := zk_cx 3000 115 1 none (zk_ctor 115) [.inr (.inr (.inl 1))] [] (1, [], [])
set_option maxRecDepth 100000 in
theorem zw_1_some : zw_1.isSome = true := by decide +kernel
