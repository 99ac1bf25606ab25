/-! THE MADE STATE: what the two constructors leave, by the kernel -/
def mC : Option (Nat × hSt) := F_X11_init 0 1 (zO hZ 0)
def mM : Option (Nat × hSt) := F_X12_init 0 1 (zO hZ 0)
set_option maxRecDepth 100000 in
set_option maxHeartbeats 4000000 in
theorem mC_n : mC.map (fun q => q.1) = some 246 := by decide +kernel
set_option maxRecDepth 100000 in
set_option maxHeartbeats 4000000 in
theorem mM_n : mM.map (fun q => q.1) = some 47 := by decide +kernel
