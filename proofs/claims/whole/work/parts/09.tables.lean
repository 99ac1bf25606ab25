theorem Wa_nm {D : va_G} {ay : Nat → ClassId} {K : Nat → Nat × Nat} {n0 n n' : Nat} {ad0 ad : Nat → Nat} {A : Nat → Prop} {s : State} {σ σ' : hSt} {H : Heap} {locs : List Loc} {b : Bool} (hn : n' = n) (hs : σ' = σ) (w : Wa D ay K n0 ad0 b n ad A s σ H locs) : Wa D ay K n0 ad0 b n' ad A s σ' H locs := by
  subst hn
  subst hs
  exact w
theorem okr_of {K : Nat → Nat × Nat} {n t a : Nat} (h : a < n ∧ (K a).1 = t) : okr K n t a = true := by simp [okr, h.1, h.2]

theorem ctf0 : clsTy TX0 4 (fty 0) := ct0
theorem okt0 : ∀ j, j < 4 → okT (fty 0 j) = true := by decide +kernel
theorem ctf1 : clsTy TX1 4 (fty 1) := ct1
theorem okt1 : ∀ j, j < 4 → okT (fty 1 j) = true := by decide +kernel
theorem ctf2 : clsTy TX2 3 (fty 2) := ct2
theorem okt2 : ∀ j, j < 3 → okT (fty 2 j) = true := by decide +kernel
theorem ctf3 : clsTy TX3 4 (fty 3) := ct3
theorem okt3 : ∀ j, j < 4 → okT (fty 3 j) = true := by decide +kernel
theorem ctf4 : clsTy TX4 9 (fty 4) := ct4
theorem okt4 : ∀ j, j < 9 → okT (fty 4 j) = true := by decide +kernel
theorem ctf5 : clsTy TX5 2 (fty 5) := ct5
theorem okt5 : ∀ j, j < 2 → okT (fty 5 j) = true := by decide +kernel
theorem ctf6 : clsTy TX6 2 (fty 6) := ct6
theorem okt6 : ∀ j, j < 2 → okT (fty 6 j) = true := by decide +kernel
theorem ctf7 : clsTy TX7 16 (fty 7) := ct7
theorem okt7 : ∀ j, j < 16 → okT (fty 7 j) = true := by decide +kernel
theorem ctf8 : clsTy TX8 3 (fty 8) := ct8
theorem okt8 : ∀ j, j < 3 → okT (fty 8 j) = true := by decide +kernel
theorem ctf9 : clsTy TX9 4 (fty 9) := ct9
theorem okt9 : ∀ j, j < 4 → okT (fty 9 j) = true := by decide +kernel
theorem ctf10 : clsTy TX10 12 (fty 10) := ct10
theorem okt10 : ∀ j, j < 12 → okT (fty 10 j) = true := by decide +kernel
theorem ctf11 : clsTy TX11 13 (fty 11) := ct11
theorem okt11 : ∀ j, j < 13 → okT (fty 11 j) = true := by decide +kernel
theorem ctf12 : clsTy TX12 69 (fty 12) := ct12
theorem okt12 : ∀ j, j < 69 → okT (fty 12 j) = true := by decide +kernel
