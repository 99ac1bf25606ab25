/-! ===== BASE 5: the two systems' cells; small rows ===== -/
def cC {α β γ : Type} (x : Option (α × β)) (k : α → β → Option γ) : Option γ := match x with
  | none => none
  | some q => k q.1 q.2
theorem cC_some {α β γ : Type} {x : Option (α × β)} {k : α → β → Option γ} {r : γ} (h : cC x k = some r) : ∃ a b, x = some (a, b) ∧ k a b = some r := by
  cases x with
  | none => cases h
  | some q => exact ⟨q.1, q.2, rfl, h⟩
theorem cC_t {α β γ : Type} {x : Option (α × β)} {k : α → β → Option γ} {a : α} {b : β} (h : x = some (a, b)) : cC x k = k a b := by simp [cC, h]
def isB (v : Int32) : Bool := decide (v = 0) || decide (v = 1)
theorem isB_nar {v : Int32} (h : isB v = true) : narrow .boolean (.int v) = .int v := by
  unfold isB at h
  simp only [Bool.or_eq_true, decide_eq_true_eq] at h
  rcases h with h | h <;> subst h <;> rfl
theorem Wd.nm {D : va_G} {ay : Nat → ClassId} {K : Nat → Nat × Nat} {n : Nat} {ad : Nat → Nat} {A : Nat → Prop} {s : State} {σ σ' : hSt} {H : Heap} {locs : List Loc} (h : σ' = σ) (w : Wd D ay K n ad A s σ H locs) : Wd D ay K n ad A s σ' H locs := h ▸ w
theorem ts_out (ks : List Int32) {x : Int32} {lo hi : Int} (h : ∀ z : Int, lo ≤ z → z ≤ hi → z ∈ ks.map Int32.toInt) (hn : ∀ k ∈ ks, ¬ x = k) : x.toInt < lo ∨ hi < x.toInt := by
  by_cases h1 : x.toInt < lo
  · exact Or.inl h1
  · by_cases h2 : hi < x.toInt
    · exact Or.inr h2
    · exfalso
      obtain ⟨k, hk, e⟩ := List.mem_map.mp (h x.toInt (by omega) (by omega))
      exact hn k hk (Int32.toInt_inj.mp e.symm)
section HT
variable {p : Program} {l : Launch} {e : Env} {R : Room} {s : State} {m : MethodId} {args : Array Value} {below : List Frame} {meth : Method} {c : Code} {H : Heap} {locs : List Loc} {cells slots : Nat} {Q : State → Prop}
variable {cc : ByteArray} {pc : Nat} {ls : Array Slot} {rest : List Value}
theorem r_topi {x y : Int32} (h : y = x) (k : W p l e R s m args below meth c H locs cells slots Q (F0 m pc ls (.int y :: rest))) : W p l e R s m args below meth c H locs cells slots Q (F0 m pc ls (.int x :: rest)) := h ▸ k
theorem r_topl {x y : Int64} (h : y = x) (k : W p l e R s m args below meth c H locs cells slots Q (F0 m pc ls (.long y :: rest))) : W p l e R s m args below meth c H locs cells slots Q (F0 m pc ls (.long x :: rest)) := h ▸ k
theorem r_tIn (hexec : p.tables.exec = Jvm.exec) (hb : c.code = cc) {dflt lo hi : Int} {offs : Array Int} {len : Nat} {x k : Int32} {off : Int} {tgt : Nat} (hdg : decode cc pc = .ok (.tableswitch dflt lo hi offs, len)) (hx : x = k) (h1 : ¬ k.toInt < lo ∧ ¬ hi < k.toInt) (ho : offs[(k.toInt - lo).toNat]? = some off) (ht : (pc : Int) + off = (tgt : Int))
    (kk : W p l e R s m args below meth c H locs cells slots Q (F0 m tgt ls rest)) : W p l e R s m args below meth c H locs cells slots Q (F0 m pc ls (.int x :: rest)) := by
  subst hx
  exact lv_tableIn hexec hb hdg h1.1 h1.2 ho ht kk
end HT

def NC : Nat := 246
def kCL : List (Nat × Nat) := [(11, 0), (6, 0), (100, 2000), (7, 0), (101, 6), (101, 6), (101, 4), (0, 0), (101, 401), (101, 32), (5, 0), (101, 12), (5, 0), (101, 12), (101, 4), (101, 4), (101, 4), (101, 6), (103, 256), (101, 256), (7, 0), (101, 6), (101, 6), (101, 4), (0, 0), (101, 401), (101, 32), (5, 0), (101, 12), (5, 0), (101, 12), (101, 4), (101, 4), (101, 4), (101, 6), (103, 256), (101, 256), (4, 0), (8, 0), (101, 401), (101, 401), (103, 401), (103, 6), (103, 4), (10, 0), (101, 24), (101, 24), (101, 60), (10, 0), (101, 24), (101, 24), (101, 60), (2, 0), (105, 40), (10, 0), (101, 24), (101, 24), (101, 60), (10, 0), (101, 24), (101, 24), (101, 60), (10, 0), (101, 24), (101, 24), (101, 60), (10, 0), (101, 24), (101, 24), (101, 60), (10, 0), (101, 24), (101, 24), (101, 60), (10, 0), (101, 24), (101, 24), (101, 60), (10, 0), (101, 24), (101, 24), (101, 60), (10, 0), (101, 24), (101, 24), (101, 60), (10, 0), (101, 24), (101, 24), (101, 60), (10, 0), (101, 24), (101, 24), (101, 60), (10, 0), (101, 24), (101, 24), (101, 60), (10, 0), (101, 24), (101, 24), (101, 60), (10, 0), (101, 24), (101, 24), (101, 60), (10, 0), (101, 24), (101, 24), (101, 60), (10, 0), (101, 24), (101, 24), (101, 60), (10, 0), (101, 24), (101, 24), (101, 60), (10, 0), (101, 24), (101, 24), (101, 60), (10, 0), (101, 24), (101, 24), (101, 60), (10, 0), (101, 24), (101, 24), (101, 60), (10, 0), (101, 24), (101, 24), (101, 60), (10, 0), (101, 24), (101, 24), (101, 60), (10, 0), (101, 24), (101, 24), (101, 60), (10, 0), (101, 24), (101, 24), (101, 60), (10, 0), (101, 24), (101, 24), (101, 60), (10, 0), (101, 24), (101, 24), (101, 60), (10, 0), (101, 24), (101, 24), (101, 60), (10, 0), (101, 24), (101, 24), (101, 60), (10, 0), (101, 24), (101, 24), (101, 60), (10, 0), (101, 24), (101, 24), (101, 60), (10, 0), (101, 24), (101, 24), (101, 60), (10, 0), (101, 24), (101, 24), (101, 60), (10, 0), (101, 24), (101, 24), (101, 60), (10, 0), (101, 24), (101, 24), (101, 60), (10, 0), (101, 24), (101, 24), (101, 60), (10, 0), (101, 24), (101, 24), (101, 60), (10, 0), (101, 24), (101, 24), (101, 60), (10, 0), (101, 24), (101, 24), (101, 60), (10, 0), (101, 24), (101, 24), (101, 60), (10, 0), (101, 24), (101, 24), (101, 60), (10, 0), (101, 24), (101, 24), (101, 60), (105, 3), (9, 0), (101, 20), (101, 20), (101, 20), (3, 0), (101, 64), (102, 64), (101, 64), (101, 64), (1, 0), (101, 3), (10, 0), (101, 24), (101, 24), (101, 60), (10, 0), (101, 24), (101, 24), (101, 60), (10, 0), (101, 24), (101, 24), (101, 60), (10, 0), (101, 24), (101, 24), (101, 60), (10, 0), (101, 24), (101, 24), (101, 60)]
def kC : Nat → Nat × Nat := fun c => kCL.getD c (999, 0)
def NM : Nat := 47
def kML : List (Nat × Nat) := [(12, 0), (100, 2000), (100, 2000), (101, 403), (101, 403), (101, 403), (103, 403), (103, 19), (103, 10), (101, 10), (101, 10), (101, 2), (101, 12), (101, 12), (101, 2), (101, 8), (101, 4), (101, 48), (101, 2), (101, 2), (101, 8), (101, 8), (101, 8), (101, 2), (101, 2), (102, 260), (101, 260), (101, 260), (101, 260), (101, 260), (101, 840), (101, 840), (101, 64), (101, 6), (101, 400), (101, 6), (101, 380), (101, 380), (101, 15200), (101, 64), (101, 64), (101, 3), (101, 20), (101, 20), (101, 20), (102, 3), (101, 1140)]
def kM : Nat → Nat × Nat := fun c => kML.getD c (999, 0)
theorem cls0 : clsOk 0 RX0 TX0 4 := ⟨by decide, rfl, inX0, rfl⟩
theorem ct0 : clsTy TX0 4 tyX0 := ⟨tyX0_ok, nmX0⟩
theorem fi_0_0 : 0 < 4 ∧ (fty 0 0 ≠ .int ∧ fty 0 0 ≠ .boolean) := ⟨Nat.lt_of_lt_of_le (Nat.lt_succ_self _) (Nat.le_of_ble_eq_true rfl), ⟨fun h => (by cases h), fun h => (by cases h)⟩⟩
theorem fi_0_1 : 1 < 4 ∧ (fty 0 1 ≠ .int ∧ fty 0 1 ≠ .boolean) := ⟨Nat.lt_of_lt_of_le (Nat.lt_succ_self _) (Nat.le_of_ble_eq_true rfl), ⟨fun h => (by cases h), fun h => (by cases h)⟩⟩
theorem fi_0_2 : 2 < 4 ∧ (fty 0 2 = .int ∨ fty 0 2 = .boolean) := ⟨Nat.lt_of_lt_of_le (Nat.lt_succ_self _) (Nat.le_of_ble_eq_true rfl), Or.inl rfl⟩
theorem fp_0_2 : (TX0 2).2.2.2 = false ∧ parseFieldDescriptor (TX0 2).2.2.1 = some (tyX0 2) := ⟨rfl, tyX0_ok 2 fi_0_2.1⟩
theorem fi_0_3 : 3 < 4 ∧ (fty 0 3 = .int ∨ fty 0 3 = .boolean) := ⟨Nat.lt_of_lt_of_le (Nat.lt_succ_self _) (Nat.le_of_ble_eq_true rfl), Or.inl rfl⟩
theorem fp_0_3 : (TX0 3).2.2.2 = false ∧ parseFieldDescriptor (TX0 3).2.2.1 = some (tyX0 3) := ⟨rfl, tyX0_ok 3 fi_0_3.1⟩
theorem cls1 : clsOk 1 RX1 TX1 4 := ⟨by decide, rfl, inX1, rfl⟩
theorem ct1 : clsTy TX1 4 tyX1 := ⟨tyX1_ok, nmX1⟩
theorem fi_1_0 : 0 < 4 ∧ (fty 1 0 ≠ .int ∧ fty 1 0 ≠ .boolean) := ⟨Nat.lt_of_lt_of_le (Nat.lt_succ_self _) (Nat.le_of_ble_eq_true rfl), ⟨fun h => (by cases h), fun h => (by cases h)⟩⟩
theorem fi_1_1 : 1 < 4 ∧ (fty 1 1 = .int ∨ fty 1 1 = .boolean) := ⟨Nat.lt_of_lt_of_le (Nat.lt_succ_self _) (Nat.le_of_ble_eq_true rfl), Or.inl rfl⟩
theorem fp_1_1 : (TX1 1).2.2.2 = false ∧ parseFieldDescriptor (TX1 1).2.2.1 = some (tyX1 1) := ⟨rfl, tyX1_ok 1 fi_1_1.1⟩
theorem fi_1_2 : 2 < 4 ∧ (fty 1 2 ≠ .int ∧ fty 1 2 ≠ .boolean) := ⟨Nat.lt_of_lt_of_le (Nat.lt_succ_self _) (Nat.le_of_ble_eq_true rfl), ⟨fun h => (by cases h), fun h => (by cases h)⟩⟩
theorem fi_1_3 : 3 < 4 ∧ (fty 1 3 ≠ .int ∧ fty 1 3 ≠ .boolean) := ⟨Nat.lt_of_lt_of_le (Nat.lt_succ_self _) (Nat.le_of_ble_eq_true rfl), ⟨fun h => (by cases h), fun h => (by cases h)⟩⟩
theorem cls2 : clsOk 2 RX2 TX2 3 := ⟨by decide, rfl, inX2, rfl⟩
theorem ct2 : clsTy TX2 3 tyX2 := ⟨tyX2_ok, nmX2⟩
theorem fi_2_0 : 0 < 3 ∧ (fty 2 0 ≠ .int ∧ fty 2 0 ≠ .boolean) := ⟨Nat.lt_of_lt_of_le (Nat.lt_succ_self _) (Nat.le_of_ble_eq_true rfl), ⟨fun h => (by cases h), fun h => (by cases h)⟩⟩
theorem fi_2_1 : 1 < 3 ∧ (fty 2 1 = .int ∨ fty 2 1 = .boolean) := ⟨Nat.lt_of_lt_of_le (Nat.lt_succ_self _) (Nat.le_of_ble_eq_true rfl), Or.inl rfl⟩
theorem fp_2_1 : (TX2 1).2.2.2 = false ∧ parseFieldDescriptor (TX2 1).2.2.1 = some (tyX2 1) := ⟨rfl, tyX2_ok 1 fi_2_1.1⟩
theorem fi_2_2 : 2 < 3 ∧ (fty 2 2 = .int ∨ fty 2 2 = .boolean) := ⟨Nat.lt_of_lt_of_le (Nat.lt_succ_self _) (Nat.le_of_ble_eq_true rfl), Or.inl rfl⟩
theorem fp_2_2 : (TX2 2).2.2.2 = false ∧ parseFieldDescriptor (TX2 2).2.2.1 = some (tyX2 2) := ⟨rfl, tyX2_ok 2 fi_2_2.1⟩
theorem cls3 : clsOk 3 RX3 TX3 4 := ⟨by decide, rfl, inX3, rfl⟩
theorem ct3 : clsTy TX3 4 tyX3 := ⟨tyX3_ok, nmX3⟩
theorem fi_3_0 : 0 < 4 ∧ (fty 3 0 ≠ .int ∧ fty 3 0 ≠ .boolean) := ⟨Nat.lt_of_lt_of_le (Nat.lt_succ_self _) (Nat.le_of_ble_eq_true rfl), ⟨fun h => (by cases h), fun h => (by cases h)⟩⟩
theorem fi_3_1 : 1 < 4 ∧ (fty 3 1 ≠ .int ∧ fty 3 1 ≠ .boolean) := ⟨Nat.lt_of_lt_of_le (Nat.lt_succ_self _) (Nat.le_of_ble_eq_true rfl), ⟨fun h => (by cases h), fun h => (by cases h)⟩⟩
theorem fi_3_2 : 2 < 4 ∧ (fty 3 2 ≠ .int ∧ fty 3 2 ≠ .boolean) := ⟨Nat.lt_of_lt_of_le (Nat.lt_succ_self _) (Nat.le_of_ble_eq_true rfl), ⟨fun h => (by cases h), fun h => (by cases h)⟩⟩
theorem fp_3_2 : (TX3 2).2.2.2 = false ∧ parseFieldDescriptor (TX3 2).2.2.1 = some (tyX3 2) := ⟨rfl, tyX3_ok 2 fi_3_2.1⟩
theorem fi_3_3 : 3 < 4 ∧ (fty 3 3 ≠ .int ∧ fty 3 3 ≠ .boolean) := ⟨Nat.lt_of_lt_of_le (Nat.lt_succ_self _) (Nat.le_of_ble_eq_true rfl), ⟨fun h => (by cases h), fun h => (by cases h)⟩⟩
theorem fp_3_3 : (TX3 3).2.2.2 = false ∧ parseFieldDescriptor (TX3 3).2.2.1 = some (tyX3 3) := ⟨rfl, tyX3_ok 3 fi_3_3.1⟩
theorem cls4 : clsOk 4 RX4 TX4 9 := ⟨by decide, rfl, inX4, rfl⟩
theorem ct4 : clsTy TX4 9 tyX4 := ⟨tyX4_ok, nmX4⟩
theorem fi_4_0 : 0 < 9 ∧ (fty 4 0 ≠ .int ∧ fty 4 0 ≠ .boolean) := ⟨Nat.lt_of_lt_of_le (Nat.lt_succ_self _) (Nat.le_of_ble_eq_true rfl), ⟨fun h => (by cases h), fun h => (by cases h)⟩⟩
theorem fi_4_1 : 1 < 9 ∧ (fty 4 1 ≠ .int ∧ fty 4 1 ≠ .boolean) := ⟨Nat.lt_of_lt_of_le (Nat.lt_succ_self _) (Nat.le_of_ble_eq_true rfl), ⟨fun h => (by cases h), fun h => (by cases h)⟩⟩
theorem fi_4_2 : 2 < 9 ∧ (fty 4 2 ≠ .int ∧ fty 4 2 ≠ .boolean) := ⟨Nat.lt_of_lt_of_le (Nat.lt_succ_self _) (Nat.le_of_ble_eq_true rfl), ⟨fun h => (by cases h), fun h => (by cases h)⟩⟩
theorem fi_4_3 : 3 < 9 ∧ (fty 4 3 ≠ .int ∧ fty 4 3 ≠ .boolean) := ⟨Nat.lt_of_lt_of_le (Nat.lt_succ_self _) (Nat.le_of_ble_eq_true rfl), ⟨fun h => (by cases h), fun h => (by cases h)⟩⟩
theorem fp_4_3 : (TX4 3).2.2.2 = false ∧ parseFieldDescriptor (TX4 3).2.2.1 = some (tyX4 3) := ⟨rfl, tyX4_ok 3 fi_4_3.1⟩
theorem fi_4_4 : 4 < 9 ∧ (fty 4 4 = .int ∨ fty 4 4 = .boolean) := ⟨Nat.lt_of_lt_of_le (Nat.lt_succ_self _) (Nat.le_of_ble_eq_true rfl), Or.inl rfl⟩
theorem fp_4_4 : (TX4 4).2.2.2 = false ∧ parseFieldDescriptor (TX4 4).2.2.1 = some (tyX4 4) := ⟨rfl, tyX4_ok 4 fi_4_4.1⟩
theorem fi_4_5 : 5 < 9 ∧ (fty 4 5 = .int ∨ fty 4 5 = .boolean) := ⟨Nat.lt_of_lt_of_le (Nat.lt_succ_self _) (Nat.le_of_ble_eq_true rfl), Or.inl rfl⟩
theorem fp_4_5 : (TX4 5).2.2.2 = false ∧ parseFieldDescriptor (TX4 5).2.2.1 = some (tyX4 5) := ⟨rfl, tyX4_ok 5 fi_4_5.1⟩
theorem fi_4_6 : 6 < 9 ∧ (fty 4 6 = .int ∨ fty 4 6 = .boolean) := ⟨Nat.lt_of_lt_of_le (Nat.lt_succ_self _) (Nat.le_of_ble_eq_true rfl), Or.inl rfl⟩
theorem fp_4_6 : (TX4 6).2.2.2 = false ∧ parseFieldDescriptor (TX4 6).2.2.1 = some (tyX4 6) := ⟨rfl, tyX4_ok 6 fi_4_6.1⟩
theorem fi_4_7 : 7 < 9 ∧ (fty 4 7 = .int ∨ fty 4 7 = .boolean) := ⟨Nat.lt_of_lt_of_le (Nat.lt_succ_self _) (Nat.le_of_ble_eq_true rfl), Or.inl rfl⟩
theorem fp_4_7 : (TX4 7).2.2.2 = false ∧ parseFieldDescriptor (TX4 7).2.2.1 = some (tyX4 7) := ⟨rfl, tyX4_ok 7 fi_4_7.1⟩
theorem fi_4_8 : 8 < 9 ∧ (fty 4 8 = .int ∨ fty 4 8 = .boolean) := ⟨Nat.lt_of_lt_of_le (Nat.lt_succ_self _) (Nat.le_of_ble_eq_true rfl), Or.inl rfl⟩
theorem fp_4_8 : (TX4 8).2.2.2 = false ∧ parseFieldDescriptor (TX4 8).2.2.1 = some (tyX4 8) := ⟨rfl, tyX4_ok 8 fi_4_8.1⟩
theorem cls5 : clsOk 5 RX5 TX5 2 := ⟨by decide, rfl, inX5, rfl⟩
theorem ct5 : clsTy TX5 2 tyX5 := ⟨tyX5_ok, nmX5⟩
theorem fi_5_0 : 0 < 2 ∧ (fty 5 0 ≠ .int ∧ fty 5 0 ≠ .boolean) := ⟨Nat.lt_of_lt_of_le (Nat.lt_succ_self _) (Nat.le_of_ble_eq_true rfl), ⟨fun h => (by cases h), fun h => (by cases h)⟩⟩
theorem fi_5_1 : 1 < 2 ∧ (fty 5 1 = .int ∨ fty 5 1 = .boolean) := ⟨Nat.lt_of_lt_of_le (Nat.lt_succ_self _) (Nat.le_of_ble_eq_true rfl), Or.inl rfl⟩
theorem fp_5_1 : (TX5 1).2.2.2 = false ∧ parseFieldDescriptor (TX5 1).2.2.1 = some (tyX5 1) := ⟨rfl, tyX5_ok 1 fi_5_1.1⟩
theorem cls6 : clsOk 6 RX6 TX6 2 := ⟨by decide, rfl, inX6, rfl⟩
theorem ct6 : clsTy TX6 2 tyX6 := ⟨tyX6_ok, nmX6⟩
theorem fi_6_0 : 0 < 2 ∧ (fty 6 0 ≠ .int ∧ fty 6 0 ≠ .boolean) := ⟨Nat.lt_of_lt_of_le (Nat.lt_succ_self _) (Nat.le_of_ble_eq_true rfl), ⟨fun h => (by cases h), fun h => (by cases h)⟩⟩
theorem fi_6_1 : 1 < 2 ∧ (fty 6 1 = .int ∨ fty 6 1 = .boolean) := ⟨Nat.lt_of_lt_of_le (Nat.lt_succ_self _) (Nat.le_of_ble_eq_true rfl), Or.inl rfl⟩
theorem fp_6_1 : (TX6 1).2.2.2 = false ∧ parseFieldDescriptor (TX6 1).2.2.1 = some (tyX6 1) := ⟨rfl, tyX6_ok 1 fi_6_1.1⟩
theorem cls7 : clsOk 7 RX7 TX7 16 := ⟨by decide, rfl, inX7, rfl⟩
theorem ct7 : clsTy TX7 16 tyX7 := ⟨tyX7_ok, nmX7⟩
theorem fi_7_0 : 0 < 16 ∧ (fty 7 0 = .int ∨ fty 7 0 = .boolean) := ⟨Nat.lt_of_lt_of_le (Nat.lt_succ_self _) (Nat.le_of_ble_eq_true rfl), Or.inl rfl⟩
theorem fp_7_0 : (TX7 0).2.2.2 = false ∧ parseFieldDescriptor (TX7 0).2.2.1 = some (tyX7 0) := ⟨rfl, tyX7_ok 0 fi_7_0.1⟩
theorem fi_7_1 : 1 < 16 ∧ (fty 7 1 ≠ .int ∧ fty 7 1 ≠ .boolean) := ⟨Nat.lt_of_lt_of_le (Nat.lt_succ_self _) (Nat.le_of_ble_eq_true rfl), ⟨fun h => (by cases h), fun h => (by cases h)⟩⟩
theorem fi_7_2 : 2 < 16 ∧ (fty 7 2 ≠ .int ∧ fty 7 2 ≠ .boolean) := ⟨Nat.lt_of_lt_of_le (Nat.lt_succ_self _) (Nat.le_of_ble_eq_true rfl), ⟨fun h => (by cases h), fun h => (by cases h)⟩⟩
theorem fi_7_3 : 3 < 16 ∧ (fty 7 3 = .int ∨ fty 7 3 = .boolean) := ⟨Nat.lt_of_lt_of_le (Nat.lt_succ_self _) (Nat.le_of_ble_eq_true rfl), Or.inl rfl⟩
theorem fp_7_3 : (TX7 3).2.2.2 = false ∧ parseFieldDescriptor (TX7 3).2.2.1 = some (tyX7 3) := ⟨rfl, tyX7_ok 3 fi_7_3.1⟩
theorem fi_7_4 : 4 < 16 ∧ (fty 7 4 ≠ .int ∧ fty 7 4 ≠ .boolean) := ⟨Nat.lt_of_lt_of_le (Nat.lt_succ_self _) (Nat.le_of_ble_eq_true rfl), ⟨fun h => (by cases h), fun h => (by cases h)⟩⟩
theorem fi_7_5 : 5 < 16 ∧ (fty 7 5 ≠ .int ∧ fty 7 5 ≠ .boolean) := ⟨Nat.lt_of_lt_of_le (Nat.lt_succ_self _) (Nat.le_of_ble_eq_true rfl), ⟨fun h => (by cases h), fun h => (by cases h)⟩⟩
theorem fi_7_6 : 6 < 16 ∧ (fty 7 6 ≠ .int ∧ fty 7 6 ≠ .boolean) := ⟨Nat.lt_of_lt_of_le (Nat.lt_succ_self _) (Nat.le_of_ble_eq_true rfl), ⟨fun h => (by cases h), fun h => (by cases h)⟩⟩
theorem fi_7_7 : 7 < 16 ∧ (fty 7 7 ≠ .int ∧ fty 7 7 ≠ .boolean) := ⟨Nat.lt_of_lt_of_le (Nat.lt_succ_self _) (Nat.le_of_ble_eq_true rfl), ⟨fun h => (by cases h), fun h => (by cases h)⟩⟩
theorem fi_7_8 : 8 < 16 ∧ (fty 7 8 = .int ∨ fty 7 8 = .boolean) := ⟨Nat.lt_of_lt_of_le (Nat.lt_succ_self _) (Nat.le_of_ble_eq_true rfl), Or.inl rfl⟩
theorem fp_7_8 : (TX7 8).2.2.2 = false ∧ parseFieldDescriptor (TX7 8).2.2.1 = some (tyX7 8) := ⟨rfl, tyX7_ok 8 fi_7_8.1⟩
theorem fi_7_9 : 9 < 16 ∧ (fty 7 9 = .int ∨ fty 7 9 = .boolean) := ⟨Nat.lt_of_lt_of_le (Nat.lt_succ_self _) (Nat.le_of_ble_eq_true rfl), Or.inl rfl⟩
theorem fp_7_9 : (TX7 9).2.2.2 = false ∧ parseFieldDescriptor (TX7 9).2.2.1 = some (tyX7 9) := ⟨rfl, tyX7_ok 9 fi_7_9.1⟩
theorem fi_7_10 : 10 < 16 ∧ (fty 7 10 ≠ .int ∧ fty 7 10 ≠ .boolean) := ⟨Nat.lt_of_lt_of_le (Nat.lt_succ_self _) (Nat.le_of_ble_eq_true rfl), ⟨fun h => (by cases h), fun h => (by cases h)⟩⟩
theorem fi_7_11 : 11 < 16 ∧ (fty 7 11 ≠ .int ∧ fty 7 11 ≠ .boolean) := ⟨Nat.lt_of_lt_of_le (Nat.lt_succ_self _) (Nat.le_of_ble_eq_true rfl), ⟨fun h => (by cases h), fun h => (by cases h)⟩⟩
theorem fi_7_12 : 12 < 16 ∧ (fty 7 12 ≠ .int ∧ fty 7 12 ≠ .boolean) := ⟨Nat.lt_of_lt_of_le (Nat.lt_succ_self _) (Nat.le_of_ble_eq_true rfl), ⟨fun h => (by cases h), fun h => (by cases h)⟩⟩
theorem fi_7_13 : 13 < 16 ∧ (fty 7 13 ≠ .int ∧ fty 7 13 ≠ .boolean) := ⟨Nat.lt_of_lt_of_le (Nat.lt_succ_self _) (Nat.le_of_ble_eq_true rfl), ⟨fun h => (by cases h), fun h => (by cases h)⟩⟩
theorem fi_7_14 : 14 < 16 ∧ (fty 7 14 ≠ .int ∧ fty 7 14 ≠ .boolean) := ⟨Nat.lt_of_lt_of_le (Nat.lt_succ_self _) (Nat.le_of_ble_eq_true rfl), ⟨fun h => (by cases h), fun h => (by cases h)⟩⟩
theorem fi_7_15 : 15 < 16 ∧ (fty 7 15 ≠ .int ∧ fty 7 15 ≠ .boolean) := ⟨Nat.lt_of_lt_of_le (Nat.lt_succ_self _) (Nat.le_of_ble_eq_true rfl), ⟨fun h => (by cases h), fun h => (by cases h)⟩⟩
theorem cls8 : clsOk 8 RX8 TX8 3 := ⟨by decide, rfl, inX8, rfl⟩
theorem ct8 : clsTy TX8 3 tyX8 := ⟨tyX8_ok, nmX8⟩
theorem fi_8_0 : 0 < 3 ∧ (fty 8 0 ≠ .int ∧ fty 8 0 ≠ .boolean) := ⟨Nat.lt_of_lt_of_le (Nat.lt_succ_self _) (Nat.le_of_ble_eq_true rfl), ⟨fun h => (by cases h), fun h => (by cases h)⟩⟩
theorem fi_8_1 : 1 < 3 ∧ (fty 8 1 ≠ .int ∧ fty 8 1 ≠ .boolean) := ⟨Nat.lt_of_lt_of_le (Nat.lt_succ_self _) (Nat.le_of_ble_eq_true rfl), ⟨fun h => (by cases h), fun h => (by cases h)⟩⟩
theorem fi_8_2 : 2 < 3 ∧ (fty 8 2 ≠ .int ∧ fty 8 2 ≠ .boolean) := ⟨Nat.lt_of_lt_of_le (Nat.lt_succ_self _) (Nat.le_of_ble_eq_true rfl), ⟨fun h => (by cases h), fun h => (by cases h)⟩⟩
theorem cls9 : clsOk 9 RX9 TX9 4 := ⟨by decide, rfl, inX9, rfl⟩
theorem ct9 : clsTy TX9 4 tyX9 := ⟨tyX9_ok, nmX9⟩
theorem fi_9_0 : 0 < 4 ∧ (fty 9 0 ≠ .int ∧ fty 9 0 ≠ .boolean) := ⟨Nat.lt_of_lt_of_le (Nat.lt_succ_self _) (Nat.le_of_ble_eq_true rfl), ⟨fun h => (by cases h), fun h => (by cases h)⟩⟩
theorem fi_9_1 : 1 < 4 ∧ (fty 9 1 ≠ .int ∧ fty 9 1 ≠ .boolean) := ⟨Nat.lt_of_lt_of_le (Nat.lt_succ_self _) (Nat.le_of_ble_eq_true rfl), ⟨fun h => (by cases h), fun h => (by cases h)⟩⟩
theorem fi_9_2 : 2 < 4 ∧ (fty 9 2 ≠ .int ∧ fty 9 2 ≠ .boolean) := ⟨Nat.lt_of_lt_of_le (Nat.lt_succ_self _) (Nat.le_of_ble_eq_true rfl), ⟨fun h => (by cases h), fun h => (by cases h)⟩⟩
theorem fi_9_3 : 3 < 4 ∧ (fty 9 3 = .int ∨ fty 9 3 = .boolean) := ⟨Nat.lt_of_lt_of_le (Nat.lt_succ_self _) (Nat.le_of_ble_eq_true rfl), Or.inl rfl⟩
theorem fp_9_3 : (TX9 3).2.2.2 = false ∧ parseFieldDescriptor (TX9 3).2.2.1 = some (tyX9 3) := ⟨rfl, tyX9_ok 3 fi_9_3.1⟩
theorem cls10 : clsOk 10 RX10 TX10 12 := ⟨by decide, rfl, inX10, rfl⟩
theorem ct10 : clsTy TX10 12 tyX10 := ⟨tyX10_ok, nmX10⟩
theorem fi_10_0 : 0 < 12 ∧ (fty 10 0 = .int ∨ fty 10 0 = .boolean) := ⟨Nat.lt_of_lt_of_le (Nat.lt_succ_self _) (Nat.le_of_ble_eq_true rfl), Or.inl rfl⟩
theorem fp_10_0 : (TX10 0).2.2.2 = false ∧ parseFieldDescriptor (TX10 0).2.2.1 = some (tyX10 0) := ⟨rfl, tyX10_ok 0 fi_10_0.1⟩
theorem fi_10_1 : 1 < 12 ∧ (fty 10 1 = .int ∨ fty 10 1 = .boolean) := ⟨Nat.lt_of_lt_of_le (Nat.lt_succ_self _) (Nat.le_of_ble_eq_true rfl), Or.inl rfl⟩
theorem fp_10_1 : (TX10 1).2.2.2 = false ∧ parseFieldDescriptor (TX10 1).2.2.1 = some (tyX10 1) := ⟨rfl, tyX10_ok 1 fi_10_1.1⟩
theorem fi_10_2 : 2 < 12 ∧ (fty 10 2 = .int ∨ fty 10 2 = .boolean) := ⟨Nat.lt_of_lt_of_le (Nat.lt_succ_self _) (Nat.le_of_ble_eq_true rfl), Or.inl rfl⟩
theorem fp_10_2 : (TX10 2).2.2.2 = false ∧ parseFieldDescriptor (TX10 2).2.2.1 = some (tyX10 2) := ⟨rfl, tyX10_ok 2 fi_10_2.1⟩
theorem fi_10_3 : 3 < 12 ∧ (fty 10 3 = .int ∨ fty 10 3 = .boolean) := ⟨Nat.lt_of_lt_of_le (Nat.lt_succ_self _) (Nat.le_of_ble_eq_true rfl), Or.inl rfl⟩
theorem fp_10_3 : (TX10 3).2.2.2 = false ∧ parseFieldDescriptor (TX10 3).2.2.1 = some (tyX10 3) := ⟨rfl, tyX10_ok 3 fi_10_3.1⟩
theorem fi_10_4 : 4 < 12 ∧ (fty 10 4 = .int ∨ fty 10 4 = .boolean) := ⟨Nat.lt_of_lt_of_le (Nat.lt_succ_self _) (Nat.le_of_ble_eq_true rfl), Or.inl rfl⟩
theorem fp_10_4 : (TX10 4).2.2.2 = false ∧ parseFieldDescriptor (TX10 4).2.2.1 = some (tyX10 4) := ⟨rfl, tyX10_ok 4 fi_10_4.1⟩
theorem fi_10_5 : 5 < 12 ∧ (fty 10 5 = .int ∨ fty 10 5 = .boolean) := ⟨Nat.lt_of_lt_of_le (Nat.lt_succ_self _) (Nat.le_of_ble_eq_true rfl), Or.inl rfl⟩
theorem fp_10_5 : (TX10 5).2.2.2 = false ∧ parseFieldDescriptor (TX10 5).2.2.1 = some (tyX10 5) := ⟨rfl, tyX10_ok 5 fi_10_5.1⟩
theorem fi_10_6 : 6 < 12 ∧ (fty 10 6 = .int ∨ fty 10 6 = .boolean) := ⟨Nat.lt_of_lt_of_le (Nat.lt_succ_self _) (Nat.le_of_ble_eq_true rfl), Or.inl rfl⟩
theorem fp_10_6 : (TX10 6).2.2.2 = false ∧ parseFieldDescriptor (TX10 6).2.2.1 = some (tyX10 6) := ⟨rfl, tyX10_ok 6 fi_10_6.1⟩
theorem fi_10_7 : 7 < 12 ∧ (fty 10 7 = .int ∨ fty 10 7 = .boolean) := ⟨Nat.lt_of_lt_of_le (Nat.lt_succ_self _) (Nat.le_of_ble_eq_true rfl), Or.inl rfl⟩
theorem fp_10_7 : (TX10 7).2.2.2 = false ∧ parseFieldDescriptor (TX10 7).2.2.1 = some (tyX10 7) := ⟨rfl, tyX10_ok 7 fi_10_7.1⟩
theorem fi_10_8 : 8 < 12 ∧ (fty 10 8 = .int ∨ fty 10 8 = .boolean) := ⟨Nat.lt_of_lt_of_le (Nat.lt_succ_self _) (Nat.le_of_ble_eq_true rfl), Or.inl rfl⟩
theorem fp_10_8 : (TX10 8).2.2.2 = false ∧ parseFieldDescriptor (TX10 8).2.2.1 = some (tyX10 8) := ⟨rfl, tyX10_ok 8 fi_10_8.1⟩
theorem fi_10_9 : 9 < 12 ∧ (fty 10 9 ≠ .int ∧ fty 10 9 ≠ .boolean) := ⟨Nat.lt_of_lt_of_le (Nat.lt_succ_self _) (Nat.le_of_ble_eq_true rfl), ⟨fun h => (by cases h), fun h => (by cases h)⟩⟩
theorem fi_10_10 : 10 < 12 ∧ (fty 10 10 ≠ .int ∧ fty 10 10 ≠ .boolean) := ⟨Nat.lt_of_lt_of_le (Nat.lt_succ_self _) (Nat.le_of_ble_eq_true rfl), ⟨fun h => (by cases h), fun h => (by cases h)⟩⟩
theorem fi_10_11 : 11 < 12 ∧ (fty 10 11 ≠ .int ∧ fty 10 11 ≠ .boolean) := ⟨Nat.lt_of_lt_of_le (Nat.lt_succ_self _) (Nat.le_of_ble_eq_true rfl), ⟨fun h => (by cases h), fun h => (by cases h)⟩⟩
theorem cls11 : clsOk 11 RX11 TX11 13 := ⟨by decide, rfl, inX11, rfl⟩
theorem ct11 : clsTy TX11 13 tyX11 := ⟨tyX11_ok, nmX11⟩
theorem fi_11_0 : 0 < 13 ∧ (fty 11 0 ≠ .int ∧ fty 11 0 ≠ .boolean) := ⟨Nat.lt_of_lt_of_le (Nat.lt_succ_self _) (Nat.le_of_ble_eq_true rfl), ⟨fun h => (by cases h), fun h => (by cases h)⟩⟩
theorem fi_11_1 : 1 < 13 ∧ (fty 11 1 ≠ .int ∧ fty 11 1 ≠ .boolean) := ⟨Nat.lt_of_lt_of_le (Nat.lt_succ_self _) (Nat.le_of_ble_eq_true rfl), ⟨fun h => (by cases h), fun h => (by cases h)⟩⟩
theorem fp_11_1 : (TX11 1).2.2.2 = false ∧ parseFieldDescriptor (TX11 1).2.2.1 = some (tyX11 1) := ⟨rfl, tyX11_ok 1 fi_11_1.1⟩
theorem fi_11_2 : 2 < 13 ∧ (fty 11 2 ≠ .int ∧ fty 11 2 ≠ .boolean) := ⟨Nat.lt_of_lt_of_le (Nat.lt_succ_self _) (Nat.le_of_ble_eq_true rfl), ⟨fun h => (by cases h), fun h => (by cases h)⟩⟩
theorem fp_11_2 : (TX11 2).2.2.2 = false ∧ parseFieldDescriptor (TX11 2).2.2.1 = some (tyX11 2) := ⟨rfl, tyX11_ok 2 fi_11_2.1⟩
theorem fi_11_3 : 3 < 13 ∧ (fty 11 3 ≠ .int ∧ fty 11 3 ≠ .boolean) := ⟨Nat.lt_of_lt_of_le (Nat.lt_succ_self _) (Nat.le_of_ble_eq_true rfl), ⟨fun h => (by cases h), fun h => (by cases h)⟩⟩
theorem fi_11_4 : 4 < 13 ∧ (fty 11 4 = .int ∨ fty 11 4 = .boolean) := ⟨Nat.lt_of_lt_of_le (Nat.lt_succ_self _) (Nat.le_of_ble_eq_true rfl), Or.inl rfl⟩
theorem fp_11_4 : (TX11 4).2.2.2 = false ∧ parseFieldDescriptor (TX11 4).2.2.1 = some (tyX11 4) := ⟨rfl, tyX11_ok 4 fi_11_4.1⟩
theorem fi_11_5 : 5 < 13 ∧ (fty 11 5 ≠ .int ∧ fty 11 5 ≠ .boolean) := ⟨Nat.lt_of_lt_of_le (Nat.lt_succ_self _) (Nat.le_of_ble_eq_true rfl), ⟨fun h => (by cases h), fun h => (by cases h)⟩⟩
theorem fi_11_6 : 6 < 13 ∧ (fty 11 6 ≠ .int ∧ fty 11 6 ≠ .boolean) := ⟨Nat.lt_of_lt_of_le (Nat.lt_succ_self _) (Nat.le_of_ble_eq_true rfl), ⟨fun h => (by cases h), fun h => (by cases h)⟩⟩
theorem fi_11_7 : 7 < 13 ∧ (fty 11 7 ≠ .int ∧ fty 11 7 ≠ .boolean) := ⟨Nat.lt_of_lt_of_le (Nat.lt_succ_self _) (Nat.le_of_ble_eq_true rfl), ⟨fun h => (by cases h), fun h => (by cases h)⟩⟩
theorem fi_11_8 : 8 < 13 ∧ (fty 11 8 ≠ .int ∧ fty 11 8 ≠ .boolean) := ⟨Nat.lt_of_lt_of_le (Nat.lt_succ_self _) (Nat.le_of_ble_eq_true rfl), ⟨fun h => (by cases h), fun h => (by cases h)⟩⟩
theorem fi_11_9 : 9 < 13 ∧ (fty 11 9 = .int ∨ fty 11 9 = .boolean) := ⟨Nat.lt_of_lt_of_le (Nat.lt_succ_self _) (Nat.le_of_ble_eq_true rfl), Or.inl rfl⟩
theorem fp_11_9 : (TX11 9).2.2.2 = false ∧ parseFieldDescriptor (TX11 9).2.2.1 = some (tyX11 9) := ⟨rfl, tyX11_ok 9 fi_11_9.1⟩
theorem fi_11_10 : 10 < 13 ∧ (fty 11 10 ≠ .int ∧ fty 11 10 ≠ .boolean) := ⟨Nat.lt_of_lt_of_le (Nat.lt_succ_self _) (Nat.le_of_ble_eq_true rfl), ⟨fun h => (by cases h), fun h => (by cases h)⟩⟩
theorem fi_11_11 : 11 < 13 ∧ (fty 11 11 ≠ .int ∧ fty 11 11 ≠ .boolean) := ⟨Nat.lt_of_lt_of_le (Nat.lt_succ_self _) (Nat.le_of_ble_eq_true rfl), ⟨fun h => (by cases h), fun h => (by cases h)⟩⟩
theorem fi_11_12 : 12 < 13 ∧ (fty 11 12 ≠ .int ∧ fty 11 12 ≠ .boolean) := ⟨Nat.lt_of_lt_of_le (Nat.lt_succ_self _) (Nat.le_of_ble_eq_true rfl), ⟨fun h => (by cases h), fun h => (by cases h)⟩⟩
theorem cls12 : clsOk 12 RX12 TX12 69 := ⟨by decide, rfl, inX12, rfl⟩
theorem ct12 : clsTy TX12 69 tyX12 := ⟨tyX12_ok, nmX12⟩
theorem fi_12_0 : 0 < 69 ∧ (fty 12 0 = .int ∨ fty 12 0 = .boolean) := ⟨Nat.lt_of_lt_of_le (Nat.lt_succ_self _) (Nat.le_of_ble_eq_true rfl), Or.inl rfl⟩
theorem fp_12_0 : (TX12 0).2.2.2 = false ∧ parseFieldDescriptor (TX12 0).2.2.1 = some (tyX12 0) := ⟨rfl, tyX12_ok 0 fi_12_0.1⟩
theorem fi_12_1 : 1 < 69 ∧ (fty 12 1 ≠ .int ∧ fty 12 1 ≠ .boolean) := ⟨Nat.lt_of_lt_of_le (Nat.lt_succ_self _) (Nat.le_of_ble_eq_true rfl), ⟨fun h => (by cases h), fun h => (by cases h)⟩⟩
theorem fi_12_2 : 2 < 69 ∧ (fty 12 2 = .int ∨ fty 12 2 = .boolean) := ⟨Nat.lt_of_lt_of_le (Nat.lt_succ_self _) (Nat.le_of_ble_eq_true rfl), Or.inl rfl⟩
theorem fp_12_2 : (TX12 2).2.2.2 = false ∧ parseFieldDescriptor (TX12 2).2.2.1 = some (tyX12 2) := ⟨rfl, tyX12_ok 2 fi_12_2.1⟩
theorem fi_12_3 : 3 < 69 ∧ (fty 12 3 ≠ .int ∧ fty 12 3 ≠ .boolean) := ⟨Nat.lt_of_lt_of_le (Nat.lt_succ_self _) (Nat.le_of_ble_eq_true rfl), ⟨fun h => (by cases h), fun h => (by cases h)⟩⟩
theorem fi_12_4 : 4 < 69 ∧ (fty 12 4 = .int ∨ fty 12 4 = .boolean) := ⟨Nat.lt_of_lt_of_le (Nat.lt_succ_self _) (Nat.le_of_ble_eq_true rfl), Or.inl rfl⟩
theorem fp_12_4 : (TX12 4).2.2.2 = false ∧ parseFieldDescriptor (TX12 4).2.2.1 = some (tyX12 4) := ⟨rfl, tyX12_ok 4 fi_12_4.1⟩
theorem fi_12_5 : 5 < 69 ∧ (fty 12 5 ≠ .int ∧ fty 12 5 ≠ .boolean) := ⟨Nat.lt_of_lt_of_le (Nat.lt_succ_self _) (Nat.le_of_ble_eq_true rfl), ⟨fun h => (by cases h), fun h => (by cases h)⟩⟩
theorem fi_12_6 : 6 < 69 ∧ (fty 12 6 ≠ .int ∧ fty 12 6 ≠ .boolean) := ⟨Nat.lt_of_lt_of_le (Nat.lt_succ_self _) (Nat.le_of_ble_eq_true rfl), ⟨fun h => (by cases h), fun h => (by cases h)⟩⟩
theorem fi_12_7 : 7 < 69 ∧ (fty 12 7 ≠ .int ∧ fty 12 7 ≠ .boolean) := ⟨Nat.lt_of_lt_of_le (Nat.lt_succ_self _) (Nat.le_of_ble_eq_true rfl), ⟨fun h => (by cases h), fun h => (by cases h)⟩⟩
theorem fi_12_8 : 8 < 69 ∧ (fty 12 8 ≠ .int ∧ fty 12 8 ≠ .boolean) := ⟨Nat.lt_of_lt_of_le (Nat.lt_succ_self _) (Nat.le_of_ble_eq_true rfl), ⟨fun h => (by cases h), fun h => (by cases h)⟩⟩
theorem fi_12_9 : 9 < 69 ∧ (fty 12 9 ≠ .int ∧ fty 12 9 ≠ .boolean) := ⟨Nat.lt_of_lt_of_le (Nat.lt_succ_self _) (Nat.le_of_ble_eq_true rfl), ⟨fun h => (by cases h), fun h => (by cases h)⟩⟩
theorem fi_12_10 : 10 < 69 ∧ (fty 12 10 = .int ∨ fty 12 10 = .boolean) := ⟨Nat.lt_of_lt_of_le (Nat.lt_succ_self _) (Nat.le_of_ble_eq_true rfl), Or.inl rfl⟩
theorem fp_12_10 : (TX12 10).2.2.2 = false ∧ parseFieldDescriptor (TX12 10).2.2.1 = some (tyX12 10) := ⟨rfl, tyX12_ok 10 fi_12_10.1⟩
theorem fi_12_11 : 11 < 69 ∧ (fty 12 11 = .int ∨ fty 12 11 = .boolean) := ⟨Nat.lt_of_lt_of_le (Nat.lt_succ_self _) (Nat.le_of_ble_eq_true rfl), Or.inl rfl⟩
theorem fp_12_11 : (TX12 11).2.2.2 = false ∧ parseFieldDescriptor (TX12 11).2.2.1 = some (tyX12 11) := ⟨rfl, tyX12_ok 11 fi_12_11.1⟩
theorem fi_12_12 : 12 < 69 ∧ (fty 12 12 = .int ∨ fty 12 12 = .boolean) := ⟨Nat.lt_of_lt_of_le (Nat.lt_succ_self _) (Nat.le_of_ble_eq_true rfl), Or.inl rfl⟩
theorem fp_12_12 : (TX12 12).2.2.2 = false ∧ parseFieldDescriptor (TX12 12).2.2.1 = some (tyX12 12) := ⟨rfl, tyX12_ok 12 fi_12_12.1⟩
theorem fi_12_13 : 13 < 69 ∧ (fty 12 13 = .int ∨ fty 12 13 = .boolean) := ⟨Nat.lt_of_lt_of_le (Nat.lt_succ_self _) (Nat.le_of_ble_eq_true rfl), Or.inl rfl⟩
theorem fp_12_13 : (TX12 13).2.2.2 = false ∧ parseFieldDescriptor (TX12 13).2.2.1 = some (tyX12 13) := ⟨rfl, tyX12_ok 13 fi_12_13.1⟩
theorem fi_12_14 : 14 < 69 ∧ (fty 12 14 = .int ∨ fty 12 14 = .boolean) := ⟨Nat.lt_of_lt_of_le (Nat.lt_succ_self _) (Nat.le_of_ble_eq_true rfl), Or.inl rfl⟩
theorem fp_12_14 : (TX12 14).2.2.2 = false ∧ parseFieldDescriptor (TX12 14).2.2.1 = some (tyX12 14) := ⟨rfl, tyX12_ok 14 fi_12_14.1⟩
theorem fi_12_15 : 15 < 69 ∧ (fty 12 15 = .int ∨ fty 12 15 = .boolean) := ⟨Nat.lt_of_lt_of_le (Nat.lt_succ_self _) (Nat.le_of_ble_eq_true rfl), Or.inl rfl⟩
theorem fp_12_15 : (TX12 15).2.2.2 = false ∧ parseFieldDescriptor (TX12 15).2.2.1 = some (tyX12 15) := ⟨rfl, tyX12_ok 15 fi_12_15.1⟩
theorem fi_12_16 : 16 < 69 ∧ (fty 12 16 = .int ∨ fty 12 16 = .boolean) := ⟨Nat.lt_of_lt_of_le (Nat.lt_succ_self _) (Nat.le_of_ble_eq_true rfl), Or.inl rfl⟩
theorem fp_12_16 : (TX12 16).2.2.2 = false ∧ parseFieldDescriptor (TX12 16).2.2.1 = some (tyX12 16) := ⟨rfl, tyX12_ok 16 fi_12_16.1⟩
theorem fi_12_17 : 17 < 69 ∧ (fty 12 17 = .int ∨ fty 12 17 = .boolean) := ⟨Nat.lt_of_lt_of_le (Nat.lt_succ_self _) (Nat.le_of_ble_eq_true rfl), Or.inl rfl⟩
theorem fp_12_17 : (TX12 17).2.2.2 = false ∧ parseFieldDescriptor (TX12 17).2.2.1 = some (tyX12 17) := ⟨rfl, tyX12_ok 17 fi_12_17.1⟩
theorem fi_12_18 : 18 < 69 ∧ (fty 12 18 = .int ∨ fty 12 18 = .boolean) := ⟨Nat.lt_of_lt_of_le (Nat.lt_succ_self _) (Nat.le_of_ble_eq_true rfl), Or.inl rfl⟩
theorem fp_12_18 : (TX12 18).2.2.2 = false ∧ parseFieldDescriptor (TX12 18).2.2.1 = some (tyX12 18) := ⟨rfl, tyX12_ok 18 fi_12_18.1⟩
theorem fi_12_19 : 19 < 69 ∧ (fty 12 19 = .int ∨ fty 12 19 = .boolean) := ⟨Nat.lt_of_lt_of_le (Nat.lt_succ_self _) (Nat.le_of_ble_eq_true rfl), Or.inl rfl⟩
theorem fp_12_19 : (TX12 19).2.2.2 = false ∧ parseFieldDescriptor (TX12 19).2.2.1 = some (tyX12 19) := ⟨rfl, tyX12_ok 19 fi_12_19.1⟩
theorem fi_12_20 : 20 < 69 ∧ (fty 12 20 = .int ∨ fty 12 20 = .boolean) := ⟨Nat.lt_of_lt_of_le (Nat.lt_succ_self _) (Nat.le_of_ble_eq_true rfl), Or.inl rfl⟩
theorem fp_12_20 : (TX12 20).2.2.2 = false ∧ parseFieldDescriptor (TX12 20).2.2.1 = some (tyX12 20) := ⟨rfl, tyX12_ok 20 fi_12_20.1⟩
theorem fi_12_21 : 21 < 69 ∧ (fty 12 21 ≠ .int ∧ fty 12 21 ≠ .boolean) := ⟨Nat.lt_of_lt_of_le (Nat.lt_succ_self _) (Nat.le_of_ble_eq_true rfl), ⟨fun h => (by cases h), fun h => (by cases h)⟩⟩
theorem fi_12_22 : 22 < 69 ∧ (fty 12 22 ≠ .int ∧ fty 12 22 ≠ .boolean) := ⟨Nat.lt_of_lt_of_le (Nat.lt_succ_self _) (Nat.le_of_ble_eq_true rfl), ⟨fun h => (by cases h), fun h => (by cases h)⟩⟩
theorem fi_12_23 : 23 < 69 ∧ (fty 12 23 ≠ .int ∧ fty 12 23 ≠ .boolean) := ⟨Nat.lt_of_lt_of_le (Nat.lt_succ_self _) (Nat.le_of_ble_eq_true rfl), ⟨fun h => (by cases h), fun h => (by cases h)⟩⟩
theorem fi_12_24 : 24 < 69 ∧ (fty 12 24 ≠ .int ∧ fty 12 24 ≠ .boolean) := ⟨Nat.lt_of_lt_of_le (Nat.lt_succ_self _) (Nat.le_of_ble_eq_true rfl), ⟨fun h => (by cases h), fun h => (by cases h)⟩⟩
theorem fi_12_25 : 25 < 69 ∧ (fty 12 25 ≠ .int ∧ fty 12 25 ≠ .boolean) := ⟨Nat.lt_of_lt_of_le (Nat.lt_succ_self _) (Nat.le_of_ble_eq_true rfl), ⟨fun h => (by cases h), fun h => (by cases h)⟩⟩
theorem fi_12_26 : 26 < 69 ∧ (fty 12 26 ≠ .int ∧ fty 12 26 ≠ .boolean) := ⟨Nat.lt_of_lt_of_le (Nat.lt_succ_self _) (Nat.le_of_ble_eq_true rfl), ⟨fun h => (by cases h), fun h => (by cases h)⟩⟩
theorem fi_12_27 : 27 < 69 ∧ (fty 12 27 ≠ .int ∧ fty 12 27 ≠ .boolean) := ⟨Nat.lt_of_lt_of_le (Nat.lt_succ_self _) (Nat.le_of_ble_eq_true rfl), ⟨fun h => (by cases h), fun h => (by cases h)⟩⟩
theorem fi_12_28 : 28 < 69 ∧ (fty 12 28 ≠ .int ∧ fty 12 28 ≠ .boolean) := ⟨Nat.lt_of_lt_of_le (Nat.lt_succ_self _) (Nat.le_of_ble_eq_true rfl), ⟨fun h => (by cases h), fun h => (by cases h)⟩⟩
theorem fi_12_29 : 29 < 69 ∧ (fty 12 29 ≠ .int ∧ fty 12 29 ≠ .boolean) := ⟨Nat.lt_of_lt_of_le (Nat.lt_succ_self _) (Nat.le_of_ble_eq_true rfl), ⟨fun h => (by cases h), fun h => (by cases h)⟩⟩
theorem fi_12_30 : 30 < 69 ∧ (fty 12 30 ≠ .int ∧ fty 12 30 ≠ .boolean) := ⟨Nat.lt_of_lt_of_le (Nat.lt_succ_self _) (Nat.le_of_ble_eq_true rfl), ⟨fun h => (by cases h), fun h => (by cases h)⟩⟩
theorem fi_12_31 : 31 < 69 ∧ (fty 12 31 ≠ .int ∧ fty 12 31 ≠ .boolean) := ⟨Nat.lt_of_lt_of_le (Nat.lt_succ_self _) (Nat.le_of_ble_eq_true rfl), ⟨fun h => (by cases h), fun h => (by cases h)⟩⟩
theorem fi_12_32 : 32 < 69 ∧ (fty 12 32 ≠ .int ∧ fty 12 32 ≠ .boolean) := ⟨Nat.lt_of_lt_of_le (Nat.lt_succ_self _) (Nat.le_of_ble_eq_true rfl), ⟨fun h => (by cases h), fun h => (by cases h)⟩⟩
theorem fi_12_33 : 33 < 69 ∧ (fty 12 33 ≠ .int ∧ fty 12 33 ≠ .boolean) := ⟨Nat.lt_of_lt_of_le (Nat.lt_succ_self _) (Nat.le_of_ble_eq_true rfl), ⟨fun h => (by cases h), fun h => (by cases h)⟩⟩
theorem fi_12_34 : 34 < 69 ∧ (fty 12 34 ≠ .int ∧ fty 12 34 ≠ .boolean) := ⟨Nat.lt_of_lt_of_le (Nat.lt_succ_self _) (Nat.le_of_ble_eq_true rfl), ⟨fun h => (by cases h), fun h => (by cases h)⟩⟩
theorem fi_12_35 : 35 < 69 ∧ (fty 12 35 ≠ .int ∧ fty 12 35 ≠ .boolean) := ⟨Nat.lt_of_lt_of_le (Nat.lt_succ_self _) (Nat.le_of_ble_eq_true rfl), ⟨fun h => (by cases h), fun h => (by cases h)⟩⟩
theorem fi_12_36 : 36 < 69 ∧ (fty 12 36 ≠ .int ∧ fty 12 36 ≠ .boolean) := ⟨Nat.lt_of_lt_of_le (Nat.lt_succ_self _) (Nat.le_of_ble_eq_true rfl), ⟨fun h => (by cases h), fun h => (by cases h)⟩⟩
theorem fi_12_37 : 37 < 69 ∧ (fty 12 37 ≠ .int ∧ fty 12 37 ≠ .boolean) := ⟨Nat.lt_of_lt_of_le (Nat.lt_succ_self _) (Nat.le_of_ble_eq_true rfl), ⟨fun h => (by cases h), fun h => (by cases h)⟩⟩
theorem fi_12_38 : 38 < 69 ∧ (fty 12 38 = .int ∨ fty 12 38 = .boolean) := ⟨Nat.lt_of_lt_of_le (Nat.lt_succ_self _) (Nat.le_of_ble_eq_true rfl), Or.inl rfl⟩
theorem fp_12_38 : (TX12 38).2.2.2 = false ∧ parseFieldDescriptor (TX12 38).2.2.1 = some (tyX12 38) := ⟨rfl, tyX12_ok 38 fi_12_38.1⟩
theorem fi_12_39 : 39 < 69 ∧ (fty 12 39 ≠ .int ∧ fty 12 39 ≠ .boolean) := ⟨Nat.lt_of_lt_of_le (Nat.lt_succ_self _) (Nat.le_of_ble_eq_true rfl), ⟨fun h => (by cases h), fun h => (by cases h)⟩⟩
theorem fi_12_40 : 40 < 69 ∧ (fty 12 40 ≠ .int ∧ fty 12 40 ≠ .boolean) := ⟨Nat.lt_of_lt_of_le (Nat.lt_succ_self _) (Nat.le_of_ble_eq_true rfl), ⟨fun h => (by cases h), fun h => (by cases h)⟩⟩
theorem fi_12_41 : 41 < 69 ∧ (fty 12 41 ≠ .int ∧ fty 12 41 ≠ .boolean) := ⟨Nat.lt_of_lt_of_le (Nat.lt_succ_self _) (Nat.le_of_ble_eq_true rfl), ⟨fun h => (by cases h), fun h => (by cases h)⟩⟩
theorem fi_12_42 : 42 < 69 ∧ (fty 12 42 ≠ .int ∧ fty 12 42 ≠ .boolean) := ⟨Nat.lt_of_lt_of_le (Nat.lt_succ_self _) (Nat.le_of_ble_eq_true rfl), ⟨fun h => (by cases h), fun h => (by cases h)⟩⟩
theorem fi_12_43 : 43 < 69 ∧ (fty 12 43 ≠ .int ∧ fty 12 43 ≠ .boolean) := ⟨Nat.lt_of_lt_of_le (Nat.lt_succ_self _) (Nat.le_of_ble_eq_true rfl), ⟨fun h => (by cases h), fun h => (by cases h)⟩⟩
theorem fi_12_44 : 44 < 69 ∧ (fty 12 44 = .int ∨ fty 12 44 = .boolean) := ⟨Nat.lt_of_lt_of_le (Nat.lt_succ_self _) (Nat.le_of_ble_eq_true rfl), Or.inl rfl⟩
theorem fp_12_44 : (TX12 44).2.2.2 = false ∧ parseFieldDescriptor (TX12 44).2.2.1 = some (tyX12 44) := ⟨rfl, tyX12_ok 44 fi_12_44.1⟩
theorem fi_12_45 : 45 < 69 ∧ (fty 12 45 ≠ .int ∧ fty 12 45 ≠ .boolean) := ⟨Nat.lt_of_lt_of_le (Nat.lt_succ_self _) (Nat.le_of_ble_eq_true rfl), ⟨fun h => (by cases h), fun h => (by cases h)⟩⟩
theorem fi_12_46 : 46 < 69 ∧ (fty 12 46 ≠ .int ∧ fty 12 46 ≠ .boolean) := ⟨Nat.lt_of_lt_of_le (Nat.lt_succ_self _) (Nat.le_of_ble_eq_true rfl), ⟨fun h => (by cases h), fun h => (by cases h)⟩⟩
theorem fi_12_47 : 47 < 69 ∧ (fty 12 47 ≠ .int ∧ fty 12 47 ≠ .boolean) := ⟨Nat.lt_of_lt_of_le (Nat.lt_succ_self _) (Nat.le_of_ble_eq_true rfl), ⟨fun h => (by cases h), fun h => (by cases h)⟩⟩
theorem fi_12_48 : 48 < 69 ∧ (fty 12 48 = .int ∨ fty 12 48 = .boolean) := ⟨Nat.lt_of_lt_of_le (Nat.lt_succ_self _) (Nat.le_of_ble_eq_true rfl), Or.inl rfl⟩
theorem fp_12_48 : (TX12 48).2.2.2 = false ∧ parseFieldDescriptor (TX12 48).2.2.1 = some (tyX12 48) := ⟨rfl, tyX12_ok 48 fi_12_48.1⟩
theorem fi_12_49 : 49 < 69 ∧ (fty 12 49 ≠ .int ∧ fty 12 49 ≠ .boolean) := ⟨Nat.lt_of_lt_of_le (Nat.lt_succ_self _) (Nat.le_of_ble_eq_true rfl), ⟨fun h => (by cases h), fun h => (by cases h)⟩⟩
theorem fi_12_50 : 50 < 69 ∧ (fty 12 50 ≠ .int ∧ fty 12 50 ≠ .boolean) := ⟨Nat.lt_of_lt_of_le (Nat.lt_succ_self _) (Nat.le_of_ble_eq_true rfl), ⟨fun h => (by cases h), fun h => (by cases h)⟩⟩
theorem fi_12_51 : 51 < 69 ∧ (fty 12 51 = .int ∨ fty 12 51 = .boolean) := ⟨Nat.lt_of_lt_of_le (Nat.lt_succ_self _) (Nat.le_of_ble_eq_true rfl), Or.inr rfl⟩
theorem fp_12_51 : (TX12 51).2.2.2 = false ∧ parseFieldDescriptor (TX12 51).2.2.1 = some (tyX12 51) := ⟨rfl, tyX12_ok 51 fi_12_51.1⟩
theorem fi_12_52 : 52 < 69 ∧ (fty 12 52 ≠ .int ∧ fty 12 52 ≠ .boolean) := ⟨Nat.lt_of_lt_of_le (Nat.lt_succ_self _) (Nat.le_of_ble_eq_true rfl), ⟨fun h => (by cases h), fun h => (by cases h)⟩⟩
theorem fi_12_53 : 53 < 69 ∧ (fty 12 53 ≠ .int ∧ fty 12 53 ≠ .boolean) := ⟨Nat.lt_of_lt_of_le (Nat.lt_succ_self _) (Nat.le_of_ble_eq_true rfl), ⟨fun h => (by cases h), fun h => (by cases h)⟩⟩
theorem fi_12_54 : 54 < 69 ∧ (fty 12 54 ≠ .int ∧ fty 12 54 ≠ .boolean) := ⟨Nat.lt_of_lt_of_le (Nat.lt_succ_self _) (Nat.le_of_ble_eq_true rfl), ⟨fun h => (by cases h), fun h => (by cases h)⟩⟩
theorem fi_12_55 : 55 < 69 ∧ (fty 12 55 = .int ∨ fty 12 55 = .boolean) := ⟨Nat.lt_of_lt_of_le (Nat.lt_succ_self _) (Nat.le_of_ble_eq_true rfl), Or.inl rfl⟩
theorem fp_12_55 : (TX12 55).2.2.2 = false ∧ parseFieldDescriptor (TX12 55).2.2.1 = some (tyX12 55) := ⟨rfl, tyX12_ok 55 fi_12_55.1⟩
theorem fi_12_56 : 56 < 69 ∧ (fty 12 56 = .int ∨ fty 12 56 = .boolean) := ⟨Nat.lt_of_lt_of_le (Nat.lt_succ_self _) (Nat.le_of_ble_eq_true rfl), Or.inl rfl⟩
theorem fp_12_56 : (TX12 56).2.2.2 = false ∧ parseFieldDescriptor (TX12 56).2.2.1 = some (tyX12 56) := ⟨rfl, tyX12_ok 56 fi_12_56.1⟩
theorem fi_12_57 : 57 < 69 ∧ (fty 12 57 = .int ∨ fty 12 57 = .boolean) := ⟨Nat.lt_of_lt_of_le (Nat.lt_succ_self _) (Nat.le_of_ble_eq_true rfl), Or.inl rfl⟩
theorem fp_12_57 : (TX12 57).2.2.2 = false ∧ parseFieldDescriptor (TX12 57).2.2.1 = some (tyX12 57) := ⟨rfl, tyX12_ok 57 fi_12_57.1⟩
theorem fi_12_58 : 58 < 69 ∧ (fty 12 58 ≠ .int ∧ fty 12 58 ≠ .boolean) := ⟨Nat.lt_of_lt_of_le (Nat.lt_succ_self _) (Nat.le_of_ble_eq_true rfl), ⟨fun h => (by cases h), fun h => (by cases h)⟩⟩
theorem fi_12_59 : 59 < 69 ∧ (fty 12 59 ≠ .int ∧ fty 12 59 ≠ .boolean) := ⟨Nat.lt_of_lt_of_le (Nat.lt_succ_self _) (Nat.le_of_ble_eq_true rfl), ⟨fun h => (by cases h), fun h => (by cases h)⟩⟩
theorem fi_12_60 : 60 < 69 ∧ (fty 12 60 ≠ .int ∧ fty 12 60 ≠ .boolean) := ⟨Nat.lt_of_lt_of_le (Nat.lt_succ_self _) (Nat.le_of_ble_eq_true rfl), ⟨fun h => (by cases h), fun h => (by cases h)⟩⟩
theorem fi_12_61 : 61 < 69 ∧ (fty 12 61 ≠ .int ∧ fty 12 61 ≠ .boolean) := ⟨Nat.lt_of_lt_of_le (Nat.lt_succ_self _) (Nat.le_of_ble_eq_true rfl), ⟨fun h => (by cases h), fun h => (by cases h)⟩⟩
theorem fi_12_62 : 62 < 69 ∧ (fty 12 62 = .int ∨ fty 12 62 = .boolean) := ⟨Nat.lt_of_lt_of_le (Nat.lt_succ_self _) (Nat.le_of_ble_eq_true rfl), Or.inl rfl⟩
theorem fp_12_62 : (TX12 62).2.2.2 = false ∧ parseFieldDescriptor (TX12 62).2.2.1 = some (tyX12 62) := ⟨rfl, tyX12_ok 62 fi_12_62.1⟩
theorem fi_12_63 : 63 < 69 ∧ (fty 12 63 = .int ∨ fty 12 63 = .boolean) := ⟨Nat.lt_of_lt_of_le (Nat.lt_succ_self _) (Nat.le_of_ble_eq_true rfl), Or.inl rfl⟩
theorem fp_12_63 : (TX12 63).2.2.2 = false ∧ parseFieldDescriptor (TX12 63).2.2.1 = some (tyX12 63) := ⟨rfl, tyX12_ok 63 fi_12_63.1⟩
theorem fi_12_64 : 64 < 69 ∧ (fty 12 64 ≠ .int ∧ fty 12 64 ≠ .boolean) := ⟨Nat.lt_of_lt_of_le (Nat.lt_succ_self _) (Nat.le_of_ble_eq_true rfl), ⟨fun h => (by cases h), fun h => (by cases h)⟩⟩
theorem fi_12_65 : 65 < 69 ∧ (fty 12 65 ≠ .int ∧ fty 12 65 ≠ .boolean) := ⟨Nat.lt_of_lt_of_le (Nat.lt_succ_self _) (Nat.le_of_ble_eq_true rfl), ⟨fun h => (by cases h), fun h => (by cases h)⟩⟩
theorem fi_12_66 : 66 < 69 ∧ (fty 12 66 ≠ .int ∧ fty 12 66 ≠ .boolean) := ⟨Nat.lt_of_lt_of_le (Nat.lt_succ_self _) (Nat.le_of_ble_eq_true rfl), ⟨fun h => (by cases h), fun h => (by cases h)⟩⟩
theorem fi_12_67 : 67 < 69 ∧ (fty 12 67 ≠ .int ∧ fty 12 67 ≠ .boolean) := ⟨Nat.lt_of_lt_of_le (Nat.lt_succ_self _) (Nat.le_of_ble_eq_true rfl), ⟨fun h => (by cases h), fun h => (by cases h)⟩⟩
theorem fi_12_68 : 68 < 69 ∧ (fty 12 68 ≠ .int ∧ fty 12 68 ≠ .boolean) := ⟨Nat.lt_of_lt_of_le (Nat.lt_succ_self _) (Nat.le_of_ble_eq_true rfl), ⟨fun h => (by cases h), fun h => (by cases h)⟩⟩
