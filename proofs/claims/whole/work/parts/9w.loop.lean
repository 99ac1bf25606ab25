/-! ===== PURE 87: the law's loop ===== -/
theorem Rr_mono {b b' : Nat} {σ τ : hSt} (h : Rr b σ τ) (hb : b ≤ b') : Rr b' σ τ := by
  obtain ⟨t, li, D, h1, h2, h3, h4, h5⟩ := h
  exact ⟨t, li, D, h1, h2, h3, h4, Rst_mono h5 hb⟩
set_option maxHeartbeats 4000000 in
theorem law_step {xs : Nat → Int32} {L q b : Nat} {σ τ : hSt} (hL : L ≤ 3072) (hq : q + 6 ≤ L) (hb : b + 300 < 2 ^ 30) (h : Rr b σ τ) : ∃ σ' τ', F_law_18 xs L (nI q) σ τ = some (.inl (nI (q + 6), σ', τ')) ∧ Rr (b + 100) σ' τ' := by
  have g0 : inb (nI q) L = true := inb_nI (by omega) (by omega)
  have g1 : inb (nI q + (1 : Int32)) L = true := by rw [show (1 : Int32) = nI 1 from rfl, nI_add]; exact inb_nI (by omega) (by omega)
  have g2 : inb (nI q + (2 : Int32)) L = true := by rw [show (2 : Int32) = nI 2 from rfl, nI_add]; exact inb_nI (by omega) (by omega)
  have g3 : inb (nI q + (3 : Int32)) L = true := by rw [show (3 : Int32) = nI 3 from rfl, nI_add]; exact inb_nI (by omega) (by omega)
  have g4 : inb (nI q + (4 : Int32)) L = true := by rw [show (4 : Int32) = nI 4 from rfl, nI_add]; exact inb_nI (by omega) (by omega)
  have g5 : inb (nI q + (5 : Int32)) L = true := by rw [show (5 : Int32) = nI 5 from rfl, nI_add]; exact inb_nI (by omega) (by omega)
  have n6 : nI q + (6 : Int32) = nI (q + 6) := by rw [show (6 : Int32) = nI 6 from rfl, nI_add]
  have hlt : ¬ (Int32.ofNat L) - (6 : Int32) < nI q := by
    rw [Int32.lt_iff_toInt_lt, nI_toInt (by omega), show ((Int32.ofNat L) - (6 : Int32)).toInt = (L : Int) - 6 from pk_sub_toInt (a := L) (b := 6) (by omega) (by decide)]
    omega
  unfold F_law_18
  rw [if_neg hlt, cG_t g0, cL_e]
  generalize (xs (nI q).toNatClampNeg) &&& (31 : Int32) = v0
  by_cases c0 : v0 = (0 : Int32)
  · rw [if_pos c0]
    obtain ⟨v, σ', τ', e1, e2, r⟩ := feed_eq (w1 := xs (nI q + (1 : Int32)).toNatClampNeg) (w2 := xs (nI q + (2 : Int32)).toNatClampNeg) (w3 := xs (nI q + (3 : Int32)).toNatClampNeg) (w4 := xs (nI q + (4 : Int32)).toNatClampNeg) (w5 := xs (nI q + (5 : Int32)).toNatClampNeg) h
    exact ⟨σ', τ', by rw [cG_t g1, cG_t g2, cG_t g3, cG_t g4, cG_t g5, cC_t e1, cG_t g1, cG_t g2, cG_t g3, cG_t g4, cG_t g5, cC_t e2, if_pos rfl, cL_e, n6], Rr_mono r (by omega)⟩
  rw [if_neg c0]
  by_cases c1 : v0 = (1 : Int32)
  · rw [if_pos c1]
    obtain ⟨v, σ', τ', e1, e2, r⟩ := back_eq (w := xs (nI q + (1 : Int32)).toNatClampNeg) h
    exact ⟨σ', τ', by rw [cG_t g1, cC_t e1, cG_t g1, cC_t e2, if_pos rfl, cL_e, n6], Rr_mono r (by omega)⟩
  rw [if_neg c1]
  by_cases c2 : v0 = (2 : Int32)
  · rw [if_pos c2]
    obtain ⟨v, σ', τ', e1, e2, r⟩ := read_eq  h
    exact ⟨σ', τ', by rw [cC_t e1, cC_t e2, if_pos rfl, cL_e, n6], Rr_mono r (by omega)⟩
  rw [if_neg c2]
  by_cases c3 : v0 = (3 : Int32)
  · rw [if_pos c3]
    obtain ⟨v, e1, e2⟩ := place_eq  h
    exact ⟨σ, τ, by rw [e1, Option.bind_some, e2, Option.bind_some, if_pos rfl, cL_e, n6], Rr_mono h (by omega)⟩
  rw [if_neg c3]
  by_cases c4 : v0 = (4 : Int32)
  · rw [if_pos c4]
    obtain ⟨v, σ', τ', e1, e2, r⟩ := hears_eq (x := xs (nI q + (1 : Int32)).toNatClampNeg) (y := xs (nI q + (2 : Int32)).toNatClampNeg) (z := xs (nI q + (3 : Int32)).toNatClampNeg) h
    exact ⟨σ', τ', by rw [cG_t g1, cG_t g2, cG_t g3, cC_t e1, cG_t g1, cG_t g2, cG_t g3, cC_t e2, if_pos rfl, cL_e, n6], Rr_mono r (by omega)⟩
  rw [if_neg c4]
  by_cases c5 : v0 = (5 : Int32)
  · rw [if_pos c5]
    obtain ⟨v, e1, e2⟩ := news_ans (x := xs (nI q + (1 : Int32)).toNatClampNeg) (y := xs (nI q + (2 : Int32)).toNatClampNeg) (z := xs (nI q + (3 : Int32)).toNatClampNeg) h
    exact ⟨σ, τ, by rw [cG_t g1, cG_t g2, cG_t g3, e1, Option.bind_some, cG_t g1, cG_t g2, cG_t g3, e2, Option.bind_some, if_pos rfl, cL_e, n6], Rr_mono h (by omega)⟩
  rw [if_neg c5]
  by_cases c6 : v0 = (6 : Int32)
  · rw [if_pos c6]
    by_cases z : xs (nI q + (3 : Int32)).toNatClampNeg = 0
    · obtain ⟨v, σ', τ', e1, e2, r⟩ := drum_eq (x := xs (nI q + (1 : Int32)).toNatClampNeg) (y := xs (nI q + (2 : Int32)).toNatClampNeg) (c := 0) (by decide) (by omega) h
      have e1' : F_X11_drum 0 (xs (nI q + (1 : Int32)).toNatClampNeg) (xs (nI q + (2 : Int32)).toNatClampNeg) (0 : Int32) σ = some (v, σ') := e1
      have e2' : F_X12_drum 0 (xs (nI q + (1 : Int32)).toNatClampNeg) (xs (nI q + (2 : Int32)).toNatClampNeg) (0 : Int32) τ = some (v, τ') := e2
      exact ⟨σ', τ', by rw [cG_t g1, cG_t g2, cG_t g3, if_pos z, cC_t e1', cG_t g1, cG_t g2, cG_t g3, if_pos z, cC_t e2', if_pos rfl, cL_e, n6], Rr_mono r (by omega)⟩
    · obtain ⟨v, σ', τ', e1, e2, r⟩ := drum_eq (x := xs (nI q + (1 : Int32)).toNatClampNeg) (y := xs (nI q + (2 : Int32)).toNatClampNeg) (c := 1) (by decide) (by omega) h
      have e1' : F_X11_drum 0 (xs (nI q + (1 : Int32)).toNatClampNeg) (xs (nI q + (2 : Int32)).toNatClampNeg) (1 : Int32) σ = some (v, σ') := e1
      have e2' : F_X12_drum 0 (xs (nI q + (1 : Int32)).toNatClampNeg) (xs (nI q + (2 : Int32)).toNatClampNeg) (1 : Int32) τ = some (v, τ') := e2
      exact ⟨σ', τ', by rw [cG_t g1, cG_t g2, cG_t g3, if_neg z, cC_t e1', cG_t g1, cG_t g2, cG_t g3, if_neg z, cC_t e2', if_pos rfl, cL_e, n6], Rr_mono r (by omega)⟩
  rw [if_neg c6]
  by_cases c7 : v0 = (7 : Int32)
  · rw [if_pos c7]
    by_cases z : xs (nI q + (3 : Int32)).toNatClampNeg = 0
    · obtain ⟨v, τ', e1, e2, r⟩ := may_eq (x := xs (nI q + (1 : Int32)).toNatClampNeg) (y := xs (nI q + (2 : Int32)).toNatClampNeg) (c := 0) (by decide) h
      have e1' : F_X11_may 0 (xs (nI q + (1 : Int32)).toNatClampNeg) (xs (nI q + (2 : Int32)).toNatClampNeg) (0 : Int32) σ = some v := e1
      have e2' : F_X12_may 0 (xs (nI q + (1 : Int32)).toNatClampNeg) (xs (nI q + (2 : Int32)).toNatClampNeg) (0 : Int32) τ = some (v, τ') := e2
      exact ⟨σ, τ', by rw [cG_t g1, cG_t g2, cG_t g3, if_pos z, e1', Option.bind_some, cG_t g1, cG_t g2, cG_t g3, if_pos z, cC_t e2', if_pos rfl, cL_e, n6], Rr_mono r (by omega)⟩
    · obtain ⟨v, τ', e1, e2, r⟩ := may_eq (x := xs (nI q + (1 : Int32)).toNatClampNeg) (y := xs (nI q + (2 : Int32)).toNatClampNeg) (c := 1) (by decide) h
      have e1' : F_X11_may 0 (xs (nI q + (1 : Int32)).toNatClampNeg) (xs (nI q + (2 : Int32)).toNatClampNeg) (1 : Int32) σ = some v := e1
      have e2' : F_X12_may 0 (xs (nI q + (1 : Int32)).toNatClampNeg) (xs (nI q + (2 : Int32)).toNatClampNeg) (1 : Int32) τ = some (v, τ') := e2
      exact ⟨σ, τ', by rw [cG_t g1, cG_t g2, cG_t g3, if_neg z, e1', Option.bind_some, cG_t g1, cG_t g2, cG_t g3, if_neg z, cC_t e2', if_pos rfl, cL_e, n6], Rr_mono r (by omega)⟩
  rw [if_neg c7]
  by_cases c8 : v0 = (8 : Int32)
  · rw [if_pos c8]
    obtain ⟨v, e1, e2⟩ := drummed_ans (x := xs (nI q + (1 : Int32)).toNatClampNeg) (y := xs (nI q + (2 : Int32)).toNatClampNeg) h
    exact ⟨σ, τ, by rw [cG_t g1, cG_t g2, e1, Option.bind_some, cG_t g1, cG_t g2, e2, Option.bind_some, if_pos rfl, cL_e, n6], Rr_mono h (by omega)⟩
  rw [if_neg c8]
  by_cases c9 : v0 = (9 : Int32)
  · rw [if_pos c9]
    obtain ⟨v, σ', τ', e1, e2, r⟩ := night_eq  (by omega) h
    exact ⟨σ', τ', by rw [cC_t e1, cC_t e2, if_pos rfl, cL_e, n6], Rr_mono r (by omega)⟩
  rw [if_neg c9]
  by_cases c10 : v0 = (10 : Int32)
  · rw [if_pos c10]
    obtain ⟨v, σ', τ', e1, e2, r⟩ := run_eq (x := xs (nI q + (1 : Int32)).toNatClampNeg) (by omega) h
    exact ⟨σ', τ', by rw [cG_t g1, cC_t e1, cG_t g1, cC_t e2, if_pos rfl, cL_e, n6], Rr_mono r (by omega)⟩
  rw [if_neg c10]
  by_cases c11 : v0 = (11 : Int32)
  · rw [if_pos c11]
    obtain ⟨v, σ', τ', e1, e2, r⟩ := undo_eq  h
    exact ⟨σ', τ', by rw [cC_t e1, cC_t e2, if_pos rfl, cL_e, n6], Rr_mono r (by omega)⟩
  rw [if_neg c11]
  by_cases c12 : v0 = (12 : Int32)
  · rw [if_pos c12]
    obtain ⟨v, σ', τ', e1, e2, r⟩ := byRule_eq (x := xs (nI q + (1 : Int32)).toNatClampNeg) (y := xs (nI q + (2 : Int32)).toNatClampNeg) (by omega) h
    exact ⟨σ', τ', by rw [cG_t g1, cG_t g2, cC_t e1, cG_t g1, cG_t g2, cC_t e2, if_pos rfl, cL_e, n6], Rr_mono r (by omega)⟩
  rw [if_neg c12]
  by_cases c13 : v0 = (13 : Int32)
  · rw [if_pos c13]
    obtain ⟨v, σ', τ', e1, e2, r⟩ := agreed_eq (x := xs (nI q + (1 : Int32)).toNatClampNeg) (y := xs (nI q + (2 : Int32)).toNatClampNeg) (z := xs (nI q + (3 : Int32)).toNatClampNeg) (w := xs (nI q + (4 : Int32)).toNatClampNeg) (by omega) h
    exact ⟨σ', τ', by rw [cG_t g1, cG_t g2, cG_t g3, cG_t g4, cC_t e1, cG_t g1, cG_t g2, cG_t g3, cG_t g4, cC_t e2, if_pos rfl, cL_e, n6], Rr_mono r (by omega)⟩
  rw [if_neg c13]
  by_cases c14 : v0 = (14 : Int32)
  · rw [if_pos c14]
    obtain ⟨v, σ', τ', e1, e2, r⟩ := talk_eq (x := xs (nI q + (1 : Int32)).toNatClampNeg) (by omega) h
    exact ⟨σ', τ', by rw [cG_t g1, cC_t e1, cG_t g1, cC_t e2, if_pos rfl, cL_e, n6], Rr_mono r (by omega)⟩
  rw [if_neg c14]
  by_cases c15 : v0 = (15 : Int32)
  · rw [if_pos c15]
    obtain ⟨v, σ', τ', e1, e2, r⟩ := best_eq (x := xs (nI q + (1 : Int32)).toNatClampNeg) (y := xs (nI q + (2 : Int32)).toNatClampNeg) (by omega) h
    exact ⟨σ', τ', by rw [cG_t g1, cG_t g2, cC_t e1, cG_t g1, cG_t g2, cC_t e2, if_pos rfl, cL_e, n6], Rr_mono r (by omega)⟩
  rw [if_neg c15]
  by_cases c16 : v0 = (16 : Int32)
  · rw [if_pos c16]
    obtain ⟨v, σ', τ', e1, e2, r⟩ := quiet_eq (x := xs (nI q + (1 : Int32)).toNatClampNeg) (y := xs (nI q + (2 : Int32)).toNatClampNeg) (z := xs (nI q + (3 : Int32)).toNatClampNeg) (by omega) h
    exact ⟨σ', τ', by rw [cG_t g1, cG_t g2, cG_t g3, cC_t e1, cG_t g1, cG_t g2, cG_t g3, cC_t e2, if_pos rfl, cL_e, n6], Rr_mono r (by omega)⟩
  rw [if_neg c16]
  by_cases c17 : v0 = (17 : Int32)
  · rw [if_pos c17]
    obtain ⟨v, σ', τ', e1, e2, r⟩ := soonest_eq (x := xs (nI q + (1 : Int32)).toNatClampNeg) (y := xs (nI q + (2 : Int32)).toNatClampNeg) (by omega) h
    exact ⟨σ', τ', by rw [cG_t g1, cG_t g2, cC_t e1, cG_t g1, cG_t g2, cC_t e2, if_pos rfl, cL_e, n6], Rr_mono r (by omega)⟩
  rw [if_neg c17]
  by_cases c18 : v0 = (18 : Int32)
  · rw [if_pos c18]
    obtain ⟨v, σ', τ', e1, e2, r⟩ := all_ans (x := xs (nI q + (1 : Int32)).toNatClampNeg) (by omega) h
    exact ⟨σ', τ', by rw [cG_t g1, cC_t e1, cG_t g1, cC_t e2, if_pos rfl, cL_e, n6], Rr_mono r (by omega)⟩
  rw [if_neg c18]
  by_cases c19 : v0 = (19 : Int32)
  · rw [if_pos c19]
    obtain ⟨v, σ', τ', e1, e2, r⟩ := drums_eq (x := xs (nI q + (1 : Int32)).toNatClampNeg) (by omega) h
    exact ⟨σ', τ', by rw [cG_t g1, cC_t e1, cG_t g1, cC_t e2, if_pos rfl, cL_e, n6], Rr_mono r (by omega)⟩
  rw [if_neg c19]
  by_cases c20 : v0 = (20 : Int32)
  · rw [if_pos c20]
    obtain ⟨v, σ', τ', e1, e2, r⟩ := loophole_eq (x := xs (nI q + (1 : Int32)).toNatClampNeg) (y := xs (nI q + (2 : Int32)).toNatClampNeg) (z := xs (nI q + (3 : Int32)).toNatClampNeg) (by omega) h
    exact ⟨σ', τ', by rw [cG_t g1, cG_t g2, cG_t g3, cC_t e1, cG_t g1, cG_t g2, cG_t g3, cC_t e2, if_pos rfl, cL_e, n6], Rr_mono r (by omega)⟩
  rw [if_neg c20]
  by_cases c21 : v0 = (21 : Int32)
  · rw [if_pos c21]
    obtain ⟨v, σ', τ', e1, e2, r⟩ := loopholeAt_eq (x := xs (nI q + (1 : Int32)).toNatClampNeg) (y := xs (nI q + (2 : Int32)).toNatClampNeg) (z := xs (nI q + (3 : Int32)).toNatClampNeg) (w := xs (nI q + (4 : Int32)).toNatClampNeg) (by omega) h
    exact ⟨σ', τ', by rw [cG_t g1, cG_t g2, cG_t g3, cG_t g4, cC_t e1, cG_t g1, cG_t g2, cG_t g3, cG_t g4, cC_t e2, if_pos rfl, cL_e, n6], Rr_mono r (by omega)⟩
  rw [if_neg c21]
  by_cases c22 : v0 = (22 : Int32)
  · rw [if_pos c22]
    obtain ⟨v, e1, e2⟩ := clashes_ans (x := xs (nI q + (1 : Int32)).toNatClampNeg) h
    exact ⟨σ, τ, by rw [cG_t g1, e1, Option.bind_some, cG_t g1, e2, Option.bind_some, if_pos rfl, cL_e, n6], Rr_mono h (by omega)⟩
  rw [if_neg c22]
  by_cases c23 : v0 = (23 : Int32)
  · rw [if_pos c23]
    obtain ⟨v, e1, e2⟩ := sure_ans (σ := σ) (τ := τ) (x := xs (nI q + (1 : Int32)).toNatClampNeg) (y := xs (nI q + (2 : Int32)).toNatClampNeg) (z := xs (nI q + (3 : Int32)).toNatClampNeg) (w := xs (nI q + (4 : Int32)).toNatClampNeg)
    exact ⟨σ, τ, by rw [cG_t g1, cG_t g2, cG_t g3, cG_t g4, e1, Option.bind_some, cG_t g1, cG_t g2, cG_t g3, cG_t g4, e2, Option.bind_some, if_pos rfl, cL_e, n6], Rr_mono h (by omega)⟩
  rw [if_neg c23]
  by_cases c24 : v0 = (24 : Int32)
  · rw [if_pos c24]
    obtain ⟨v, σ', τ', e1, e2, r⟩ := tell_eq (x := xs (nI q + (1 : Int32)).toNatClampNeg) (y := xs (nI q + (2 : Int32)).toNatClampNeg) (z := xs (nI q + (3 : Int32)).toNatClampNeg) h
    exact ⟨σ', τ', by rw [cG_t g1, cG_t g2, cG_t g3, cC_t e1, cG_t g1, cG_t g2, cG_t g3, cC_t e2, if_pos rfl, cL_e, n6], Rr_mono r (by omega)⟩
  rw [if_neg c24]
  by_cases c25 : v0 = (25 : Int32)
  · rw [if_pos c25]
    obtain ⟨v, σ', τ', e1, e2, r⟩ := forget_eq  h
    exact ⟨σ', τ', by rw [cC_t e1, cC_t e2, if_pos rfl, cL_e, n6], Rr_mono r (by omega)⟩
  rw [if_neg c25]
  by_cases c26 : v0 = (26 : Int32)
  · rw [if_pos c26]
    obtain ⟨v, σ', τ', e1, e2, r⟩ := beginners_eq (x := xs (nI q + (1 : Int32)).toNatClampNeg) (y := xs (nI q + (2 : Int32)).toNatClampNeg) h
    exact ⟨σ', τ', by rw [cG_t g1, cG_t g2, cC_t e1, cG_t g1, cG_t g2, cC_t e2, if_pos rfl, cL_e, n6], Rr_mono r (by omega)⟩
  rw [if_neg c26]
  by_cases c27 : v0 = (27 : Int32)
  · rw [if_pos c27]
    obtain ⟨v, σ', τ', e1, e2, r⟩ := hold_eq (x := xs (nI q + (1 : Int32)).toNatClampNeg) h
    exact ⟨σ', τ', by rw [cG_t g1, cC_t e1, cG_t g1, cC_t e2, if_pos rfl, cL_e, n6], Rr_mono r (by omega)⟩
  rw [if_neg c27]
  by_cases c28 : v0 = (28 : Int32)
  · rw [if_pos c28]
    obtain ⟨v, σ', τ', e1, e2, r⟩ := restore_eq (x := xs (nI q + (1 : Int32)).toNatClampNeg) h
    exact ⟨σ', τ', by rw [cG_t g1, cC_t e1, cG_t g1, cC_t e2, if_pos rfl, cL_e, n6], Rr_mono r (by omega)⟩
  rw [if_neg c28]
  by_cases c29 : v0 = (29 : Int32)
  · rw [if_pos c29]
    obtain ⟨v, e1, e2⟩ := count_ans (x := xs (nI q + (1 : Int32)).toNatClampNeg) h
    exact ⟨σ, τ, by rw [cG_t g1, e1, Option.bind_some, cG_t g1, e2, Option.bind_some, if_pos rfl, cL_e, n6], Rr_mono h (by omega)⟩
  rw [if_neg c29]
  exact ⟨σ, τ, by rw [cL_e, n6], Rr_mono h (by omega)⟩
theorem law_all {xs : Nat → Int32} {L : Nat} {σ τ : hSt} (hL : L ≤ 3072) (h : Rr 0 σ τ) : lp (S_law xs L) fuel (0, σ, τ) = some 1 := by
  refine lp_eq 512 (by rw [fuel_v]; decide) (fun j v => ∃ σ τ, v = (nI (6 * j), σ, τ) ∧ 6 * j ≤ L ∧ Rr (100 * j) σ τ) ⟨σ, τ, rfl, Nat.zero_le _, h⟩ (fun j v hj hv => ?_)
  obtain ⟨σ1, τ1, e, h1, h2⟩ := hv
  subst e
  by_cases q : 6 * j + 6 ≤ L
  · obtain ⟨σ', τ', g1, g2⟩ := law_step (xs := xs) hL q (by omega) h2
    exact Or.inl ⟨_, by omega, g1, σ', τ', by rw [show 6 * (j + 1) = 6 * j + 6 by omega], by omega, by rw [show 100 * (j + 1) = 100 * j + 100 by omega]; exact g2⟩
  · right
    unfold S_law F_law_18
    dsimp only
    rw [if_pos]
    rw [Int32.lt_iff_toInt_lt, nI_toInt (by omega), show ((Int32.ofNat L) - (6 : Int32)).toInt = (L : Int) - 6 from pk_sub_toInt (a := L) (b := 6) (by omega) (by decide)]
    omega
