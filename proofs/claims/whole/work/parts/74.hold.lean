/-! ===== PURE 39: hold, restore, tell, forget, drummed, clashes, sure ===== -/
theorem bt_set : ∀ h, h < 8 → ∀ j, j < 3 → ∃ h', h' < 8 ∧ nI h ||| ((1 : Int32) <<< (nI j &&& 31)) = nI h' ∧ ∀ i, i < 3 → bt (nI h') i = (bt (nI h) i || decide (i = j)) := by decide +kernel
theorem holdM_20 {τ : hSt} {s : Nat} (hP : HM τ.2.2) (hs : s < 3) : F_X12_hold_20 0 (nI s) 0 τ = some (1, uA τ 46 (apR s 380 (τ.1 36) (τ.1 46))) := by
  unfold F_X12_hold_20
  refine lp_eq 380 (by rw [fuel_v]; decide) (fun i v => v = (nI i, uA τ 46 (apR s i (τ.1 36) (τ.1 46)))) ?_ (fun i v hi hv => ?_)
  · show (_, τ) = (nI 0, uA τ 46 (apR s 0 (τ.1 36) (τ.1 46)))
    rw [apR_0, uA_self]
    rfl
  · subst hv
    have hP' : HM (uA τ 46 (apR s i (τ.1 36) (τ.1 46))).2.2 := hP
    unfold S_X12_hold_20 F_X12_hold_20b
    dsimp only
    rw [show (380 : Int32) = nI 380 from rfl]
    by_cases h : i < 380
    · left
      unfold cL
      dsimp only
      rw [if_neg (nI_ge h (by decide)), rM_68 hP', rM_53 hP', cG_t (inb_nI (by rw [kM_36]; omega) (by decide)), pk_mul, nI_add, cG_t (inb_nI (by rw [kM_46]; omega) (by decide)), cl_nI (by omega), cl_nI (by omega), uA_oth' _ _ _ (by decide), uA_uI, apR_s, nI_1]
      exact ⟨_, h, rfl, rfl⟩
    · right
      have : i = 380 := by omega
      subst this
      rw [if_pos (nI_le (Nat.le_refl _) (by decide))]
theorem hold_eq {b : Nat} {σ τ : hSt} {x : Int32} (h : Rr b σ τ) : ∃ v σ' τ', F_X11_hold 0 x σ = some (v, σ') ∧ F_X12_hold 0 x τ = some (v, τ') ∧ Rr b σ' τ' := by
  have h00 := h
  obtain ⟨t, li, D, ht, hD, hC, hM, h1, h2, h3, h4, ⟨hh, k1, k2, k3⟩, h6⟩ := h
  obtain ⟨ht1, ht2⟩ := Rat_ok ht
  have ht3 : 3 ≤ t := by rcases ht.2 with q | q <;> omega
  have hP : HC σ.2.2 := hC.1.1
  unfold F_X11_hold F_X12_hold
  rcases inM_le (x := x) (n := 2) (τ := τ) (by decide) with ⟨s, hs, e, q⟩ | ⟨q, q2⟩
  · subst e
    obtain ⟨h', n1, n2, n3⟩ := bt_set hh k1 s (by omega)
    rw [show (2 : Int32) = nI 2 from rfl, q, if_neg (nI_pos (by omega)), if_neg (show ¬ (3 : Int32) ≤ nI s from nI_ge (b := 3) (by omega) (by decide))]
    simp only [Option.bind_some, if_neg ne_10]
    unfold cL
    dsimp only
    rw [rC_11_8' hP, cG_t (show inb (nI s) (kC 214).2 = true from inb_nI (by show s < 3; omega) (by decide)), cl_nI (by omega), rC_s hP (by omega), rC_11_8' hP, cG_t (show inb (nI s) (kC 214).2 = true from inb_nI (by show s < 3; omega) (by decide)), rC_s hP (by omega), rC_11_5' hP, copy_eq hP (oks s (by omega)) (by decide) (by omega), rM_67 hM.1, cG_t (inb_nI (by rw [kM_45]; omega) (by decide)), holdM_20 (τ := uI τ 45 s (vp_nar .boolean 1)) hM.1 (by omega)]
    simp only [Option.bind_some]
    rw [cpC_row (by omega), k2, n2]
    refine ⟨1, _, _, rfl, rfl, ?_⟩
    have F : ∀ k, k ≠ 0 → ¬ (234 + 4 * s ≤ k ∧ k < 234 + 4 * s + 4) → (uI (cpC (234 + 4 * s) 44 σ) 0 9 (nI h')).1 k = σ.1 k := fun k a c => by rw [uI_row _ _ a, cpC_row c]
    have F0 : ∀ j, j ≠ 9 → (uI (cpC (234 + 4 * s) 44 σ) 0 9 (nI h')).1 0 j = σ.1 0 j := fun j a => by rw [uI_ne _ _ (by omega), cpC_row (by omega)]
    have G : ∀ k, k ≠ 45 → k ≠ 46 → (uA (uI τ 45 s (vp_nar .boolean 1)) 46 (apR s 380 ((uI τ 45 s (vp_nar .boolean 1)).1 36) ((uI τ 45 s (vp_nar .boolean 1)).1 46))).1 k = τ.1 k := fun k a c => by rw [uA_row _ _ c, uI_row _ _ a]
    refine ⟨t, li, D, ht, hD, ⟨TC0_same hC.1 rfl (fun k a b => F k (by omega) (by omega)), by rw [F (t + 16) (by omega) (by omega)]; exact hC.2⟩, TM_fr hM rfl (by rw [G 0 (by decide) (by decide)]) (fun k a b => G k (by omega) (by omega)), ?_, ?_, ?_, ?_, ⟨h', n1, ?_, fun j hj => ?_⟩, ?_⟩
    · exact Rtp_fr h1 (by rw [F 1 (by omega) (by omega)]) (F 2 (by omega) (by omega)) (by rw [G 0 (by decide) (by decide)]) (G 1 (by decide) (by decide))
    · rw [F0 4 (by decide), G 0 (by decide) (by decide)]; exact h2
    · exact Rnow_fr h3 (fun k a b => F k (by omega) (by omega)) (G 36 (by decide) (by decide))
    · exact Rps_fr h4 (fun k a b => F k (by omega) (by omega)) (by rw [G 0 (by decide) (by decide)]) (G 38 (by decide) (by decide))
    · rw [uI_I, if_pos ⟨rfl, rfl⟩]
    · rw [n3 j hj]
      have e46 : ∀ f, (uA (uI τ 45 s (vp_nar .boolean 1)) 46 f).1 46 = f := fun f => funext fun j => uA_own _ _ _ _
      by_cases hjs : j = s
      · subst hjs
        refine ⟨?_, fun _ => ?_⟩
        · rw [uA_row _ _ (by decide), uI_I, if_pos ⟨rfl, rfl⟩]
          simp
          rfl
        · rw [e46]
          refine WR_same (WR_rowlo (WR_copy (v := 234 + 4 * j) h3) (fun i hi => ?_)) (fun k a b => by rw [uI_row _ _ (by omega)])
          show apR j 380 _ _ (380 * j + i) = _
          unfold apR
          rw [if_pos (by omega), show 380 * j + i - 380 * j = i by omega, uI_row _ _ (by decide)]
      · refine ⟨?_, fun z => ?_⟩
        · rw [uA_row _ _ (by decide), uI_ne _ _ (by omega), (k3 j hj).1]
          simp [hjs]
        · have hz : bt (nI hh) j = true := by simpa [hjs] using z
          rw [e46]
          refine WR_same (WR_rowlo ((k3 j hj).2 hz) (fun i hi => ?_)) (fun k a b => F k (by omega) (by omega))
          show apR s 380 _ _ (380 * j + i) = _
          unfold apR
          rw [if_neg (by omega), uI_row _ _ (by decide)]
    · exact Rtd_fr h6 (fun k a b => F k (by omega) (by omega)) (by rw [G 0 (by decide) (by decide)]) (fun k a b => G k (by omega) (by omega))
  · rw [show (2 : Int32) = nI 2 from rfl, q]
    simp only [Option.bind_some, if_true]
    refine ⟨0, σ, τ, ?_, rfl, h00⟩
    by_cases hx : x < 0
    · rw [if_pos hx]; rfl
    · obtain ⟨j, hj, e⟩ := nI_of hx
      subst e
      have h3j : 3 ≤ j := by
        have := (nI_ltI (a := 2) (b := j) (by decide) hj).mp (q2.resolve_left hx)
        omega
      rw [if_neg hx, if_pos (show (3 : Int32) ≤ nI j from nI_le (a := 3) h3j hj)]; rfl
theorem restM_22 {τ : hSt} {s : Nat} (hP : HM τ.2.2) (hs : s < 3) : F_X12_restore_22 0 (nI s) 0 τ = some (1, uI (uA τ 36 (cpR 380 (fun i => τ.1 46 (380 * s + i)) (τ.1 36))) 0 57 0) := by
  unfold F_X12_restore_22
  refine lp_eq 380 (by rw [fuel_v]; decide) (fun i v => v = (nI i, uA τ 36 (cpR i (fun i => τ.1 46 (380 * s + i)) (τ.1 36)))) ?_ (fun i v hi hv => ?_)
  · show (_, τ) = (nI 0, uA τ 36 (cpR 0 _ (τ.1 36)))
    rw [cpR_0, uA_self]
    rfl
  · subst hv
    have hP' : HM (uA τ 36 (cpR i (fun i => τ.1 46 (380 * s + i)) (τ.1 36))).2.2 := hP
    unfold S_X12_restore_22 F_X12_restore_22b
    dsimp only
    rw [show (380 : Int32) = nI 380 from rfl]
    by_cases h : i < 380
    · left
      unfold cL
      dsimp only
      rw [if_neg (nI_ge h (by decide)), rM_53 hP', rM_68 hP', pk_mul, nI_add, cG_t (inb_nI (by rw [kM_46]; omega) (by decide)), cG_t (inb_nI (by rw [kM_36]; omega) (by decide)), cl_nI (by omega), cl_nI (by omega), uA_oth' _ _ _ (by decide), uA_uI, nI_1]
      refine ⟨_, h, rfl, ?_⟩
      rw [← cpR_s]
    · right
      have : i = 380 := by omega
      subst this
      rw [if_pos (nI_le (Nat.le_refl _) (by decide))]
      rfl
theorem restore_eq {b : Nat} {σ τ : hSt} {x : Int32} (h : Rr b σ τ) : ∃ v σ' τ', F_X11_restore 0 x σ = some (v, σ') ∧ F_X12_restore 0 x τ = some (v, τ') ∧ Rr b σ' τ' := by
  have h00 := h
  obtain ⟨t, li, D, ht, hD, hC, hM, h1, h2, h3, ⟨sz, nx, m1, m2, m3, m4, m5, m6⟩, ⟨hh, k1, k2, k3⟩, h6⟩ := h
  obtain ⟨ht1, ht2⟩ := Rat_ok ht
  have ht3 : 3 ≤ t := by rcases ht.2 with q | q <;> omega
  have hP : HC σ.2.2 := hC.1.1
  unfold F_X11_restore F_X12_restore
  rcases inM_le (x := x) (n := 2) (τ := τ) (by decide) with ⟨s, hs, e, q⟩ | ⟨q, q2⟩
  · subst e
    rw [show (2 : Int32) = nI 2 from rfl, q, if_neg (nI_pos (by omega)), if_neg (show ¬ (3 : Int32) ≤ nI s from nI_ge (b := 3) (by omega) (by decide))]
    simp only [Option.bind_some, if_neg ne_10]
    rw [rC_11_8' hP, cG_t (show inb (nI s) (kC 214).2 = true from inb_nI (by show s < 3; omega) (by decide)), cl_nI (by omega), rC_s hP (by omega), k2, bt_ask (by omega), ite_10, rM_67 hM.1, cG_t (inb_nI (by rw [kM_45]; omega) (by decide)), (k3 s (by omega)).1, ite_10]
    by_cases hb : bt (nI hh) s = true
    · rw [if_pos hb, if_pos hb, rC_11_5' hP, rC_11_8' hP, cG_t (show inb (nI s) (kC 214).2 = true from inb_nI (by show s < 3; omega) (by decide)), rC_s hP (by omega), copy_eq hP (by decide) (oks s (by omega)) (by omega), restM_22 hM.1 (by omega)]
      have hP1 : HC (cpC 44 (234 + 4 * s) σ).2.2 := hP
      simp only [Option.bind_some]
      rw [rC_11_7' hP1]
      unfold cL
      refine ⟨1, _, _, rfl, rfl, ?_⟩
      have F : ∀ k, ¬ (44 ≤ k ∧ k < 48) → k ≠ 52 → (uI (cpC 44 (234 + 4 * s) σ) 52 2 0).1 k = σ.1 k := fun k a c => by rw [uI_row _ _ c, cpC_row a]
      have G : ∀ k, k ≠ 0 → k ≠ 36 → (uI (uA τ 36 (cpR 380 (fun i => τ.1 46 (380 * s + i)) (τ.1 36))) 0 57 0).1 k = τ.1 k := fun k a c => by rw [uI_row _ _ a, uA_row _ _ c]
      have G0 : ∀ j, j ≠ 57 → (uI (uA τ 36 (cpR 380 (fun i => τ.1 46 (380 * s + i)) (τ.1 36))) 0 57 0).1 0 j = τ.1 0 j := fun j a => by rw [uI_ne _ _ (by omega), uA_row _ _ (by decide)]
      refine ⟨t, li, D, ht, hD, ⟨TC0_same hC.1 rfl (fun k a b => F k (by omega) (by omega)), by rw [F (t + 16) (by omega) (by omega)]; exact hC.2⟩, TM_fr hM rfl (G0 18 (by decide)) (fun k a b => G k (by omega) (by omega)), ?_, ?_, ?_, ⟨0, nx, by omega, m2, ?_, ?_, ?_, fun j hj => absurd hj (by omega)⟩, ?_, ?_⟩
      · exact Rtp_fr h1 (by rw [F 1 (by omega) (by omega)]) (F 2 (by omega) (by omega)) (G0 2 (by decide)) (G 1 (by decide) (by decide))
      · rw [F 0 (by omega) (by omega), G0 17 (by decide)]; exact h2
      · have e36 : ∀ f, (uI (uA τ 36 f) 0 57 0).1 36 = f := fun f => by rw [uI_row _ _ (by decide)]; exact funext fun j => uA_own _ _ _ _
        rw [e36]
        exact WR_same (WR_rowlo (WR_copy (v := 44) ((k3 s (by omega)).2 hb)) (fun j hj => cpR_lo hj)) (fun k a b => uI_row _ _ (by omega))
      · rw [uI_I, if_pos ⟨rfl, rfl⟩]; rfl
      · rw [uI_ne _ _ (by decide), cpC_row (by omega)]; exact m4
      · rw [uI_I, if_pos ⟨rfl, rfl⟩]; rfl
      · exact Rsl_fr ⟨hh, k1, k2, k3⟩ (by rw [F 0 (by omega) (by omega)]) (fun k a b => F k (by omega) (by omega)) (G 45 (by decide) (by decide)) (G 46 (by decide) (by decide))
      · exact Rtd_fr h6 (fun k a b => F k (by omega) (by omega)) (G0 63 (by decide)) (fun k a b => G k (by omega) (by omega))
    · rw [if_neg hb, if_neg hb]
      exact ⟨0, σ, τ, rfl, rfl, h00⟩
  · rw [show (2 : Int32) = nI 2 from rfl, q]
    simp only [Option.bind_some, if_true]
    refine ⟨0, σ, τ, ?_, rfl, h00⟩
    by_cases hx : x < 0
    · rw [if_pos hx]; rfl
    · obtain ⟨j, hj, e⟩ := nI_of hx
      subst e
      have h3j : 3 ≤ j := by
        have := (nI_ltI (a := 2) (b := j) (by decide) hj).mp (q2.resolve_left hx)
        omega
      rw [if_neg hx, if_pos (show (3 : Int32) ≤ nI j from nI_le (a := 3) h3j hj)]; rfl
/-- the relation where what is told alone changes -/
theorem Rr_told {b : Nat} {σ σ' τ τ' : hSt} (h : Rr b σ τ) (f0 : σ'.2 = σ.2) (F : ∀ k, ¬ (215 ≤ k ∧ k < 219) → σ'.1 k = σ.1 k) (g0 : τ'.2 = τ.2) (G0 : ∀ j, j ≠ 63 → τ'.1 0 j = τ.1 0 j) (G : ∀ k, k ≠ 0 → ¬ (42 ≤ k ∧ k < 45) → τ'.1 k = τ.1 k)
    (hr : ∀ H M, (∃ t li D, Rat t σ.2.2 ∧ TXok D ∧ TC t D σ ∧ TM li D τ ∧ H = tH D ∧ M = tM D) → Rtd H M σ τ → Rtd H M σ' τ') : Rr b σ' τ' := by
  obtain ⟨t, li, D, ht, hD, hC, hM, h1, h2, h3, h4, h5, h6⟩ := h
  obtain ⟨ht1, ht2⟩ := Rat_ok ht
  refine ⟨t, li, D, by rw [f0]; exact ht, hD, ⟨TC0_same hC.1 (by rw [f0]) (fun k a b => F k (by omega)), by rw [F (t + 16) (by omega), f0]; exact hC.2⟩, TM_fr hM g0 (G0 18 (by decide)) (fun k a b => G k (by omega) (by omega)), ?_, ?_, ?_, ?_, ?_, hr _ _ ⟨t, li, D, ht, hD, hC, hM, rfl, rfl⟩ h6⟩
  · exact Rtp_fr h1 (by rw [F 1 (by omega)]) (F 2 (by omega)) (G0 2 (by decide)) (G 1 (by decide) (by decide))
  · rw [F 0 (by omega), G0 17 (by decide)]; exact h2
  · exact Rnow_fr h3 (fun k a b => F k (by omega)) (G 36 (by decide) (by decide))
  · exact Rps_fr h4 (fun k a b => F k (by omega)) (G0 57 (by decide)) (G 38 (by decide) (by decide))
  · exact Rsl_fr h5 (by rw [F 0 (by omega)]) (fun k a b => F k (by omega)) (G 45 (by decide) (by decide)) (G 46 (by decide) (by decide))
theorem forget_eq {b : Nat} {σ τ : hSt} (h : Rr b σ τ) : ∃ v σ' τ', F_X11_forget 0 σ = some (v, σ') ∧ F_X12_forget 0 τ = some (v, τ') ∧ Rr b σ' τ' := by
  have h00 := h
  obtain ⟨t, li, D, ht, hD, hC, hM, h1, h2, h3, h4, h5, ⟨n, k1, k2, k3, k4⟩⟩ := h
  have hP : HC σ.2.2 := hC.1.1
  unfold F_X11_forget F_X12_forget cL
  rw [rC_11_10' hP, k2, k3]
  dsimp only
  rw [rC_11_10' hP]
  refine ⟨nI n, _, _, rfl, rfl, Rr_told h00 rfl (fun k a => uI_row _ _ (by omega)) rfl (fun j a => uI_ne _ _ (by omega)) (fun k a c => uI_row _ _ a) (fun H M _ _ => ⟨0, by omega, ?_, ?_, fun i hi => absurd hi (by omega)⟩)⟩
  · rw [uI_I, if_pos ⟨rfl, rfl⟩]; rfl
  · rw [uI_I, if_pos ⟨rfl, rfl⟩]; rfl
theorem addTold {σ : hSt} {n : Nat} {x y z : Int32} (hP : HC σ.2.2) (h : σ.1 215 3 = nI n) (hn : n < 20) : F_X9_add 215 x y z σ = some (nI n, uI (uI (uI (uI σ 216 n x) 217 n y) 218 n z) 215 3 (nI (n + 1))) := by
  have g0 : inb (nI n) (kC 216).2 = true := inb_nI (by show n < 20; exact hn) (by decide)
  have g1 : inb (nI n) (kC 217).2 = true := inb_nI (by show n < 20; exact hn) (by decide)
  have g2 : inb (nI n) (kC 218).2 = true := inb_nI (by show n < 20; exact hn) (by decide)
  have r0 : ∀ {α : Type} (f : Nat → Option α), cR (σ.2.2 215 0) (okr kC NC 101) f = f 216 := fun f => rC_9_0 hP (c := 215) (by decide) f
  have r1 : ∀ {α : Type} (f : Nat → Option α), cR (σ.2.2 215 1) (okr kC NC 101) f = f 217 := fun f => rC_9_1 hP (c := 215) (by decide) f
  have r2 : ∀ {α : Type} (f : Nat → Option α), cR (σ.2.2 215 2) (okr kC NC 101) f = f 218 := fun f => rC_9_2 hP (c := 215) (by decide) f
  have c0 : (nI n).toNatClampNeg = n := cl_nI (by omega)
  unfold F_X9_add
  rw [h, if_neg (nI_pos (by omega)), if_pos (show nI n < (20 : Int32) from nI_lt (b := 20) hn (by decide))]
  have e1 : ∀ v : Int32, (uI σ 216 n v).1 215 3 = nI n := fun v => by rw [uI_row _ _ (by decide)]; exact h
  have e2 : ∀ v w : Int32, (uI (uI σ 216 n v) 217 n w).1 215 3 = nI n := fun v w => by rw [uI_row _ _ (by decide)]; exact e1 v
  have e3 : ∀ v w u : Int32, (uI (uI (uI σ 216 n v) 217 n w) 218 n u).1 215 3 = nI n := fun v w u => by rw [uI_row _ _ (by decide)]; exact e2 v w
  simp only [cL, uI_2, r0, r1, r2, cG_t g0, cG_t g1, cG_t g2, c0, h, e1, e2, e3, nI_1]
  rw [uI_I, if_pos ⟨rfl, rfl⟩, nI_pred]
theorem tellM_in {τ : hSt} {n : Nat} {x y z : Int32} (hP : HM τ.2.2) (h : τ.1 0 63 = nI n) (hn : n < 20) : (cR (τ.2.2 0 64) (okr kM NM 101) fun z7 =>
    cG (inb (τ.1 0 63) (kM z7).2) <|
    cL (uI τ z7 (τ.1 0 63).toNatClampNeg x) fun σ9 =>
    cR (σ9.2.2 0 65) (okr kM NM 101) fun z10 =>
    cG (inb (σ9.1 0 63) (kM z10).2) <|
    cL (uI σ9 z10 (σ9.1 0 63).toNatClampNeg y) fun σ12 =>
    cR (σ12.2.2 0 66) (okr kM NM 101) fun z13 =>
    cG (inb (σ12.1 0 63) (kM z13).2) <|
    cL (uI σ12 z13 (σ12.1 0 63).toNatClampNeg z) fun σ15 =>
    cL (uI σ15 0 63 ((σ15.1 0 63) + (1 : Int32))) fun σ16 =>
    some (((σ16.1 0 63) - (1 : Int32), σ16))) = some (nI n, uI (uI (uI (uI τ 42 n x) 43 n y) 44 n z) 0 63 (nI (n + 1))) := by
  have g0 : inb (nI n) (kM 42).2 = true := inb_nI (by show n < 20; exact hn) (by decide)
  have g1 : inb (nI n) (kM 43).2 = true := inb_nI (by show n < 20; exact hn) (by decide)
  have g2 : inb (nI n) (kM 44).2 = true := inb_nI (by show n < 20; exact hn) (by decide)
  have c0 : (nI n).toNatClampNeg = n := cl_nI (by omega)
  have e1 : ∀ v : Int32, (uI τ 42 n v).1 0 63 = nI n := fun v => by rw [uI_row _ _ (by decide)]; exact h
  have e2 : ∀ v w : Int32, (uI (uI τ 42 n v) 43 n w).1 0 63 = nI n := fun v w => by rw [uI_row _ _ (by decide)]; exact e1 v
  have e3 : ∀ v w u : Int32, (uI (uI (uI τ 42 n v) 43 n w) 44 n u).1 0 63 = nI n := fun v w u => by rw [uI_row _ _ (by decide)]; exact e2 v w
  simp only [cL, uI_2, rM_64 hP, rM_65 hP, rM_66 hP, cG_t g0, cG_t g1, cG_t g2, c0, h, e1, e2, e3, nI_1]
  rw [uI_I, if_pos ⟨rfl, rfl⟩, nI_pred]
theorem rd4 (σ : hSt) (c w k n i : Nat) (x y z q : Int32) (h : w < c ∨ c + 2 < w) : (uI (uI (uI (uI σ c n x) (c + 1) n y) (c + 2) n z) w k q).1 c i = (if i = n then x else σ.1 c i) ∧ (uI (uI (uI (uI σ c n x) (c + 1) n y) (c + 2) n z) w k q).1 (c + 1) i = (if i = n then y else σ.1 (c + 1) i) ∧ (uI (uI (uI (uI σ c n x) (c + 1) n y) (c + 2) n z) w k q).1 (c + 2) i = (if i = n then z else σ.1 (c + 2) i) := by
  refine ⟨?_, ?_, ?_⟩
  · rw [uI_ne _ _ (by omega), uI_ne _ _ (by omega), uI_ne _ _ (by omega), uI_I]
    simp
  · rw [uI_ne _ _ (by omega), uI_ne _ _ (by omega), uI_I, uI_ne _ _ (by omega)]
    simp
  · rw [uI_ne _ _ (by omega), uI_I, uI_ne _ _ (by omega), uI_ne _ _ (by omega)]
    simp
theorem tell_eq {b : Nat} {σ τ : hSt} {x y z : Int32} (h : Rr b σ τ) : ∃ v σ' τ', F_X11_tell 0 x y z σ = some (v, σ') ∧ F_X12_tell_ 0 x y z τ = some (v, τ') ∧ Rr b σ' τ' := by
  have h00 := h
  obtain ⟨t, li, D, ht, hD, hC, hM, h1, h2, h3, h4, h5, ⟨n, k1, k2, k3, k4⟩⟩ := h
  have hP : HC σ.2.2 := hC.1.1
  have n0 : F_X12_tell__35 τ = some (-1, τ) := rfl
  have c0 : F_X11_tell_38 σ = some (-1, σ) := rfl
  unfold F_X11_tell F_X12_tell_
  have no : ∀ (A : Option (Int32 × hSt)), A = some (-1, τ) → ∃ v σ' τ', F_X11_tell_38 σ = some (v, σ') ∧ (if τ.1 0 63 = (20 : Int32) then F_X12_tell__35 τ else A) = some (v, τ') ∧ Rr b σ' τ' := fun A hA => by
    refine ⟨-1, σ, τ, c0, ?_, h00⟩
    rw [n0, hA, ite_self]
  rcases hill_eq (x := x) hD ht hC.1 hM with ⟨a, ha, e, q1, q2⟩ | ⟨q1, q2⟩
  · subst e
    rw [q1, q2]
    simp only [Option.bind_some, if_neg ne_10]
    rcases news_eq (x := y) hD ht hC.1 hM with ⟨c, hc, e, q3, q4⟩ | ⟨q3, q4⟩
    · subst e
      rw [q3, q4]
      simp only [Option.bind_some, if_neg ne_10]
      rcases inM_le (x := z) (n := 99) (τ := τ) (by decide) with ⟨d, hd, e, q5⟩ | ⟨q5, q6⟩
      · subst e
        rw [show (99 : Int32) = nI 99 from rfl, q5, if_neg (nI_pos (by omega)), if_neg (nI_nlt hd (by decide)), rC_11_10' hP, k2, k3]
        simp only [Option.bind_some, if_neg ne_10]
        by_cases hn : n < 20
        · rw [if_pos (show nI n < (20 : Int32) from nI_lt (b := 20) hn (by decide)), ← k3, if_neg (show ¬ τ.1 0 63 = 20 from fun q => absurd ((nI_eq (b := 20) (by omega) (by decide)).mp (k3.symm.trans q)) (by omega)), rC_11_10' hP]
          rw [cC_t (addTold hP k2 hn), tellM_in hM.1 k3 hn]
          refine ⟨nI n, _, _, rfl, rfl, Rr_told h00 rfl (fun k a => ?_) rfl (fun j a => ?_) (fun k a c => ?_) (fun H M hx hy => ?_)⟩
          · rw [uI_row _ _ (by omega), uI_row _ _ (by omega), uI_row _ _ (by omega), uI_row _ _ (by omega)]
          · rw [uI_ne _ _ (by omega), uI_row _ _ (by decide), uI_row _ _ (by decide), uI_row _ _ (by decide)]
          · rw [uI_row _ _ a, uI_row _ _ (by omega), uI_row _ _ (by omega), uI_row _ _ (by omega)]
          · obtain ⟨t', li', D', ht', hD', hC', hM', e1, e2⟩ := hx
            have et : t' = t := Option.some.inj (ht'.1.symm.trans ht.1)
            subst et
            have eH : tH D' = tH D := (nI_eq (by have := hD'.1; omega) (by have := hD.1; omega)).mp (hC'.1.2.1.1.symm.trans hC.1.2.1.1)
            have eM : tM D' = tM D := (nI_eq (by have := hD'.2.1; omega) (by have := hD.2.1; omega)).mp (hC'.1.2.1.2.1.symm.trans hC.1.2.1.2.1)
            refine ⟨n + 1, by omega, ?_, ?_, fun i hi => ?_⟩
            · rw [uI_I, if_pos ⟨rfl, rfl⟩]
            · rw [uI_I, if_pos ⟨rfl, rfl⟩]
            · obtain ⟨p1, p2, p3⟩ := rd4 σ 216 215 3 n i (nI a) (nI c) (nI d) (nI (n + 1)) (by omega)
              obtain ⟨p4, p5, p6⟩ := rd4 τ 42 0 63 n i (nI a) (nI c) (nI d) (nI (n + 1)) (by omega)
              by_cases hin : i = n
              · rw [if_pos hin] at p1 p2 p3 p4 p5 p6
                exact ⟨a, c, d, by rw [e1, eH]; exact ha, by rw [e2, eM]; exact hc, by omega, p1, p4, p2, p5, p3, p6⟩
              · rw [if_neg hin] at p1 p2 p3 p4 p5 p6
                obtain ⟨a', c', d', g1, g2, g3, g4, g5, g6, g7, g8, g9⟩ := k4 i (by omega)
                exact ⟨a', c', d', by rw [e1, eH]; exact g1, by rw [e2, eM]; exact g2, g3, p1.trans g4, p4.trans g5, p2.trans g6, p5.trans g7, p3.trans g8, p6.trans g9⟩
        · have : n = 20 := by omega
          subst this
          rw [if_neg (show ¬ nI 20 < (20 : Int32) by decide), if_pos (show nI 20 = 20 from rfl)]
          exact ⟨-1, σ, τ, c0, n0, h00⟩
      · rw [show (99 : Int32) = nI 99 from rfl, q5]
        simp only [Option.bind_some, if_true]
        have : (if z < 0 then F_X11_tell_38 σ else if nI 99 < z then F_X11_tell_38 σ else cR (σ.2.2 0 10) (okr kC NC 9) fun z5 => if σ.1 z5 3 < (20 : Int32) then cR (σ.2.2 0 10) (okr kC NC 9) fun z6 => cC (F_X9_add z6 (nI a) (nI c) z σ) fun v8 σ9 => some (v8, σ9) else F_X11_tell_38 σ) = F_X11_tell_38 σ := by
          by_cases hz : z < 0
          · rw [if_pos hz]
          · rw [if_neg hz, if_pos (q6.resolve_left hz)]
        rw [this]
        exact no _ rfl
    · rw [q3, q4]
      simp only [Option.bind_some, if_true]
      exact no _ rfl
  · rw [q1, q2]
    simp only [Option.bind_some, if_true]
    exact no _ rfl
