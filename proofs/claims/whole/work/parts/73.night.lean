/-! ===== PURE 38: night, run, undo, hold, restore ===== -/
theorem night_eq {b : Nat} {σ τ : hSt} (hb : b < 2 ^ 30) (h : Rr b σ τ) : ∃ v σ' τ', F_X11_night 0 σ = some (v, σ') ∧ F_X12_night 0 τ = some (v, τ') ∧ Rr (b + 1) σ' τ' := by
  obtain ⟨t, li, D, ht, hD, hC, hM, hR⟩ := h
  obtain ⟨ht1, ht2⟩ := Rat_ok ht
  have hP : HC σ.2.2 := hC.1.1
  obtain ⟨s0, x0, k1, k2, k3, k4, k5, k6⟩ := hR.2.2.2.1
  have hP1 : HC (psC σ s0 x0).2.2 := hP
  have ht' : Rat t (psC σ s0 x0).2.2 := ht
  have pr : ∀ k, k < 52 → (psC σ s0 x0).1 k = σ.1 k := fun k a => psC_row (by omega) (by omega)
  have hC1 : TC t D (psC σ s0 x0) := ⟨TC0_same hC.1 rfl (fun k a b => pr k (by omega)), by rw [pr (t + 16) (by omega)]; exact hC.2⟩
  have hM1 : TM li D (cpS τ (nI (tO D)) (-1)) := TM_M hM rfl cpS_fr
  have hW1 : WR (tH D) b (psC σ s0 x0).1 44 ((cpS τ (nI (tO D)) (-1)).1 37) := by
    rw [cpS_37]
    exact WR_same (WR_rowlo hR.2.2.1 (fun j hj => cpR_lo hj)) (fun k a b => pr k (by omega))
  obtain ⟨σ', τ1, c1, m1, c2, m2, c3, m3, c4⟩ := night_WR (t := t) (w := 44) hD ht1 (by decide) (by omega) hC1 hM1 hW1 hb
  rw [cpS_56] at c1
  have c3r : ∀ k, ¬ (t ≤ k ∧ k < t + 17) → ¬ (44 ≤ k ∧ k < 48) → σ'.1 k = (psC σ s0 x0).1 k := fun k a b => (c3.2 k a b).1
  obtain ⟨τ', u1, u2, u3⟩ := done_keep (b' := b + 1) (σ' := σ') hD ht hR (by omega) k1 k2 k4 k3 k5 frC_rfl c3.1 c3r c2 (frM_trans cpS_fr (frM_q m3)) m3.1 m2 c4
  have hP' : HC σ'.2.2 := c2.1.1
  have hQ' : HM τ'.2.2 := by obtain ⟨_, _, _, _, _, _, q, _⟩ := u2; exact q.1
  obtain ⟨n, d, hW, h120, -, -⟩ := c4
  unfold F_X11_night F_X12_night
  rw [rC_11_7' hP, rC_11_5' hP, push_eq hP k2 k1 k4 k3, copiesM hM]
  simp only [Option.bind_some]
  rw [rC_11_5' hP1, Rat_c ht', c1, m1]
  simp only [Option.bind_some]
  rw [rC_11_5' hP', u1]
  simp only [Option.bind_some]
  rw [rM_53 hQ', cG_t (show inb (120 : Int32) (kM 36).2 = true by rw [kM_36]; decide), show (120 : Int32).toNatClampNeg = 120 from rfl, u3, hW.1.1]
  exact ⟨_, σ', τ', rfl, rfl, u2⟩
theorem run_eq {b : Nat} {σ τ : hSt} {x : Int32} (hb : b + 100 < 2 ^ 30) (h : Rr b σ τ) : ∃ v σ' τ', F_X11_run 0 x σ = some (v, σ') ∧ F_X12_run 0 x τ = some (v, τ') ∧ Rr (b + 100) σ' τ' := by
  have h00 := h
  obtain ⟨t, li, D, ht, hD, hC, hM, hR⟩ := h
  have hmono : Rr (b + 100) σ τ := ⟨t, li, D, ht, hD, hC, hM, Rst_mono hR (by omega)⟩
  obtain ⟨ht1, ht2⟩ := Rat_ok ht
  have hP : HC σ.2.2 := hC.1.1
  have how4 : tO D < 4 := hD.2.2.2.1
  unfold F_X11_run F_X12_run
  rcases inM_le (x := x) (n := 100) (τ := τ) (by decide) with ⟨n, hn, e, q⟩ | ⟨q, q2⟩
  · subst e
    rw [show (100 : Int32) = nI 100 from rfl, q, if_neg (nI_pos (by omega)), if_pos (nI_le hn (by decide))]
    simp only [Option.bind_some]
    rw [if_neg (show ¬ (1 : Int32) = 0 by decide)]
    by_cases h0 : n = 0
    · subst h0
      obtain ⟨m, d, hW, h120, -, -⟩ := hR.2.2.1
      rw [if_pos (show nI 0 ≤ 0 by decide), if_pos nI_0]
      unfold F_X11_run_27 F_X11_run_29
      have s1 : S_X11_run_29 0 (nI 0) (0, σ) = some (.inr (σ.1 44 0, σ)) := by
        unfold S_X11_run_29 F_X11_run_29b
        dsimp only
        rw [if_pos (by decide), rC_11_5' hP]
      rw [show fuel = 999999 + 1 from rfl, lp_inr s1, rM_53 hM.1, cG_t (show inb (120 : Int32) (kM 36).2 = true by rw [kM_36]; decide), show (120 : Int32).toNatClampNeg = 120 from rfl, hW.1.1]
      exact ⟨_, σ, τ, rfl, rfl, hmono⟩
    · obtain ⟨s0, x0, k1, k2, k3, k4, k5, k6⟩ := hR.2.2.2.1
      have hP1 : HC (psC σ s0 x0).2.2 := hP
      have pr : ∀ k, k < 52 → (psC σ s0 x0).1 k = σ.1 k := fun k a => psC_row (by omega) (by omega)
      have hC1 : TC t D (psC σ s0 x0) := ⟨TC0_same hC.1 rfl (fun k a b => pr k (by omega)), by rw [pr (t + 16) (by omega)]; exact hC.2⟩
      have hM1 : TM li D (cpS τ (nI (tO D)) (-1)) := TM_M hM rfl cpS_fr
      have hW1 : WR (tH D) b (psC σ s0 x0).1 44 ((cpS τ (nI (tO D)) (-1)).1 37) := by
        rw [cpS_37]
        exact WR_same (WR_rowlo hR.2.2.1 (fun j hj => cpR_lo hj)) (fun k a b => pr k (by omega))
      rw [if_neg (nI_nle (by omega) (by omega)), if_neg (nI_ne0 (by omega) (by omega)), rC_11_7' hP, rC_11_5' hP, push_eq hP k2 k1 k4 k3, copiesM hM]
      simp only [Option.bind_some]
      unfold F_X11_run_27 F_X11_run_29 F_X12_run_30
      have main : ∃ x y, lp (S_X11_run_29 0 (nI n)) fuel (0, psC σ s0 x0) = some x ∧ lp (S_X12_run_30 0 (nI n)) fuel (0, cpS τ (nI (tO D)) (-1)) = some y ∧ (fun u v => ∃ w σ' τ', u = (w, σ') ∧ v = (w, τ') ∧ Rr (b + 100) σ' τ') x y := by
       refine lp_two (s := S_X11_run_29 0 (nI n)) (s' := S_X12_run_30 0 (nI n)) n (by rw [fuel_v]; omega)
         (fun i a c => a.1 = nI i ∧ c.1 = nI i ∧ TC t D a.2 ∧ TM li D c.2 ∧ frm t 44 (psC σ s0 x0) a.2 ∧ frq (cpS τ (nI (tO D)) (-1)) c.2 ∧ WR (tH D) (b + i) a.2.1 44 (c.2.1 37))
         (fun u v => ∃ w σ' τ', u = (w, σ') ∧ v = (w, τ') ∧ Rr (b + 100) σ' τ') (v := (0, psC σ s0 x0)) (w := (0, cpS τ (nI (tO D)) (-1))) ⟨rfl, rfl, hC1, hM1, frm_rfl, ⟨rfl, fun _ _ => rfl, fun _ _ _ _ _ _ => ⟨rfl, rfl⟩⟩, hW1⟩ (fun i a c hi hac => ?_)
       obtain ⟨l2, s1⟩ := a
       obtain ⟨l2', r1⟩ := c
       obtain ⟨a1, a2, a3, a4, a5, a6, a7⟩ := hac
       dsimp only at a1 a2 a3 a4 a5 a6 a7
       subst a1 a2
       have hPs : HC s1.2.2 := a3.1.1
       have hts : Rat t s1.2.2 := by rw [a5.1]; exact ht
       by_cases hlt : i < n
       · left
         obtain ⟨σ', τ', c1, m1, c2, m2, c3, m3, c4⟩ := day_WR (t := t) (w := 44) (how := tO D) hD ht1 (by decide) (by omega) a3 a4 a7 (by omega) (by rw [a6.2.1 55 (by decide)]; exact cpS_55) how4
         rw [a6.2.1 56 (by decide), cpS_56] at c1
         unfold S_X11_run_29 F_X11_run_29b S_X12_run_30 F_X12_run_30b cL
         dsimp only
         rw [if_neg (nI_ge hlt (by omega)), if_neg (nI_ge hlt (by omega)), rC_11_5' hPs, Rat_c hts, Rat_c hts, a3.1.2.1.2.2.1, c1, m1]
         refine ⟨_, _, hlt, rfl, rfl, nI_1 i, nI_1 i, c2, m2, frm_trans a5 c3, ⟨m3.1.trans a6.1, fun j hj => (m3.2.1 j hj).trans (a6.2.1 j hj), fun k p1 p2 p3 p4 p5 => ⟨((m3.2.2 k p1 p2 p3 p4 p5).1).trans (a6.2.2 k p1 p2 p3 p4 p5).1, ((m3.2.2 k p1 p2 p3 p4 p5).2).trans (a6.2.2 k p1 p2 p3 p4 p5).2⟩⟩, ?_⟩
         exact c4
       · right
         have : i = n := by omega
         subst this
         have a5r : ∀ k, ¬ (t ≤ k ∧ k < t + 17) → ¬ (44 ≤ k ∧ k < 48) → s1.1 k = (psC σ s0 x0).1 k := fun k a b => (a5.2 k a b).1
         obtain ⟨τ', u1, u2, u3⟩ := done_keep (b' := b + 100) (σ' := s1) hD ht hR (by omega) k1 k2 k4 k3 k5 frC_rfl a5.1 a5r a3 (frM_trans cpS_fr (frM_q a6)) a6.1 a4 (WR_mono a7 (by omega))
         obtain ⟨m, d, hW, h120, -, -⟩ := a7
         have hQ' : HM τ'.2.2 := by obtain ⟨_, _, _, _, _, _, q, _⟩ := u2; exact q.1
         unfold S_X11_run_29 F_X11_run_29b S_X12_run_30 F_X12_run_30b
         dsimp only
         rw [if_pos (nI_le (Nat.le_refl _) (by omega)), if_pos (nI_le (Nat.le_refl _) (by omega)), rC_11_5' hPs, u1]
         simp only [Option.bind_some]
         rw [rM_53 hQ', cG_t (show inb (120 : Int32) (kM 36).2 = true by rw [kM_36]; decide), show (120 : Int32).toNatClampNeg = 120 from rfl, u3, hW.1.1]
         exact ⟨_, _, rfl, rfl, _, s1, τ', rfl, rfl, u2⟩
      obtain ⟨u, v, g1, g2, w, σ', τ', g3, g4, g5⟩ := main
      exact ⟨w, σ', τ', by rw [g1, g3], by rw [g2, g4], g5⟩
  · rw [show (100 : Int32) = nI 100 from rfl, q]
    refine ⟨-1, σ, τ, ?_, rfl, hmono⟩
    by_cases hx : x < 0
    · rw [if_pos hx]; rfl
    · rw [if_neg hx, if_neg (Int32.not_le.mpr (q2.resolve_left hx))]; rfl
/-- now goes on from a row of the model's -/
theorem backM {n c s : Nat} {τ : hSt} (f : Nat → Int32) (hf : f = fun i => τ.1 c (380 * s + i)) : cpR n f (τ.1 36) = cpR n (fun i => τ.1 c (380 * s + i)) (τ.1 36) := by rw [hf]
theorem undoM_21 {τ : hSt} {s : Nat} (hP : HM τ.2.2) (hs : s < 40) (e : τ.1 0 57 = nI s) : F_X12_undo_21 0 0 τ = some (1, uA τ 36 (cpR 380 (fun i => τ.1 38 (380 * s + i)) (τ.1 36))) := by
  unfold F_X12_undo_21
  refine lp_eq 380 (by rw [fuel_v]; decide) (fun i v => v = (nI i, uA τ 36 (cpR i (fun i => τ.1 38 (380 * s + i)) (τ.1 36)))) ?_ (fun i v hi hv => ?_)
  · show (_, τ) = (nI 0, uA τ 36 (cpR 0 _ (τ.1 36)))
    rw [cpR_0, uA_self]
    rfl
  · subst hv
    have hP' : HM (uA τ 36 (cpR i (fun i => τ.1 38 (380 * s + i)) (τ.1 36))).2.2 := hP
    unfold S_X12_undo_21 F_X12_undo_21b
    dsimp only
    rw [show (380 : Int32) = nI 380 from rfl]
    by_cases h : i < 380
    · left
      unfold cL
      dsimp only
      rw [if_neg (nI_ge h (by decide)), rM_53 hP', rM_58 hP', uA_oth' _ _ _ (by decide), e, pk_mul, nI_add, cG_t (inb_nI (by rw [kM_38]; omega) (by decide)), cG_t (inb_nI (by rw [kM_36]; omega) (by decide)), cl_nI (by omega), cl_nI (by omega), uA_oth' _ _ _ (by decide), uA_uI, nI_1]
      refine ⟨_, h, rfl, ?_⟩
      rw [← cpR_s]
    · right
      have : i = 380 := by omega
      subst this
      rw [if_pos (nI_le (Nat.le_refl _) (by decide))]
theorem undo_eq {b : Nat} {σ τ : hSt} (h : Rr b σ τ) : ∃ v σ' τ', F_X11_undo 0 σ = some (v, σ') ∧ F_X12_undo 0 τ = some (v, τ') ∧ Rr b σ' τ' := by
  have h00 := h
  obtain ⟨t, li, D, ht, hD, hC, hM, h1, h2, h3, ⟨s, x, k1, k2, k3, k4, k5, k6⟩, h5, h6⟩ := h
  obtain ⟨ht1, ht2⟩ := Rat_ok ht
  have ht3 : 3 ≤ t := by rcases ht.2 with q | q <;> omega
  have hP : HC σ.2.2 := hC.1.1
  unfold F_X11_undo F_X12_undo
  rw [rC_11_7' hP, rC_11_5' hP]
  unfold F_X2_pop cL
  rw [cG_t (by decide), k4, k3, k5, show (40 : Int32) = nI 40 from rfl, nI_add, show (1 : Int32) = nI 1 from rfl, pk_sub (by omega), pk_rem (by omega) (by decide) (by decide)]
  by_cases hs : s = 0
  · subst hs
    dsimp only
    simp only [if_pos nI_0]
    exact ⟨0, σ, τ, rfl, rfl, h00⟩
  · have hl : (x + 40 - 1) % 40 < 40 := Nat.mod_lt _ (by decide)
    generalize hy : (x + 40 - 1) % 40 = y at hl ⊢
    dsimp only
    rw [if_neg (nI_ne0 (by omega) (by omega)), if_neg (nI_ne0 (by omega) (by omega)), if_neg (nI_pos (by omega)), rC_2_0 hP (c := 52) (by decide), cG_t (inb_nI (by rw [nC_2_0 (by decide)]; omega) (by rw [nC_2_0 (by decide)]; decide)), cl_nI (by omega), rC_w hP hl, rC_2_0 hP (c := 52) (by decide), cG_t (inb_nI (by rw [nC_2_0 (by decide)]; omega) (by rw [nC_2_0 (by decide)]; decide)), rC_w hP hl, copy_eq hP (by decide) (okw y hl) (by omega)]
    simp only [Option.bind_some]
    rw [uI_ne _ _ (by omega), cpC_row (by omega), k3, pk_sub (by omega)]
    have e57 : (uI τ 0 57 (nI (s - 1))).1 0 57 = nI (s - 1) := by rw [uI_I, if_pos ⟨rfl, rfl⟩]
    rw [undoM_21 (τ := uI τ 0 57 (nI (s - 1))) (s := s - 1) hM.1 (by omega) e57, cC_t (a := nI 1) (b := uI (uI (cpC 44 (54 + 4 * y) σ) 52 1 (nI y)) 52 2 (nI (s - 1))) rfl, cG_t (by decide)]
    refine ⟨1, _, _, rfl, rfl, ?_⟩
    have F : ∀ k, ¬ (44 ≤ k ∧ k < 48) → k ≠ 52 → (uI (uI (cpC 44 (54 + 4 * y) σ) 52 1 (nI y)) 52 2 (nI (s - 1))).1 k = σ.1 k := fun k a c => by rw [uI_row _ _ c, uI_row _ _ c, cpC_row a]
    have G : ∀ k, k ≠ 0 → k ≠ 36 → (uA (uI τ 0 57 (nI (s - 1))) 36 (cpR 380 (fun i => (uI τ 0 57 (nI (s - 1))).1 38 (380 * (s - 1) + i)) ((uI τ 0 57 (nI (s - 1))).1 36))).1 k = τ.1 k := fun k a c => by rw [uA_row _ _ c, uI_row _ _ a]
    have G0 : ∀ j, j ≠ 57 → (uA (uI τ 0 57 (nI (s - 1))) 36 (cpR 380 (fun i => (uI τ 0 57 (nI (s - 1))).1 38 (380 * (s - 1) + i)) ((uI τ 0 57 (nI (s - 1))).1 36))).1 0 j = τ.1 0 j := fun j a => by rw [uA_row _ _ (by decide), uI_ne _ _ (by omega)]
    refine ⟨t, li, D, ht, hD, ⟨TC0_same hC.1 rfl (fun k a b => F k (by omega) (by omega)), by rw [F (t + 16) (by omega) (by omega)]; exact hC.2⟩, TM_fr hM rfl (G0 18 (by decide)) (fun k a b => G k (by omega) (by omega)), ?_, ?_, ?_, ⟨s - 1, y, by omega, hl, ?_, ?_, ?_, fun j hj => ?_⟩, ?_, ?_⟩
    · exact Rtp_fr h1 (by rw [F 1 (by omega) (by omega)]) (F 2 (by omega) (by omega)) (G0 2 (by decide)) (G 1 (by decide) (by decide))
    · rw [F 0 (by omega) (by omega), G0 17 (by decide)]; exact h2
    · have e36 : ∀ f, (uA (uI τ 0 57 (nI (s - 1))) 36 f).1 36 = f := fun f => funext fun j => uA_own _ _ _ _
      rw [e36]
      have := WR_copy (v := 44) (k6 (s - 1) (by omega))
      rw [show (x + 40 - s + (s - 1)) % 40 = y by omega] at this
      refine WR_same (WR_rowlo this (fun j hj => ?_)) (fun k a b => by rw [uI_row _ _ (by omega), uI_row _ _ (by omega)])
      rw [cpR_lo hj, uI_row _ _ (by decide)]
    · rw [uI_I, if_pos ⟨rfl, rfl⟩]
    · rw [uI_ne _ _ (by decide), uI_I, if_pos ⟨rfl, rfl⟩]
    · rw [uA_row _ _ (by decide), uI_I, if_pos ⟨rfl, rfl⟩]
    · rw [G 38 (by decide) (by decide), show (y + 40 - (s - 1) + j) % 40 = (x + 40 - s + j) % 40 by omega]
      exact WR_same (k6 j (by omega)) (fun k a b => F k (by omega) (by omega))
    · exact Rsl_fr h5 (by rw [F 0 (by omega) (by omega)]) (fun k a b => F k (by omega) (by omega)) (G 45 (by decide) (by decide)) (G 46 (by decide) (by decide))
    · exact Rtd_fr h6 (fun k a b => F k (by omega) (by omega)) (G0 63 (by decide)) (fun k a b => G k (by omega) (by omega))
