/-! ===== PURE 34: parts of the relation; the tape ===== -/
theorem Rps_fr {H b : Nat} {σ σ' τ τ' : hSt} (h : Rps H b σ τ) (F : ∀ k, 52 ≤ k → k < 214 → σ'.1 k = σ.1 k) (g1 : τ'.1 0 57 = τ.1 0 57) (g2 : τ'.1 38 = τ.1 38) : Rps H b σ' τ' := by
  obtain ⟨s, x, d1, d2, d3, d4, d5, d6⟩ := h
  refine ⟨s, x, d1, d2, by rw [F 52 (by omega) (by omega)]; exact d3, by rw [F 52 (by omega) (by omega)]; exact d4, by rw [g1]; exact d5, fun j hj => ?_⟩
  rw [g2]
  exact WR_same (d6 j hj) (fun k q1 q2 => F k (by omega) (by omega))
theorem Rsl_fr {H b : Nat} {σ σ' τ τ' : hSt} (h : Rsl H b σ τ) (f0 : σ'.1 0 9 = σ.1 0 9) (F : ∀ k, 234 ≤ k → k < 246 → σ'.1 k = σ.1 k) (g1 : τ'.1 45 = τ.1 45) (g2 : τ'.1 46 = τ.1 46) : Rsl H b σ' τ' := by
  obtain ⟨hh, e1, e2, e3⟩ := h
  refine ⟨hh, e1, by rw [f0]; exact e2, fun j hj => ?_⟩
  rw [g1, g2]
  exact ⟨(e3 j hj).1, fun q => WR_same ((e3 j hj).2 q) (fun k q1 q2 => F k (by omega) (by omega))⟩
theorem Rtd_fr {H M : Nat} {σ σ' τ τ' : hSt} (h : Rtd H M σ τ) (F : ∀ k, 215 ≤ k → k < 219 → σ'.1 k = σ.1 k) (g1 : τ'.1 0 63 = τ.1 0 63) (G : ∀ k, 42 ≤ k → k < 45 → τ'.1 k = τ.1 k) : Rtd H M σ' τ' := by
  obtain ⟨nt, h1, h2, h3, h4⟩ := h
  refine ⟨nt, h1, by rw [F 215 (by omega) (by omega)]; exact h2, by rw [g1]; exact h3, ?_⟩
  rw [F 216 (by omega) (by omega), F 217 (by omega) (by omega), F 218 (by omega) (by omega), G 42 (by omega) (by omega), G 43 (by omega) (by omega), G 44 (by omega) (by omega)]
  exact h4
theorem Rtp_fr {σ σ' τ τ' : hSt} (h : Rtp σ τ) (f1 : σ'.1 1 1 = σ.1 1 1) (f2 : σ'.1 2 = σ.1 2) (g1 : τ'.1 0 2 = τ.1 0 2) (g2 : τ'.1 1 = τ.1 1) : Rtp σ' τ' := by
  unfold Rtp
  rw [f1, f2, g1, g2]
  exact h
theorem Rnow_fr {H b : Nat} {σ σ' τ τ' : hSt} (h : WR H b σ.1 44 (τ.1 36)) (F : ∀ k, 44 ≤ k → k < 48 → σ'.1 k = σ.1 k) (g : τ'.1 36 = τ.1 36) : WR H b σ'.1 44 (τ'.1 36) := by
  rw [g]
  exact WR_same h (fun k q1 q2 => F k q1 q2)
theorem rC_11_0' {α : Type} {P : SPt} (h : HC P) (f : Nat → Option α) : cR (P 0 0) (okr kC NC 6) f = f 1 := rC_11_0 h (c := 0) (by decide) f
theorem rC_11_3' {α : Type} {P : SPt} (h : HC P) (f : Nat → Option α) : cR (P 0 3) (okr kC NC 4) f = f 37 := rC_11_3 h (c := 0) (by decide) f
theorem rC_11_5' {α : Type} {P : SPt} (h : HC P) (f : Nat → Option α) : cR (P 0 5) (okr kC NC 10) f = f 44 := rC_11_5 h (c := 0) (by decide) f
theorem rC_11_6' {α : Type} {P : SPt} (h : HC P) (f : Nat → Option α) : cR (P 0 6) (okr kC NC 10) f = f 48 := rC_11_6 h (c := 0) (by decide) f
theorem rC_11_7' {α : Type} {P : SPt} (h : HC P) (f : Nat → Option α) : cR (P 0 7) (okr kC NC 2) f = f 52 := rC_11_7 h (c := 0) (by decide) f
theorem rC_11_8' {α : Type} {P : SPt} (h : HC P) (f : Nat → Option α) : cR (P 0 8) (okr kC NC 105) f = f 214 := rC_11_8 h (c := 0) (by decide) f
theorem rC_11_10' {α : Type} {P : SPt} (h : HC P) (f : Nat → Option α) : cR (P 0 10) (okr kC NC 9) f = f 215 := rC_11_10 h (c := 0) (by decide) f
theorem rC_11_11' {α : Type} {P : SPt} (h : HC P) (f : Nat → Option α) : cR (P 0 11) (okr kC NC 3) f = f 219 := rC_11_11 h (c := 0) (by decide) f
theorem rC_11_12' {α : Type} {P : SPt} (h : HC P) (f : Nat → Option α) : cR (P 0 12) (okr kC NC 1) f = f 224 := rC_11_12 h (c := 0) (by decide) f
theorem lp_5 {V X : Type} {s : V → Option (V ⊕ X)} {v0 v1 v2 v3 v4 : V} {x : X} (h0 : s v0 = some (.inl v1)) (h1 : s v1 = some (.inl v2)) (h2 : s v2 = some (.inl v3)) (h3 : s v3 = some (.inl v4)) (h4 : s v4 = some (.inr x)) : lp s fuel v0 = some x := by
  have e : fuel = 999995 + 1 + 1 + 1 + 1 + 1 := rfl
  rw [e, lp_inl h0, lp_inl h1, lp_inl h2, lp_inl h3, lp_inr h4]
theorem uAI_push {σ : hSt} {c c' k n : Nat} {f : Nat → Int32} {b x y : Int32} (h : c ≠ c') : uI (uI (uI (uA σ c f) c' k x) c n b) c' k y = uI (uA σ c (upd f n b)) c' k y := by
  unfold uI uA up2 upd
  refine Prod.ext ?_ rfl
  funext d j
  dsimp only
  by_cases h1 : d = c' ∧ j = k
  · rw [if_pos h1, if_pos h1]
  · rw [if_neg h1, if_neg h1]
    by_cases h2 : d = c
    · subst h2
      by_cases h3 : j = n
      · subst h3; simp [h]
      · have : ¬ (d = c' ∧ j = k) := fun q => h q.1
        simp [h3, this]
    · simp [h2, h1]
def bW (w k : Int32) : Int32 := vp_nar .byte ((w >>> (k &&& 31)).toInt8.toInt32)
def adB (w : Int32) (n : Nat) (f : Nat → Int32) : Nat → Int32 := upd (upd (upd (upd f n (bW w 24)) (n + 1) (bW w 16)) (n + 2) (bW w 8)) (n + 3) (bW w 0)
theorem adB_eq {w : Int32} {n : Nat} {f f' : Nat → Int32} (h : ∀ i, i < n → f i = f' i) : ∀ i, i < n + 4 → adB w n f i = adB w n f' i := by
  intro i hi
  unfold adB upd
  by_cases h3 : i = n + 3
  · simp [h3]
  by_cases h2 : i = n + 2
  · simp [h2]
  by_cases h1 : i = n + 1
  · simp [h1]
  by_cases h0 : i = n
  · simp [h0]
  simp [h0, h1, h2, h3, h i (by omega)]
/-- the tape's state: bytes and length -/
def tpC (σ : hSt) (f : Nat → Int32) (n : Nat) : hSt := uI (uA σ 2 f) 1 1 (nI n)
def tpM (τ : hSt) (f : Nat → Int32) (n : Nat) : hSt := uI (uA τ 1 f) 0 2 (nI n)
theorem uI_self {σ : hSt} {c k : Nat} {x : Int32} (h : σ.1 c k = x) : uI σ c k x = σ := by
  unfold uI up2
  refine Prod.ext ?_ rfl
  funext d j
  dsimp only
  by_cases q : d = c ∧ j = k
  · rw [if_pos q, q.1, q.2, h]
  · rw [if_neg q]
theorem addC_step {σ : hSt} {f : Nat → Int32} {n : Nat} {w l : Int32} (hP : HC σ.2.2) (hn : n < 2000) (hl : ¬ l < 0) : S_X6_add_3 1 w (l, tpC σ f n) = some (.inl (l + (-8), tpC σ (upd f n (bW w l)) (n + 1))) := by
  have hP' : HC (tpC σ f n).2.2 := hP
  have e1 : (tpC σ f n).1 1 1 = nI n := by unfold tpC; rw [uI_I, if_pos ⟨rfl, rfl⟩]
  unfold S_X6_add_3 F_X6_add_3b cL
  dsimp only
  rw [if_neg hl, e1, if_neg (show ¬ (2000 : Int32) ≤ nI n from nI_ge (b := 2000) hn (by decide)), rC_6_0 hP' (c := 1) (by decide), cG_t (inb_nI (by show n < 2000; omega) (by decide)), cl_nI (by omega), uI_ne _ _ (by omega), e1, nI_1]
  unfold tpC
  rw [uAI_push (by decide)]
  rfl
theorem addC_eq {σ : hSt} {f : Nat → Int32} {n : Nat} {w : Int32} (hP : HC σ.2.2) (hn : n + 4 ≤ 2000) : F_X6_add 1 w (tpC σ f n) = some (tpC σ (adB w n f) (n + 4)) := by
  unfold F_X6_add F_X6_add_3
  refine lp_5 (addC_step hP (by omega) (by decide)) (addC_step (l := 16) hP (by omega) (by decide)) (addC_step (l := 8) hP (by omega) (by decide)) (addC_step (l := 0) hP (by omega) (by decide)) ?_
  unfold S_X6_add_3 F_X6_add_3b
  dsimp only
  rw [if_pos (by decide)]
  rfl
theorem addM_step {τ : hSt} {f : Nat → Int32} {n : Nat} {w l : Int32} (hP : HM τ.2.2) (hn : n < 2000) (hl : ¬ l < 0) : S_X12_put_3 0 w (l, tpM τ f n) = some (.inl (l + (-8), tpM τ (upd f n (bW w l)) (n + 1))) := by
  have hP' : HM (tpM τ f n).2.2 := hP
  have e1 : (tpM τ f n).1 0 2 = nI n := by unfold tpM; rw [uI_I, if_pos ⟨rfl, rfl⟩]
  unfold S_X12_put_3 F_X12_put_3b cL
  dsimp only
  rw [if_neg hl, rM_1 hP', e1, cG_t (inb_nI (by rw [kM_1]; omega) (by decide)), cl_nI (by omega), uI_ne _ _ (by omega), e1, nI_1]
  unfold tpM
  rw [uAI_push (by decide)]
  rfl
theorem addM_eq {τ : hSt} {f : Nat → Int32} {n : Nat} {w : Int32} (hP : HM τ.2.2) (hn : n + 4 ≤ 2000) : F_X12_put 0 w (tpM τ f n) = some (tpM τ (adB w n f) (n + 4)) := by
  unfold F_X12_put F_X12_put_3
  refine lp_5 (addM_step hP (by omega) (by decide)) (addM_step (l := 16) hP (by omega) (by decide)) (addM_step (l := 8) hP (by omega) (by decide)) (addM_step (l := 0) hP (by omega) (by decide)) ?_
  unfold S_X12_put_3 F_X12_put_3b
  dsimp only
  rw [if_pos (by decide)]
  rfl
/-- the relation where the tape alone changes -/
theorem Rr_tape {b n : Nat} {σ τ : hSt} {f g : Nat → Int32} (h : Rr b σ τ) (hn : n ≤ 2000) (e : ∀ i, i < n → f i = g i) : Rr b (tpC σ f n) (tpM τ g n) := by
  obtain ⟨t, li, D, ht, hD, hC, hM, h1, h2, h3, h4, h5, h6⟩ := h
  have ht2 := (Rat_ok ht).2
  have ht3 : 3 ≤ t := by rcases ht.2 with q | q <;> omega
  have F : ∀ k, k ≠ 1 → k ≠ 2 → (tpC σ f n).1 k = σ.1 k := fun k a b => by
    unfold tpC
    rw [uI_row _ _ a, uA_row _ _ b]
  have G : ∀ k, k ≠ 0 → k ≠ 1 → (tpM τ g n).1 k = τ.1 k := fun k a b => by
    unfold tpM
    rw [uI_row _ _ a, uA_row _ _ b]
  have G0 : ∀ j, j ≠ 2 → (tpM τ g n).1 0 j = τ.1 0 j := fun j a => by
    unfold tpM
    rw [uI_ne _ _ (by omega), uA_row _ _ (by decide)]
  refine ⟨t, li, D, ht, hD, ⟨TC0_same hC.1 rfl (fun k a b => F k (by omega) (by omega)), ?_⟩, TM_fr hM rfl (G0 18 (by decide)) (fun k a b => G k (by omega) (by omega)), ⟨n, hn, ?_, ?_, ?_⟩, ?_, Rnow_fr h3 (fun k a b => F k (by omega) (by omega)) (G 36 (by decide) (by decide)), Rps_fr h4 (fun k a b => F k (by omega) (by omega)) (G0 57 (by decide)) (G 38 (by decide) (by decide)), Rsl_fr h5 (by rw [F 0 (by decide) (by decide)]) (fun k a b => F k (by omega) (by omega)) (G 45 (by decide) (by decide)) (G 46 (by decide) (by decide)), Rtd_fr h6 (fun k a b => F k (by omega) (by omega)) (G0 63 (by decide)) (fun k a b => G k (by omega) (by omega))⟩
  · rw [F (t + 16) (by omega) (by omega)]
    exact hC.2
  · unfold tpC; rw [uI_I, if_pos ⟨rfl, rfl⟩]
  · unfold tpM; rw [uI_I, if_pos ⟨rfl, rfl⟩]
  · intro i hi
    unfold tpC tpM
    rw [uI_row _ _ (by decide), uI_row _ _ (by decide), uA_own, uA_own]
    exact e i hi
  · rw [F 0 (by decide) (by decide), G0 17 (by decide)]
    exact h2
theorem feed_eq {b : Nat} {σ τ : hSt} {w1 w2 w3 w4 w5 : Int32} (h : Rr b σ τ) : ∃ v σ' τ', F_X11_feed 0 w1 w2 w3 w4 w5 σ = some (v, σ') ∧ F_X12_feed 0 w1 w2 w3 w4 w5 τ = some (v, τ') ∧ Rr b σ' τ' := by
  have h0 := h
  obtain ⟨t, li, D, ht, hD, hC, hM, ⟨n, a1, a2, a3, a4⟩, -⟩ := h
  have hP : HC σ.2.2 := hC.1.1
  have hQ : HM τ.2.2 := hM.1
  have s1 : σ = tpC σ (σ.1 2) n := by unfold tpC; rw [uA_self, uI_self a2]
  have s2 : τ = tpM τ (τ.1 1) n := by unfold tpM; rw [uA_self, uI_self a3]
  unfold F_X11_feed F_X12_feed
  rw [rC_11_0' hP, a2, a3, show (20 : Int32) = nI 20 from rfl, nI_add]
  by_cases hn : n + 20 ≤ 2000
  · have c : nI (n + 20) ≤ (2000 : Int32) := nI_le (b := 2000) hn (by decide)
    rw [if_pos c, if_pos c, rC_11_0' hP]
    refine ⟨nI (n + 20), tpC σ (adB w5 (n + 16) (adB w4 (n + 12) (adB w3 (n + 8) (adB w2 (n + 4) (adB w1 n (σ.1 2)))))) (n + 20), tpM τ (adB w5 (n + 16) (adB w4 (n + 12) (adB w3 (n + 8) (adB w2 (n + 4) (adB w1 n (τ.1 1)))))) (n + 20), ?_, ?_, Rr_tape h0 hn (adB_eq (adB_eq (adB_eq (adB_eq (adB_eq a4)))))⟩
    · rw [show F_X6_add 1 w1 σ = _ from (congrArg _ s1).trans (addC_eq hP (by omega))]
      simp only [Option.bind_some]
      rw [rC_11_0' (P := (tpC σ _ _).2.2) hP, addC_eq hP (by omega)]
      simp only [Option.bind_some]
      rw [rC_11_0' (P := (tpC σ _ _).2.2) hP, addC_eq hP (by omega)]
      simp only [Option.bind_some]
      rw [rC_11_0' (P := (tpC σ _ _).2.2) hP, addC_eq hP (by omega)]
      simp only [Option.bind_some]
      rw [rC_11_0' (P := (tpC σ _ _).2.2) hP, addC_eq hP (by omega)]
      simp only [Option.bind_some]
      rw [rC_11_0' (P := (tpC σ _ _).2.2) hP]
      unfold tpC
      rw [uI_I, if_pos ⟨rfl, rfl⟩]
    · rw [show F_X12_put 0 w1 τ = _ from (congrArg _ s2).trans (addM_eq hQ (by omega))]
      simp only [Option.bind_some]
      rw [addM_eq hQ (by omega)]
      simp only [Option.bind_some]
      rw [addM_eq hQ (by omega)]
      simp only [Option.bind_some]
      rw [addM_eq hQ (by omega)]
      simp only [Option.bind_some]
      rw [addM_eq hQ (by omega)]
      simp only [Option.bind_some]
      unfold tpM
      rw [uI_I, if_pos ⟨rfl, rfl⟩]
  · have c : ¬ nI (n + 20) ≤ (2000 : Int32) := nI_ge (a := 2000) (by omega) (by omega)
    rw [if_neg c, if_neg c]
    exact ⟨-1, σ, τ, rfl, rfl, h0⟩
theorem back_eq {b : Nat} {σ τ : hSt} {w : Int32} (h : Rr b σ τ) : ∃ v σ' τ', F_X11_back 0 w σ = some (v, σ') ∧ F_X12_back 0 w τ = some (v, τ') ∧ Rr b σ' τ' := by
  have h0 := h
  obtain ⟨t, li, D, ht, hD, hC, hM, ⟨n, a1, a2, a3, a4⟩, -⟩ := h
  have hP : HC σ.2.2 := hC.1.1
  unfold F_X11_back F_X12_back cL
  by_cases hw : w < 0
  · rw [if_pos hw, if_pos hw]
    exact ⟨-1, σ, τ, rfl, rfl, h0⟩
  · rw [if_neg hw, if_neg hw, rC_11_0' hP, a2, a3]
    obtain ⟨j, hj, e⟩ := nI_of hw
    subst e
    by_cases hjn : j ≤ n
    · have c : nI j ≤ nI n := nI_le hjn (by omega)
      rw [if_pos c, if_pos c, rC_11_0' hP, a2]
      dsimp only
      rw [rC_11_0' (P := (uI σ 1 1 (nI n - nI j)).2.2) hP, pk_sub hjn, uI_I, if_pos ⟨rfl, rfl⟩, uI_I, if_pos ⟨rfl, rfl⟩]
      have := Rr_tape (f := σ.1 2) (g := τ.1 1) (n := n - j) h0 (by omega) (fun i hi => a4 i (by omega))
      unfold tpC tpM at this
      rw [uA_self, uA_self] at this
      exact ⟨_, _, _, rfl, rfl, this⟩
    · have c : ¬ nI j ≤ nI n := nI_ge (by omega) hj
      rw [if_neg c, if_neg c]
      exact ⟨-1, σ, τ, rfl, rfl, h0⟩
theorem place_eq {b : Nat} {σ τ : hSt} (h : Rr b σ τ) : ∃ v, F_X11_place 0 σ = some v ∧ F_X12_place 0 τ = some v := by
  obtain ⟨t, li, D, ht, hD, hC, hM, -, h2, -⟩ := h
  exact ⟨σ.1 0 4, rfl, by rw [h2]; rfl⟩
