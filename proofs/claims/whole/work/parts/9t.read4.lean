/-! ===== PURE 84: read ===== -/
theorem TC_Q {t : Nat} {D : TxD} {s s' : hSt} (h : TC t D s) (hP : HC s'.2.2) (h1 : ∀ k, t ≤ k → k < t + 17 → s'.1 k = s.1 k) (h2 : s'.2.1 (t + 15) = s.2.1 (t + 15)) : TC t D s' := by
  have h' := TC_P (s' := (s'.1, s.2.1, s'.2.2)) h hP h1 rfl
  refine ⟨h'.1, ?_⟩
  rw [h2]
  exact h'.2
theorem TM_S {li : Nat} {D : TxD} {τ τ' : hSt} (hD : TXok D) (h : TM li D τ) (hP : τ'.2.2 = τ.2.2) (h7 : τ'.2.1 7 = τ.2.1 7) (h18 : τ'.1 0 18 = τ.1 0 18) (hE : ∀ c w i, 11 ≤ c → c ≤ 31 → wdM c = w → i < w → τ'.1 c (w * li + i) = τ.1 c (w * li + i)) : TM li D τ' := by
  obtain ⟨x1, x2, x3, x4, x5, x6, x7, x8, x9⟩ := hD
  obtain ⟨a1, a2, ⟨p1, p2, p3, p4⟩, a4, a5, ⟨k, x, b1, b2, b3⟩, ⟨w1, w2⟩, ⟨g1, g2⟩, a9, a10⟩ := h
  have one : ∀ c, 11 ≤ c → c ≤ 31 → wdM c = 1 → τ'.1 c li = τ.1 c li := fun c p q r => by
    have := hE c 1 0 p q r (by decide)
    rwa [show 1 * li + 0 = li by omega] at this
  refine ⟨by rw [hP]; exact a1, ⟨by rw [h18]; exact a2.1, a2.2⟩, ⟨?_, ?_, ?_, ?_⟩, fun i hi => ⟨?_, ?_⟩, fun m hm => ?_, ⟨k, x, ?_, ?_, ?_⟩, ⟨?_, fun i hi => ?_⟩, ⟨?_, fun i hi => ?_⟩, fun i hi => ⟨?_, ?_, ?_⟩, by rw [h7]; exact a10⟩
  · rw [one 11 (by decide) (by decide) rfl]; exact p1
  · rw [one 14 (by decide) (by decide) rfl]; exact p2
  · rw [one 18 (by decide) (by decide) rfl]; exact p3
  · rw [one 19 (by decide) (by decide) rfl]; exact p4
  · rw [hE 12 6 i (by decide) (by decide) rfl (by omega)]; exact (a4 i hi).1
  · rw [hE 13 6 i (by decide) (by decide) rfl (by omega)]; exact (a4 i hi).2
  · rw [hE 15 4 m (by decide) (by decide) rfl (by omega)]; exact a5 m hm
  · rw [one 23 (by decide) (by decide) rfl]; exact b1
  · rw [one 24 (by decide) (by decide) rfl]; exact b2
  · refine b3.imp id (fun q G' hG => q G' (fun c i p r p' r' => (hG c i p r p' r').trans ?_))
    have := hE c (wdM c) (i - wdM c * li) (by omega) r rfl (by omega)
    rwa [show wdM c * li + (i - wdM c * li) = i by omega] at this
  · have := hE 16 2 0 (by decide) (by decide) rfl (by decide)
    rw [show 2 * li + 0 = 2 * li from rfl] at this
    rw [this]; exact w1
  · have := hE 17 24 i (by decide) (by decide) rfl (by omega)
    rw [show 24 * li + i = 12 * (2 * li) + i by omega] at this
    rw [this]; exact w2 i hi
  · rw [hE 16 2 1 (by decide) (by decide) rfl (by decide)]; exact g1
  · have := hE 17 24 (12 + i) (by decide) (by decide) rfl (by omega)
    rw [show 24 * li + (12 + i) = 12 * (2 * li + 1) + i by omega] at this
    rw [this]; exact g2 i hi
  · rw [hE 20 4 i (by decide) (by decide) rfl (by omega)]; exact (a9 i hi).1
  · rw [hE 21 4 i (by decide) (by decide) rfl (by omega)]; exact (a9 i hi).2.1
  · rw [hE 22 4 i (by decide) (by decide) rfl (by omega)]; exact (a9 i hi).2.2
theorem Rst_rd {H M b : Nat} {σ σ' τ τ' : hSt} (h : Rst H M b σ τ) (c0 : σ'.1 0 9 = σ.1 0 9) (cr : ∀ c, 44 ≤ c → σ'.1 c = σ.1 c) (m57 : τ'.1 0 57 = τ.1 0 57) (m63 : τ'.1 0 63 = τ.1 0 63) (mr : ∀ c, 36 ≤ c → τ'.1 c = τ.1 c) (t1 : σ'.1 1 1 = 0) (t2 : τ'.1 0 2 = 0) (pl : σ'.1 0 4 = τ'.1 0 17) : Rst H M b σ' τ' := by
  obtain ⟨-, -, c1, ⟨s, x, d1, d2, d3, d4, d5, d6⟩, ⟨hh, e1, e2, e3⟩, ⟨nt, g1, g2, g3, g4⟩⟩ := h
  refine ⟨⟨0, by decide, t1, t2, fun i hi => absurd hi (by omega)⟩, pl, ?_, ⟨s, x, d1, d2, ?_, ?_, ?_, ?_⟩, ⟨hh, e1, ?_, ?_⟩, ⟨nt, g1, ?_, ?_, ?_⟩⟩
  · rw [mr 36 (by decide)]; exact WR_same c1 (fun k p q => cr k (by omega))
  · rw [cr 52 (by decide)]; exact d3
  · rw [cr 52 (by decide)]; exact d4
  · rw [m57]; exact d5
  · rw [mr 38 (by decide)]
    exact fun j hj => WR_same (d6 j hj) (fun k p q => cr k (by omega))
  · rw [c0]; exact e2
  · rw [mr 45 (by decide), mr 46 (by decide)]
    exact fun j hj => ⟨(e3 j hj).1, fun q => WR_same ((e3 j hj).2 q) (fun k p q => cr k (by omega))⟩
  · rw [cr 215 (by decide)]; exact g2
  · rw [m63]; exact g3
  · rw [cr 216 (by decide), cr 217 (by decide), cr 218 (by decide), mr 42 (by decide), mr 43 (by decide), mr 44 (by decide)]; exact g4
theorem loop297 {τ : hSt} (hQ : HM τ.2.2) : F_X12_read_297 0 0 τ = some (0, uI (uI (uI τ 45 0 0) 45 1 0) 45 2 0) := by
  have st : ∀ i z, i < 3 → HM z.2.2 → S_X12_read_297 0 (nI i, z) = some (.inl (nI (i + 1), uI z 45 i 0)) := fun i z hi hz => by
    unfold S_X12_read_297 F_X12_read_297b cL
    dsimp only
    rw [if_neg (show ¬ (3 : Int32) ≤ nI i from nI_ge (b := 3) hi (by decide)), rM_67 hz, cG_t (inb_nI (by rw [kM_45]; exact hi) (by decide)), cl_nI (by omega), nI_1]
    rfl
  unfold F_X12_read_297
  show lp (S_X12_read_297 0) fuel (nI 0, τ) = _
  obtain ⟨N, hN⟩ : ∃ N, fuel = N + 4 := ⟨fuel - 4, by rw [fuel_v]⟩
  have s0 : S_X12_read_297 0 (nI 0, τ) = some (.inl (nI 1, uI τ 45 0 0)) := st 0 τ (by decide) hQ
  have s1 : S_X12_read_297 0 (nI 1, uI τ 45 0 0) = some (.inl (nI 2, uI (uI τ 45 0 0) 45 1 0)) := st 1 _ (by decide) hQ
  have s2 : S_X12_read_297 0 (nI 2, uI (uI τ 45 0 0) 45 1 0) = some (.inl (nI 3, uI (uI (uI τ 45 0 0) 45 1 0) 45 2 0)) := st 2 _ (by decide) hQ
  rw [hN, lp_inl s0, lp_inl s1, lp_inl s2]
  refine lp_inr ?_
  unfold S_X12_read_297 F_X12_read_297b
  dsimp only
  rw [if_pos (show (3 : Int32) ≤ nI 3 by decide)]
/-- the text of nothing -/
def D00 : TxD := ((fun i => if i = 3 then 1 else 0), (fun _ _ => 0), [], usualZ)
theorem PR_start {n t s : Nat} {b : Nat → Nat} {σ4 τ4 : hSt} (hs : s < 2) (lc : LvC n b t 0 σ4) (lm : LvM n b 0 τ4) (c7 : σ4.1 37 7 = 0) (m15 : τ4.1 0 15 = 0) (tx : σ4.1 t 0 = 0 ∧ σ4.1 t 3 = 0 ∧ σ4.1 t 8 = 1 ∧ σ4.1 t 9 = 0) (tl : ∃ L, L ≤ 401 ∧ σ4.1 (t + 4) 2 = nI L ∧ cLaw (σ4.1 (t + 5)) L 0 [] usualZ) (tw : σ4.1 (t + 7) 1 = 0) (tf : σ4.1 (t + 9) 1 = 0)
    (mf : τ4.1 0 12 = 0 ∧ τ4.1 0 19 = nI s ∧ τ4.1 0 20 = 0 ∧ τ4.1 0 38 = nI (130 * s) ∧ τ4.1 0 44 = nI (420 * s)) (mr : τ4.1 11 s = 0 ∧ τ4.1 14 s = 0 ∧ τ4.1 16 (2 * s) = 0 ∧ τ4.1 16 (2 * s + 1) = 0 ∧ τ4.1 18 s = 1 ∧ τ4.1 19 s = 0 ∧ τ4.1 23 s = 0 ∧ τ4.1 24 s = 0) : PR n b t s 0 σ4 τ4 := by
  obtain ⟨y1, y2, y3, y4, y5⟩ := mf
  obtain ⟨z1, z2, z3, z4, z5, z6, z7, z8⟩ := mr
  have no : ∀ {P : Prop} (i : Nat), i < 0 → P := fun i h => absurd h (Nat.not_lt_zero i)
  refine ⟨0, 0, D00, fun _ => (fun _ => 0, 0), ⟨lc, lm, c7, m15, by decide, fun q => absurd rfl q⟩, ⟨hs, ⟨by decide, by decide, by decide⟩, ⟨tx.1, tx.2.1, tx.2.2.2⟩, ⟨y2, z1, z2, z6, y3, y1⟩, 0, 0, y5, by decide, y4, by decide⟩, fun _ => ⟨?_, ⟨tx.2.2.1, fun i hi => no i hi, fun i hi => no i hi, tl, ⟨tw, fun i hi => no i hi⟩, ⟨tf, fun i hi => no i hi⟩, fun i hi => no i hi⟩, ⟨z5, fun i hi => no i hi, fun i hi => no i hi, ⟨0, 0, z7, z8, Or.inl ⟨rfl, by decide, rfl, rfl⟩⟩, ⟨z3, fun i hi => no i hi⟩, ⟨z4, fun i hi => no i hi⟩, fun i hi => no i hi⟩, ?_⟩⟩
  · exact ⟨by decide, by decide, by decide, by decide, by decide, by decide, fun i hi => no i hi, fun i hi => no i hi, fun i hi => no i hi⟩
  · exact ⟨fun i hi => no i hi, fun i j hi => no i hi, fun i hi => no i hi, fun i hi => no i hi, fun i hi => no i hi⟩
theorem read_eq {B : Nat} {σ τ : hSt} (h : Rr B σ τ) : ∃ v σ' τ', F_X11_read 0 σ = some (v, σ') ∧ F_X12_read 0 τ = some (v, τ') ∧ Rr B σ' τ' := by
  obtain ⟨t, li, D, ht, hD, hC, hM, hR⟩ := h
  have hR' := hR
  obtain ⟨⟨n, hn, e11, e02, hby⟩, -, -, ⟨ps, px, pd1, pd2, pd3, pd4, -⟩, -⟩ := hR'
  have hP : HC σ.2.2 := hC.1.1
  have hQ : HM τ.2.2 := hM.1
  have hli := hM.2.1.2
  have e18 := hM.2.1.1
  obtain ⟨s, hs⟩ : ∃ s, li + s = 1 := ⟨1 - li, by omega⟩
  have hs2 : s < 2 := by omega
  obtain ⟨t', htt⟩ : ∃ t', (t = 3 ∧ t' = 20) ∨ (t = 20 ∧ t' = 3) := by
    rcases ht.2 with e | e
    · exact ⟨20, Or.inl ⟨e, rfl⟩⟩
    · exact ⟨3, Or.inr ⟨e, rfl⟩⟩
  have ht' : t' = 3 ∨ t' = 20 := by omega
  have hP2 : σ.2.2 0 2 = some t' := by
    have h1 := ht.1
    rcases hP.2.2.2.1 with ⟨a, c⟩ | ⟨a, c⟩
    · have : t = 3 := Option.some.inj (h1.symm.trans a)
      rw [c]; congr 1; omega
    · have : t = 20 := Option.some.inj (h1.symm.trans a)
      rw [c]; congr 1; omega
  obtain ⟨b, hb⟩ : ∃ b : Nat → Nat, b = fun i => bT (σ.1 2) i := ⟨_, rfl⟩
  have hb2 : ∀ i, b i < 256 := fun i => by rw [hb]; exact bT_eq.2
  have hb1 : ∀ i, (σ.1 2 i) &&& 255 = nI (b i) := fun i => by rw [hb]; exact bT_eq.1
  obtain ⟨σ4, c1, c2, c3, c4, c5, c6, c7, c8, c9, c10, c11⟩ := parse_open (n := n) (b := b) ⟨hP, e11, hn, fun i _ => hb1 i, hb2⟩ ht'
  obtain ⟨τ4, m1, m2, m3, m4, m5, m6, m7, m8⟩ := read_setM hQ hn e02 (fun i hi => by rw [← hby i hi]; exact hb1 i) hb2 hM.2.2.2.2.2.2.2.2.2 e18 hs
  have P0 : PR n b t' s 0 σ4 τ4 := PR_start hs2 c2 m2 c3 m3 c7 c8 c9 c10 ⟨m6.2.1, m6.2.2.1, m6.2.2.2.1, m6.2.2.2.2.1, m6.2.2.2.2.2⟩ (by
    refine ⟨?_, ?_, ?_, ?_, ?_, ?_, ?_, ?_⟩
    · rw [m8 11 (by decide) (by decide) (by decide) (by decide) (by decide), if_neg (by omega), if_neg (by omega), if_neg (by omega), if_neg (by omega), if_neg (by omega), if_neg (by omega), if_neg (by omega), if_pos ⟨rfl, rfl⟩]
    · rw [m8 14 (by decide) (by decide) (by decide) (by decide) (by decide), if_neg (by omega), if_neg (by omega), if_neg (by omega), if_neg (by omega), if_neg (by omega), if_neg (by omega), if_pos ⟨rfl, rfl⟩]
    · rw [m8 16 (by decide) (by decide) (by decide) (by decide) (by decide), if_neg (by omega), if_neg (by omega), if_neg (by omega), if_neg (by omega), if_neg (by omega), if_pos ⟨rfl, rfl⟩]
    · rw [m8 16 (by decide) (by decide) (by decide) (by decide) (by decide), if_neg (by omega), if_neg (by omega), if_neg (by omega), if_neg (by omega), if_pos ⟨rfl, rfl⟩]
    · rw [m8 18 (by decide) (by decide) (by decide) (by decide) (by decide), if_neg (by omega), if_neg (by omega), if_neg (by omega), if_pos ⟨rfl, rfl⟩]
    · rw [m8 19 (by decide) (by decide) (by decide) (by decide) (by decide), if_neg (by omega), if_neg (by omega), if_pos ⟨rfl, rfl⟩]
    · rw [m8 23 (by decide) (by decide) (by decide) (by decide) (by decide), if_neg (by omega), if_pos ⟨rfl, rfl⟩]
    · rw [m8 24 (by decide) (by decide) (by decide) (by decide) (by decide), if_pos ⟨rfl, rfl⟩])
  obtain ⟨σ5, τ5, l1, l2, l3, l4, l5⟩ := readLoop hn hb2 400 0 0 rfl (Nat.le_refl _) σ4 τ4 P0
  have EM : F_X12_read 0 τ = F_X12_read_212 0 τ5 := by
    rw [m1]
    exact l2 fuel (by rw [fuel_v]; decide)
  have EP : F_X4_parse 37 1 t' σ = F_X4_parse_75 37 σ5 := by
    rw [c1]
    exact l1 fuel (by rw [fuel_v]; decide)
  -- what stayed in the class and in the model
  have rC : ∀ c, c ≠ 37 → c ≠ 39 → c ≠ 40 → ¬ (t' ≤ c ∧ c < t' + 17) → σ5.1 c = σ.1 c := fun c p q r u => by rw [l3.2.2 c p (by omega), c5 c p q r u]
  have jC : ∀ c, c ≠ 41 → c ≠ 42 → c ≠ 43 → σ5.2.1 c = σ.2.1 c := fun c p q r => by rw [l3.2.1 c q r, c6 c p]
  have pC : σ5.2.2 = up2 σ.2.2 37 3 (some t') := by rw [l3.1, c4]
  have P5 : HC σ5.2.2 := by rw [pC]; exact HC_37 hP ht'
  have pM : τ5.2.2 = τ.2.2 := by rw [l4.1, m4]
  have Q5 : HM τ5.2.2 := by rw [pM]; exact hQ
  have kM' : τ5.2.1 7 = τ.2.1 7 := by rw [l4.2.1 7 (by decide), m5 7 (by decide)]
  have fM : ∀ j, ¬ sF j → j ≠ 2 → j ≠ 4 → j ≠ 10 → j ≠ 19 → τ5.1 0 j = τ.1 0 j := fun j p q r u v => by
    rw [l4.2.2.1 j p]
    unfold sF at p
    exact m7 j (by omega) (by omega) (by omega) (by omega) (by omega) (by omega) (by omega) (by omega) (by omega) (by omega) (by omega)
  have t02 : τ5.1 0 2 = 0 := by rw [l4.2.2.1 2 (by unfold sF; omega)]; exact m6.1
  have s19 : τ5.1 0 19 = nI s := by rw [l4.2.2.1 19 (by unfold sF; omega)]; exact m6.2.2.1
  have rM : ∀ c, 33 ≤ c → τ5.1 c = τ.1 c := fun c p => funext fun j => by
    rw [l4.2.2.2 c j (by omega) (by unfold sR; omega), m8 c (by omega) (by omega) (by omega) (by omega) (by omega), if_neg (by omega), if_neg (by omega), if_neg (by omega), if_neg (by omega), if_neg (by omega), if_neg (by omega), if_neg (by omega), if_neg (by omega)]
  have eM : ∀ c w i, 11 ≤ c → c ≤ 31 → wdM c = w → i < w → τ5.1 c (w * li + i) = τ.1 c (w * li + i) := fun c w i p q r u => by
    have hw : ¬ (wdM c * s ≤ w * li + i ∧ w * li + i < wdM c * s + wdM c) := by
      rw [r]
      rcases (show li = 0 ∧ s = 1 ∨ li = 1 ∧ s = 0 by omega) with ⟨a, a'⟩ | ⟨a, a'⟩ <;> subst a a' <;> omega
    rw [l4.2.2.2 c _ (by omega) (by unfold sR; omega), m8 c (by omega) (by omega) (by omega) (by omega) (by omega)]
    have w1 : ∀ c', c' = 24 ∨ c' = 23 ∨ c' = 19 ∨ c' = 18 ∨ c' = 14 ∨ c' = 11 → wdM c' = 1 := by
      intro c' hc'
      rcases hc' with e | e | e | e | e | e <;> subst e <;> rfl
    have w16 : wdM 16 = 2 := rfl
    have n1 : ∀ c', c' = 24 ∨ c' = 23 ∨ c' = 19 ∨ c' = 18 ∨ c' = 14 ∨ c' = 11 → ¬ (c = c' ∧ w * li + i = s) := fun c' hc' z => by
      rw [z.1, w1 c' hc'] at hw
      omega
    rw [if_neg (n1 24 (by decide)), if_neg (n1 23 (by decide)), if_neg (n1 19 (by decide)), if_neg (n1 18 (by decide)), if_neg (fun z => by rw [z.1, w16] at hw; omega), if_neg (fun z => by rw [z.1, w16] at hw; omega), if_neg (n1 14 (by decide)), if_neg (n1 11 (by decide))]
  -- the end, where something is wrong
  have bad : ∀ (v pl : Int32) (σ6 : hSt), ¬ v = 0 → F_X4_parse_75 37 σ5 = some σ6 → σ6.2 = σ5.2 → (∀ c, c ≠ 37 → σ6.1 c = σ5.1 c) → σ6.1 37 5 = v → σ6.1 37 6 = pl → F_X12_read_212 0 τ5 = some (v, uI τ5 0 17 pl) → ∃ v σ' τ', F_X11_read 0 σ = some (v, σ') ∧ F_X12_read 0 τ = some (v, τ') ∧ Rr B σ' τ' := fun v pl σ6 hv g1 g2 g3 g4 g5 g6 => by
    have P6 : HC σ6.2.2 := by rw [g2]; exact P5
    obtain ⟨σ7, h7⟩ : ∃ x, x = uI (uI σ6 1 1 0) 0 4 pl := ⟨_, rfl⟩
    have e7 : σ7.2 = σ6.2 := by rw [h7]; rfl
    have r7 : ∀ c, c ≠ 0 → c ≠ 1 → σ7.1 c = σ6.1 c := fun c p q => by rw [h7, uI_row _ _ p, uI_row _ _ q]
    refine ⟨v, σ7, uI τ5 0 17 pl, ?_, EM.trans g6, t, li, D, ⟨?_, ht.2⟩, hD, ?_, ?_, ?_⟩
    · have f48 : F_X11_read_48 0 σ7 = some (v, σ7) := by
        unfold F_X11_read_48
        rw [rC_11_3' (by rw [e7]; exact P6), r7 37 (by decide) (by decide), g4]
      unfold F_X11_read
      rw [rC_11_3' hP, rC_11_0' hP, cR_t hP2 (t_ok ht').1, EP, g1, Option.bind_some, rC_11_0' P6, cL_e, rC_11_3' (show HC (uI σ6 1 1 0).2.2 from P6), cL_e, uI_row _ _ (show (37 : Nat) ≠ 1 by decide), g5, ← h7, rC_11_3' (by rw [e7]; exact P6), r7 37 (by decide) (by decide), g4, if_neg hv, f48]
    · rw [e7, g2, pC, up2_ne (by omega)]; exact ht.1
    · refine TC_Q hC (by rw [e7]; exact P6) (fun k p q => ?_) ?_
      · have := (t_ok ht.2).2.2
        rw [r7 k (by omega) (by omega), g3 k (by omega), rC k (by omega) (by omega) (by omega) (by omega)]
      · have := (t_ok ht.2).2.2
        rw [e7, g2, jC (t + 15) (by omega) (by omega) (by omega)]
    · refine TM_S hD hM pM kM' ?_ (fun c w i p q r u => ?_)
      · rw [uI_ne _ _ (by omega)]; exact fM 18 (by unfold sF; omega) (by decide) (by decide) (by decide) (by decide)
      · rw [uI_row _ _ (by omega)]; exact eM c w i p q r u
    · refine Rst_rd hR ?_ (fun c p => ?_) ?_ ?_ (fun c p => ?_) ?_ ?_ ?_
      · rw [h7, uI_ne _ _ (by omega), uI_row _ _ (by decide), g3 0 (by decide), rC 0 (by decide) (by decide) (by decide) (by omega)]
      · rw [r7 c (by omega) (by omega), g3 c (by omega), rC c (by omega) (by omega) (by omega) (by omega)]
      · rw [uI_ne _ _ (by omega)]; exact fM 57 (by unfold sF; omega) (by decide) (by decide) (by decide) (by decide)
      · rw [uI_ne _ _ (by omega)]; exact fM 63 (by unfold sF; omega) (by decide) (by decide) (by decide) (by decide)
      · rw [uI_row _ _ (by omega)]; exact rM c (by omega)
      · rw [h7, uI_row _ _ (by decide), uI_I, if_pos ⟨rfl, rfl⟩]
      · rw [uI_ne _ _ (by omega)]; exact t02
      · rw [h7, uI_I, if_pos ⟨rfl, rfl⟩, uI_I, if_pos ⟨rfl, rfl⟩]
  rcases l5 with ⟨k', w, wp, D', F', r, tn, tw⟩ | ⟨f, j, d1, d2⟩
  · have h13 := r.2.1.2.2.2.2.2
    have e15 := r.2.2.2.1
    obtain ⟨σ6, g1, g2, g3, g4, g5, g6⟩ := p75_alive r
    by_cases hw : w = 0
    · -- all is well
      subst hw
      obtain ⟨-, ⟨hH, hMm, hS⟩, ⟨n0, n3, n9⟩, ⟨-, n11, n14, n19, -, -⟩, -⟩ := tn
      obtain ⟨xok, ⟨x1, x2, x3, ⟨L, x4, x5, x6⟩, x7, x8, x9⟩, ⟨y1, y2, y3, y4, y5, y6, y7⟩, -⟩ := tw rfl
      have P6 : HC σ6.2.2 := by rw [g2]; exact P5
      obtain ⟨σ7, h7⟩ : ∃ x, x = uI (uI σ6 1 1 0) 0 4 (-1) := ⟨_, rfl⟩
      have e7 : σ7.2 = σ6.2 := by rw [h7]; rfl
      have r7 : ∀ c, c ≠ 0 → c ≠ 1 → σ7.1 c = σ6.1 c := fun c p q => by rw [h7, uI_row _ _ p, uI_row _ _ q]
      have a1 : σ7.2.2 0 1 = some t := by rw [e7, g2, pC, up2_ne (by omega)]; exact ht.1
      have a2 : σ7.2.2 0 2 = some t' := by rw [e7, g2, pC, up2_ne (by omega)]; exact hP2
      obtain ⟨σ8, h8⟩ : ∃ x, x = uP (uP σ7 0 1 (some t')) 0 2 (some t) := ⟨_, rfl⟩
      have e8 : σ8.2.2 = up2 (up2 σ7.2.2 0 1 (some t')) 0 2 (some t) := by rw [h8]; rfl
      have P8 : HC σ8.2.2 := by rw [e8]; exact HC_tx (by rw [e7]; exact P6) htt
      have i8 : σ8.1 = σ7.1 := by rw [h8]; rfl
      have j8 : σ8.2.1 = σ7.2.1 := by rw [h8]; rfl
      have b1 : σ8.2.2 0 1 = some t' := by rw [e8, up2_ne (by omega), up2_is]
      have t3' := (t_ok ht').2.2
      have R6 : ∀ c, c ≠ 0 → c ≠ 1 → c ≠ 37 → σ8.1 c = σ5.1 c := fun c p q r => by rw [i8, r7 c p q, g3 c r]
      obtain ⟨Hm, hHm1⟩ : ∃ Hm : Nat → Nat, Hm = fun i => if i < tM D' then tHm D' i else 0 := ⟨_, rfl⟩
      have hHm2 : ∀ i, i < tM D' → Hm i = tHm D' i := fun i hi => by rw [hHm1]; exact if_pos hi
      have hHm := xok.2.2.2.2.2.2.2.1
      have hHm6 : ∀ i, i < 4 → Hm i < 6 := fun i hi => by
        by_cases q : i < tM D'
        · rw [hHm2 i q]; have := hHm i q; omega
        · rw [hHm1]; show (if i < tM D' then tHm D' i else 0) < 6; rw [if_neg q]; decide
      have hHmH : ∀ i, i < tM D' → Hm i < tH D' := fun i hi => by rw [hHm2 i hi]; exact hHm i hi
      -- the model
      obtain ⟨τ7, k7⟩ : ∃ x, x = uI (uI τ5 0 17 (-1)) 0 18 (nI s) := ⟨_, rfl⟩
      have Q7 : HM τ7.2.2 := by rw [k7]; exact Q5
      have R7 : ∀ c, c ≠ 0 → τ7.1 c = τ5.1 c := fun c p => by rw [k7, uI_row _ _ p, uI_row _ _ p]
      have f7 : ∀ j, j ≠ 17 → j ≠ 18 → τ7.1 0 j = τ5.1 0 j := fun j p q => by rw [k7, uI_ne _ _ (by omega), uI_ne _ _ (by omega)]
      have e18' : τ7.1 0 18 = nI s := by rw [k7, uI_I, if_pos ⟨rfl, rfl⟩]
      have mb := beginsM_eq (τ := τ7) (li := s) (H := tH D') (M := tM D') (Hm := Hm) Q7 ⟨e18', hs2, by rw [R7 11 (by decide)]; exact n11, hH, by rw [R7 14 (by decide)]; exact n14, hMm⟩ hHm6 (fun i hi => by rw [hHm2 i hi, R7 15 (by decide)]; exact y3 i hi)
      have hz : ∀ j, j < 380 → zR 380 (τ7.1 37) j = 0 := zR_lo
      obtain ⟨σ9, q1, q2, q3, q4⟩ := beginC_eq (w := 44) (t := t') (M := tM D') (Hm := Hm) (r := zR 380 (τ7.1 37)) P8 (t_ok ht').1 (by decide) (by omega) (by rw [R6 t' (by omega) (by omega) (by omega)]; exact n3) hMm hHm6 (fun m hm => by rw [R6 (t' + 3) (by omega) (by omega) (by omega), hHm2 m hm]; exact x3 m hm) hz
      obtain ⟨r0, hr0⟩ : ∃ r0, r0 = bgN Hm (zR 380 (τ7.1 37)) (tM D') := ⟨_, rfl⟩
      rw [← hr0] at mb q4
      have hr120 : r0 120 = 0 := by rw [hr0, bgN_hi (tM D') hMm (fun i hi => hHm6 i (by omega)) 120 (by decide)]; exact hz 120 (by decide)
      have hRH0 : RH (tH D') r0 := by
        rw [hr0]
        exact RH_bgN (fun x y _ _ _ => ⟨hz _ (by omega), hz _ (by omega)⟩) hH (tM D') hMm hHmH
      have P9 : HC σ9.2.2 := by rw [q2]; exact P8
      obtain ⟨σ12, h12⟩ : ∃ x, x = uI (uI (uI σ9 52 2 0) 215 3 0) 0 9 0 := ⟨_, rfl⟩
      have e12 : σ12.2 = σ9.2 := by rw [h12]; rfl
      have r12 : ∀ c, c ≠ 0 → c ≠ 52 → c ≠ 215 → σ12.1 c = σ9.1 c := fun c p q r => by rw [h12, uI_row _ _ p, uI_row _ _ r, uI_row _ _ q]
      have S12 : ∀ c, c ≠ 0 → c ≠ 1 → c ≠ 37 → c < 44 → σ12.1 c = σ5.1 c := fun c p q r u => by rw [r12 c p (by omega) (by omega), q3 c (by omega), R6 c p q r]
      obtain ⟨τ8, k8⟩ : ∃ x, x = uI (uI (uA τ7 37 r0) 0 55 (τ7.1 18 s)) 0 56 (-1) := ⟨_, rfl⟩
      have Q8 : HM τ8.2.2 := by rw [k8]; exact Q7
      have own37 : τ8.1 37 = r0 := by rw [k8, uI_row _ _ (by decide), uI_row _ _ (by decide)]; exact funext fun j => uA_own _ _ _ _
      obtain ⟨τ11, k11⟩ : ∃ x, x = uI (uI (uA τ8 36 (cpR 380 (τ8.1 37) (τ8.1 36))) 0 57 0) 0 63 0 := ⟨_, rfl⟩
      have Q11 : HM τ11.2.2 := by rw [k11]; exact Q8
      obtain ⟨τ12, k12⟩ : ∃ x, x = uI (uI (uI τ11 45 0 0) 45 1 0) 45 2 0 := ⟨_, rfl⟩
      have S11 : ∀ c, c ≠ 0 → c ≠ 36 → c ≠ 37 → τ11.1 c = τ5.1 c := fun c p q r => by
        rw [k11, uI_row _ _ p, uI_row _ _ p, uA_row _ _ q, k8, uI_row _ _ p, uI_row _ _ p, uA_row _ _ r, R7 c p]
      have G11 : ∀ j, j ≠ 55 → j ≠ 56 → j ≠ 57 → j ≠ 63 → τ11.1 0 j = τ7.1 0 j := fun j p q r u => by
        rw [k11, uI_ne _ _ (by omega), uI_ne _ _ (by omega), uA_row _ _ (by decide), k8, uI_ne _ _ (by omega), uI_ne _ _ (by omega), uA_row _ _ (by decide)]
      have S12M : ∀ c, c ≠ 45 → τ12.1 c = τ11.1 c := fun c p => by rw [k12, uI_row _ _ p, uI_row _ _ p, uI_row _ _ p]
      have L12 : τ12.2.1 = τ5.2.1 := by rw [k12, k11, k8, k7]; rfl
      have P12 : τ12.2.2 = τ5.2.2 := by rw [k12, k11, k8, k7]; rfl
      refine ⟨0, σ12, τ12, ?_, ?_, t', s, D', ⟨?_, ht'⟩, xok, ⟨⟨?_, ⟨?_, ?_, ?_, ?_⟩, ?_, ?_, ⟨L, x4, ?_, ?_⟩, ?_, ?_, ?_⟩, fun j hj => Or.inl ?_⟩, ⟨?_, ⟨?_, hs2⟩, ⟨?_, ?_, ?_, ?_⟩, ?_, ?_, ?_, ?_, ?_, ?_, ?_⟩, ⟨⟨0, by decide, ?_, ?_, fun i hi => absurd hi (by omega)⟩, ?_, ⟨0, 0, ?_, ?_, by omega, ?_⟩, ⟨0, px, by decide, pd2, ?_, ?_, ?_, fun j hj => absurd hj (by omega)⟩, ⟨0, by decide, ?_, fun j hj => ⟨?_, fun q => ?_⟩⟩, ⟨0, by decide, ?_, ?_, fun i hi => absurd hi (by omega)⟩⟩⟩
      · -- the class reads
        have sp : F_X11_takeSpareText 0 σ7 = some σ12 := by
          unfold F_X11_takeSpareText
          rw [cR_t a1 (Rat_ok ht).1, cR_t a2 (t_ok ht').1, cL_e, cL_e, ← h8, rC_11_5' P8, cR_t b1 (t_ok ht').1, q1, Option.bind_some, rC_11_7' P9, cL_e, rC_11_10' (show HC (uI σ9 52 2 0).2.2 from P9), cL_e, cL_e, ← h12]
        have f48 : F_X11_read_48 0 σ12 = some (0, σ12) := by
          unfold F_X11_read_48
          rw [rC_11_3' (by rw [e12]; exact P9), r12 37 (by decide) (by decide) (by decide), q3 37 (by omega), i8, r7 37 (by decide) (by decide), g4]
          rfl
        unfold F_X11_read
        rw [rC_11_3' hP, rC_11_0' hP, cR_t hP2 (t_ok ht').1, EP, g1, Option.bind_some, rC_11_0' P6, cL_e, rC_11_3' (show HC (uI σ6 1 1 0).2.2 from P6), cL_e, uI_row _ _ (show (37 : Nat) ≠ 1 by decide), g5 rfl, ← h7, rC_11_3' (by rw [e7]; exact P6), r7 37 (by decide) (by decide), g4, if_pos (show nI 0 = 0 from rfl), sp, Option.bind_some, f48]
      · -- the model reads
        rw [EM]
        unfold F_X12_read_212 F_X12_read_242
        rw [h13, if_pos (show (0 : Int32) ≤ 0 by decide), e15, if_pos (show nI 0 ≤ (0 : Int32) by decide), cL_e, uI_ne _ _ (show ¬ (0 = 0 ∧ 13 = 17) by decide), h13, if_pos (show (0 : Int32) ≤ 0 by decide), uI_ne _ _ (show ¬ (0 = 0 ∧ 15 = 17) by decide), e15, if_pos (show nI 0 ≤ (0 : Int32) by decide), cL_e, uI_ne _ _ (show ¬ (0 = 0 ∧ 19 = 17) by decide), s19, ← k7, mb, Option.bind_some, ← k8, keepsRow_eq Q8, Option.bind_some, cL_e, cL_e, ← k11, loop297 Q11, ← k12]
      · rw [e12, q2]; exact b1
      · rw [e12]; exact P9
      · rw [S12 t' (by omega) (by omega) (by omega) (by omega)]; exact n0
      · rw [S12 t' (by omega) (by omega) (by omega) (by omega)]; exact n3
      · rw [S12 t' (by omega) (by omega) (by omega) (by omega)]; exact x1
      · rw [S12 t' (by omega) (by omega) (by omega) (by omega)]; exact n9
      · rw [S12 (t' + 1) (by omega) (by omega) (by omega) (by omega), S12 (t' + 2) (by omega) (by omega) (by omega) (by omega)]; exact x2
      · rw [S12 (t' + 3) (by omega) (by omega) (by omega) (by omega)]; exact x3
      · rw [S12 (t' + 4) (by omega) (by omega) (by omega) (by omega)]; exact x5
      · rw [S12 (t' + 5) (by omega) (by omega) (by omega) (by omega)]; exact x6
      · rw [S12 (t' + 7) (by omega) (by omega) (by omega) (by omega), S12 (t' + 8) (by omega) (by omega) (by omega) (by omega)]; exact x7
      · rw [S12 (t' + 9) (by omega) (by omega) (by omega) (by omega), S12 (t' + 10) (by omega) (by omega) (by omega) (by omega)]; exact x8
      · rw [S12 (t' + 11) (by omega) (by omega) (by omega) (by omega), S12 (t' + 12) (by omega) (by omega) (by omega) (by omega), S12 (t' + 13) (by omega) (by omega) (by omega) (by omega)]; exact x9
      · rw [S12 (t' + 16) (by omega) (by omega) (by omega) (by omega), l3.2.2 (t' + 16) (by omega) (by omega)]; exact c11 j hj
      · rw [P12]; exact Q5
      · rw [S12M 0 (by decide), G11 18 (by decide) (by decide) (by decide) (by decide)]; exact e18'
      · rw [S12M 11 (by decide), S11 11 (by decide) (by decide) (by decide)]; exact n11
      · rw [S12M 14 (by decide), S11 14 (by decide) (by decide) (by decide)]; exact n14
      · rw [S12M 18 (by decide), S11 18 (by decide) (by decide) (by decide)]; exact y1
      · rw [S12M 19 (by decide), S11 19 (by decide) (by decide) (by decide)]; exact n19
      · rw [S12M 12 (by decide), S11 12 (by decide) (by decide) (by decide), S12M 13 (by decide), S11 13 (by decide) (by decide) (by decide)]; exact y2
      · rw [S12M 15 (by decide), S11 15 (by decide) (by decide) (by decide)]; exact y3
      · exact ML_e (D' := D') y4 rfl rfl (fun c p q => by rw [S12M c (by omega), S11 c (by omega) (by omega) (by omega)])
      · rw [S12M 16 (by decide), S11 16 (by decide) (by decide) (by decide), S12M 17 (by decide), S11 17 (by decide) (by decide) (by decide)]; exact y5
      · rw [S12M 16 (by decide), S11 16 (by decide) (by decide) (by decide), S12M 17 (by decide), S11 17 (by decide) (by decide) (by decide)]; exact y6
      · rw [S12M 20 (by decide), S11 20 (by decide) (by decide) (by decide), S12M 21 (by decide), S11 21 (by decide) (by decide) (by decide), S12M 22 (by decide), S11 22 (by decide) (by decide) (by decide)]; exact y7
      · rw [L12, kM']; exact hM.2.2.2.2.2.2.2.2.2
      · rw [r12 1 (by decide) (by decide) (by decide), q3 1 (by omega), i8, h7, uI_row _ _ (by decide), uI_I, if_pos ⟨rfl, rfl⟩]; rfl
      · rw [S12M 0 (by decide), G11 2 (by decide) (by decide) (by decide) (by decide), f7 2 (by decide) (by decide)]; exact t02
      · rw [h12, uI_ne _ _ (by omega), uI_row _ _ (by decide), uI_row _ _ (by decide), q3 0 (by omega), i8, h7, uI_I, if_pos ⟨rfl, rfl⟩, S12M 0 (by decide), G11 17 (by decide) (by decide) (by decide) (by decide), k7, uI_ne _ _ (by omega), uI_I, if_pos ⟨rfl, rfl⟩]
      · refine RW_rowlo (RW_same q4 (fun k p q => r12 k (by omega) (by omega) (by omega))) (fun j hj => ?_)
        rw [S12M 36 (by decide), k11, uI_row _ _ (by decide), uI_row _ _ (by decide), uA_own, cpR_lo hj, own37]
      · rw [S12M 36 (by decide), k11, uI_row _ _ (by decide), uI_row _ _ (by decide), uA_own, cpR_lo (by decide), own37]; exact hr120
      · refine RH_lo hRH0 (fun j hj => ?_)
        rw [S12M 36 (by decide), k11, uI_row _ _ (by decide), uI_row _ _ (by decide), uA_own, cpR_lo hj, own37]
      · rw [h12, uI_row _ _ (by decide), uI_row _ _ (by decide), uI_I, if_pos ⟨rfl, rfl⟩]; rfl
      · rw [h12, uI_row _ _ (by decide), uI_row _ _ (by decide), uI_ne _ _ (by omega), q3 52 (by omega), R6 52 (by decide) (by decide) (by decide), rC 52 (by decide) (by decide) (by decide) (by omega)]; exact pd4
      · rw [S12M 0 (by decide), k11, uI_ne _ _ (by omega), uI_I, if_pos ⟨rfl, rfl⟩]; rfl
      · rw [h12, uI_I, if_pos ⟨rfl, rfl⟩]; rfl
      · have z0 : bt (nI 0) j = false := bt_0 j
        rw [z0, k12]
        rcases (show j = 0 ∨ j = 1 ∨ j = 2 by omega) with e | e | e <;> subst e <;> rfl
      · have z0 : bt (nI 0) j = false := bt_0 j
        rw [z0] at q
        cases q
      · rw [h12, uI_row _ _ (by decide), uI_I, if_pos ⟨rfl, rfl⟩]; rfl
      · rw [S12M 0 (by decide), k11, uI_I, if_pos ⟨rfl, rfl⟩]; rfl
    · have ew : ¬ nI w ≤ 0 := nI_nle (by omega) (by have := r.2.2.2.2.1; omega)
      refine bad (nI w) (nI wp) σ6 (fun z => ew (by rw [z]; decide)) g1 g2 g3 g4 (g6 hw) ?_
      unfold F_X12_read_212 F_X12_read_242
      rw [h13, if_pos (show (0 : Int32) ≤ 0 by decide), e15, if_neg ew, (r.2.2.2.2.2 hw).2.1, cL_e, uI_ne _ _ (show ¬ (0 = 0 ∧ 13 = 17) by decide), h13, if_pos (show (0 : Int32) ≤ 0 by decide), uI_ne _ _ (show ¬ (0 = 0 ∧ 15 = 17) by decide), e15, if_neg ew]
  · refine bad (nI f) (nI (tkP n b j)) σ5 (fun z => ?_) (p75_dead d1) rfl (fun _ _ => rfl) d1.2.2.2.2.1.1 d1.2.2.2.2.2 ?_
    · rcases d1.2.2.2.2.1.2 with e | e <;> subst e <;> exact absurd z (by decide)
    · unfold F_X12_read_212 F_X12_read_242
      rw [if_neg (DdM_pos d2).2.1, d2.2.2.2, cL_e, uI_ne _ _ (show ¬ (0 = 0 ∧ 13 = 17) by decide), if_neg (DdM_pos d2).2.1, d2.2.2.1.1]
