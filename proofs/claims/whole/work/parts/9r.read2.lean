/-! ===== PURE 82: before the tells: the class ===== -/
theorem fill_v {A n : Nat} {v : Int32} {s : hSt} (hA : (kC A).2 = n) (hn : n < 2000) : ∃ g, F_J7_fill_53178 A v s = some (uA s A g) ∧ ∀ k, k < n → g k = v := by
  unfold F_J7_fill_53178 F_J7_fill_53178_5
  rw [hA]
  unfold cL
  dsimp only
  obtain ⟨x, g1, g, g2, g3⟩ := lp_go (s := S_J7_fill_53178_5 A v (Int32.ofNat n)) (v := (0, s)) n (by rw [fuel_v]; omega)
    (fun i w => ∃ g, w = (nI i, uA s A g) ∧ ∀ k, k < i → g k = v) (fun x => ∃ g, x = uA s A g ∧ ∀ k, k < n → g k = v)
    ⟨s.1 A, by rw [uA_self]; rfl, fun k q => absurd q (by omega)⟩ (fun i w hi hw => by
      obtain ⟨g, a1, a2⟩ := hw
      subst a1
      unfold S_J7_fill_53178_5 F_J7_fill_53178_5b cL
      dsimp only
      by_cases hlt : i < n
      · left
        rw [if_neg (show ¬ Int32.ofNat n ≤ nI i from nI_ge (b := n) hlt (by omega)), cG_t (inb_nI (by rw [hA]; omega) (by rw [hA]; omega)), cl_nI (by omega), uI_as, uA_uA, nI_1, show (uA s A g).1 A = g from funext fun j => uA_own _ _ _ _]
        refine ⟨_, hlt, rfl, _, rfl, fun k hk => ?_⟩
        by_cases q : k = i
        · rw [q, upd_eq]
        · rw [upd_ne q]
          exact a2 k (by omega)
      · right
        have : i = n := by omega
        subst this
        rw [if_pos (show Int32.ofNat i ≤ nI i from nI_le (a := i) (Nat.le_refl _) (by omega))]
        exact ⟨_, rfl, g, rfl, a2⟩)
  exact ⟨g, by rw [g1, g2], g3⟩
theorem usualC {t : Nat} {σ : hSt} (hP : HC σ.2.2) (ht : t = 3 ∨ t = 20) : ∃ σ', F_X0_setUsual (t + 4) σ = some σ' ∧ σ'.2 = σ.2 ∧ (∀ c, c ≠ t + 4 → c ≠ t + 5 → σ'.1 c = σ.1 c) ∧ ∃ L, L ≤ 401 ∧ σ'.1 (t + 4) 2 = nI L ∧ cLaw (σ'.1 (t + 5)) L 0 [] usualZ := by
  obtain ⟨v1, s1, a1, a2, a3, -, a4⟩ := addA (t := t) (L := 0) (x := 10) (s := uI σ (t + 4) 2 0) hP ht (by rw [uI_I, if_pos ⟨rfl, rfl⟩]; rfl) (by decide)
  obtain ⟨-, a5, a6, a7⟩ := a4 (by decide)
  have P1 : HC s1.2.2 := by rw [a2.1]; exact hP
  obtain ⟨v2, s2, b1, b2, b3, -, b4⟩ := addA (t := t) (L := 1) (x := -141) P1 ht a5 (by decide)
  obtain ⟨-, b5, b6, b7⟩ := b4 (by decide)
  have P2 : HC s2.2.2 := by rw [b2.1]; exact P1
  obtain ⟨v3, s3, c1, c2, c3, -, c4⟩ := addA (t := t) (L := 2) (x := -45) P2 ht b5 (by decide)
  obtain ⟨-, c5, c6, c7⟩ := c4 (by decide)
  have P3 : HC s3.2.2 := by rw [c2.1]; exact P2
  obtain ⟨v4, s4, d1, d2, d3, -, d4⟩ := addA (t := t) (L := 3) (x := -59) P3 ht c5 (by decide)
  obtain ⟨-, d5, d6, d7⟩ := d4 (by decide)
  refine ⟨s4, ?_, ?_, fun c p q => ?_, 4, by decide, d5, ?_⟩
  · unfold F_X0_setUsual cL
    dsimp only
    rw [cC_t a1, cC_t b1, cC_t c1, cC_t d1]
  · rw [d2.1, c2.1, b2.1, a2.1, uI_2]
  · rw [d3 c p q, c3 c p q, b3 c p q, a3 c p q, uI_row _ _ p]
  · have e0 : s4.1 (t + 5) 0 = 10 := by rw [d7 0 (by decide), c7 0 (by decide), b7 0 (by decide)]; exact a6
    have e1 : s4.1 (t + 5) 1 = -141 := by rw [d7 1 (by decide), c7 1 (by decide)]; exact b6
    have e2 : s4.1 (t + 5) 2 = -45 := by rw [d7 2 (by decide)]; exact c6
    refine ⟨⟨e0, fun _ => by decide, fun z => absurd z (by decide), e1, fun z => absurd z (by decide), fun _ => ⟨0, by decide, rfl⟩, e2, fun z => absurd z (by decide), fun z => absurd z (by decide), trivial⟩, d6, by decide, ?_⟩
    simp [usualZ, opsOk]
theorem clear_eq {t : Nat} {σ : hSt} (hP : HC σ.2.2) (ht : t = 3 ∨ t = 20) : ∃ σ', F_X7_clear t σ = some σ' ∧ σ'.2 = σ.2 ∧ (∀ c, ¬ (t ≤ c ∧ c < t + 17) → σ'.1 c = σ.1 c) ∧ (σ'.1 t 0 = 0 ∧ σ'.1 t 3 = 0 ∧ σ'.1 t 8 = 1 ∧ σ'.1 t 9 = 0) ∧
    (∃ L, L ≤ 401 ∧ σ'.1 (t + 4) 2 = nI L ∧ cLaw (σ'.1 (t + 5)) L 0 [] usualZ) ∧ σ'.1 (t + 7) 1 = 0 ∧ σ'.1 (t + 9) 1 = 0 ∧ ∀ j, j < 256 → σ'.1 (t + 16) j = -1 := by
  obtain ⟨t1, t2, t3⟩ := t_ok ht
  obtain ⟨s1, a1, a2, a3, L, a4, a5, a6⟩ := usualC (t := t) (σ := uI (uI σ t 0 0) t 3 0) hP ht
  have P1 : HC s1.2.2 := by rw [a2]; exact hP
  obtain ⟨s2, h2⟩ : ∃ x, x = uI (uI (uI (uI s1 (t + 7) 1 0) (t + 9) 1 0) t 8 1) t 9 0 := ⟨_, rfl⟩
  have P2 : HC s2.2.2 := by rw [h2]; exact P1
  obtain ⟨g, g1, g2⟩ := fill_v (A := t + 16) (v := -1) (s := s2) (nC_7_15 t1) (by decide)
  have row : ∀ c, c ≠ t → c ≠ t + 7 → c ≠ t + 9 → s2.1 c = s1.1 c := fun c p q r => by rw [h2, uI_row _ _ p, uI_row _ _ p, uI_row _ _ r, uI_row _ _ q]
  refine ⟨uA s2 (t + 16) g, ?_, ?_, fun c p => ?_, ⟨?_, ?_, ?_, ?_⟩, ⟨L, a4, ?_, ?_⟩, ?_, ?_, fun j hj => ?_⟩
  · unfold F_X7_clear cL
    dsimp only
    rw [rC_7_5 (show HC (uI (uI σ t 0 0) t 3 0).2.2 from hP) t1, a1, Option.bind_some, rC_7_6 P1 t1, rC_7_7 (show HC (uI s1 (t + 7) 1 0).2.2 from P1) t1, ← h2, rC_7_15 P2 t1, g1, Option.bind_some]
  · rw [uA_2, h2, uI_2, uI_2, uI_2, uI_2, a2, uI_2, uI_2]
  · rw [uA_row _ _ (by omega), row c (by omega) (by omega) (by omega), a3 c (by omega) (by omega), uI_row _ _ (by omega), uI_row _ _ (by omega)]
  · rw [uA_row _ _ (by omega), h2, uI_ne _ _ (by omega), uI_ne _ _ (by omega), uI_row _ _ (by omega), uI_row _ _ (by omega), a3 t (by omega) (by omega), uI_ne _ _ (by omega), uI_I, if_pos ⟨rfl, rfl⟩]
  · rw [uA_row _ _ (by omega), h2, uI_ne _ _ (by omega), uI_ne _ _ (by omega), uI_row _ _ (by omega), uI_row _ _ (by omega), a3 t (by omega) (by omega), uI_I, if_pos ⟨rfl, rfl⟩]
  · rw [uA_row _ _ (by omega), h2, uI_ne _ _ (by omega), uI_I, if_pos ⟨rfl, rfl⟩]
  · rw [uA_row _ _ (by omega), h2, uI_I, if_pos ⟨rfl, rfl⟩]
  · rw [uA_row _ _ (by omega), row _ (by omega) (by omega) (by omega)]; exact a5
  · rw [uA_row _ _ (by omega), row _ (by omega) (by omega) (by omega)]; exact a6
  · rw [uA_row _ _ (by omega), h2, uI_row _ _ (by omega), uI_row _ _ (by omega), uI_row _ _ (by omega), uI_I, if_pos ⟨rfl, rfl⟩]
  · rw [uA_row _ _ (by omega), h2, uI_row _ _ (by omega), uI_row _ _ (by omega), uI_I, if_pos ⟨rfl, rfl⟩]
  · rw [uA_own]; exact g2 j hj
theorem up2_ne {α : Type} {f : Nat → Nat → α} {c k c' k' : Nat} {v : α} (h : ¬ (c' = c ∧ k' = k)) : up2 f c k v c' k' = f c' k' := if_neg h
theorem up2_is {α : Type} {f : Nat → Nat → α} {c k : Nat} {v : α} : up2 f c k v c k = v := if_pos ⟨rfl, rfl⟩
theorem HC_37 {t : Nat} {P : SPt} (h : HC P) (ht : t = 3 ∨ t = 20) : HC (up2 P 37 3 (some t)) := by
  obtain ⟨h1, h2, h3, h4, h5, h6⟩ := h
  have f0 : fxC (kC 37).1 3 = none := by decide +kernel
  refine ⟨fun c hc k d e => ?_, fun j hj => ?_, fun j hj => ?_, ?_, ?_, ?_⟩
  · by_cases q : c = 37 ∧ k = 3
    · rw [q.1, q.2, f0] at e
      cases e
    · rw [up2_ne q]; exact h1 c hc k d e
  · rw [up2_ne (by omega)]; exact h2 j hj
  · rw [up2_ne (by omega)]; exact h3 j hj
  · rw [up2_ne (by omega), up2_ne (by omega)]; exact h4
  · rw [up2_is]; exact ht.imp (fun e => by rw [e]) (fun e => by rw [e])
  · rw [up2_ne (by omega), up2_ne (by omega)]; exact h6
/-- the two texts change places -/
theorem HC_tx {t t' : Nat} {P : SPt} (h : HC P) (ht : (t = 3 ∧ t' = 20) ∨ (t = 20 ∧ t' = 3)) : HC (up2 (up2 P 0 1 (some t')) 0 2 (some t)) := by
  obtain ⟨h1, h2, h3, h4, h5, h6⟩ := h
  have f1 : fxC (kC 0).1 1 = none := by decide +kernel
  have f2 : fxC (kC 0).1 2 = none := by decide +kernel
  refine ⟨fun c hc k d e => ?_, fun j hj => ?_, fun j hj => ?_, ?_, ?_, ?_⟩
  · by_cases q : c = 0 ∧ k = 2
    · rw [q.1, q.2, f2] at e
      cases e
    · rw [up2_ne q]
      by_cases q' : c = 0 ∧ k = 1
      · rw [q'.1, q'.2, f1] at e
        cases e
      · rw [up2_ne q']; exact h1 c hc k d e
  · rw [up2_ne (by omega), up2_ne (by omega)]; exact h2 j hj
  · rw [up2_ne (by omega), up2_ne (by omega)]; exact h3 j hj
  · rw [up2_ne (by omega), up2_is, up2_is]
    rcases ht with ⟨e1, e2⟩ | ⟨e1, e2⟩ <;> subst e1 e2
    · exact Or.inr ⟨rfl, rfl⟩
    · exact Or.inl ⟨rfl, rfl⟩
  · rw [up2_ne (by omega), up2_ne (by omega)]; exact h5
  · rw [up2_ne (by omega), up2_ne (by omega), up2_ne (by omega), up2_ne (by omega)]; exact h6
/-- the reader is set up -/
theorem parse_open {n t : Nat} {b : Nat → Nat} {σ : hSt} (h : TpC n b σ) (ht : t = 3 ∨ t = 20) :
    ∃ σ4, F_X4_parse 37 1 t σ = lp (S_X4_parse_44 37) fuel (nI 0, σ4) ∧ LvC n b t 0 σ4 ∧ σ4.1 37 7 = 0 ∧ σ4.2.2 = up2 σ.2.2 37 3 (some t) ∧ (∀ c, c ≠ 37 → c ≠ 39 → c ≠ 40 → ¬ (t ≤ c ∧ c < t + 17) → σ4.1 c = σ.1 c) ∧ (∀ c, c ≠ 41 → σ4.2.1 c = σ.2.1 c) ∧
      (σ4.1 t 0 = 0 ∧ σ4.1 t 3 = 0 ∧ σ4.1 t 8 = 1 ∧ σ4.1 t 9 = 0) ∧ (∃ L, L ≤ 401 ∧ σ4.1 (t + 4) 2 = nI L ∧ cLaw (σ4.1 (t + 5)) L 0 [] usualZ) ∧ σ4.1 (t + 7) 1 = 0 ∧ σ4.1 (t + 9) 1 = 0 ∧ ∀ j, j < 256 → σ4.1 (t + 16) j = -1 := by
  have hP := h.1
  obtain ⟨t1, t2, t3⟩ := t_ok ht
  obtain ⟨σ1, a1, a2, a3, a4, a5, a6, a7, a8⟩ := clear_eq hP ht
  have P1 : HC σ1.2.2 := by rw [a2]; exact hP
  obtain ⟨σ2, b1, b2, b3, b4, b5⟩ := split_eq (TpC_fr h (by rw [a2]) (a3 1 (by omega)) (a3 2 (by omega)))
  have P2 : HC σ2.2.2 := by rw [b2]; exact P1
  obtain ⟨σ3, h3⟩ : ∃ x, x = uI (uI (uI (uI (uI (uP σ2 37 3 (some t)) 37 4 0) 37 5 0) 37 6 (-1)) 37 7 0) 37 8 (-1) := ⟨_, rfl⟩
  have P3 : σ3.2.2 = up2 σ2.2.2 37 3 (some t) := by rw [h3]; rfl
  have row : ∀ c, c ≠ 37 → σ3.1 c = σ2.1 c := fun c p => by rw [h3, uI_row _ _ p, uI_row _ _ p, uI_row _ _ p, uI_row _ _ p, uI_row _ _ p, uP_I]
  have lg : σ3.2.1 = σ2.2.1 := by rw [h3]; rfl
  have row2 : ∀ c, c ≠ 37 → c ≠ 39 → c ≠ 40 → σ3.1 c = σ1.1 c := fun c p q r => by rw [row c p, b3 c q r]
  refine ⟨σ3, ?_, ⟨?_, ?_, ht, ⟨?_, ?_⟩, ?_, by decide, ?_⟩, ?_, ?_, fun c p q r u => ?_, fun c p => ?_, ?_, ?_, ?_, ?_, ?_⟩
  · unfold F_X4_parse cL
    dsimp only
    rw [a1, Option.bind_some, rC_4_0 P1 (c := 37) (by decide), show (37 + 1 : Nat) = 38 from rfl, b1, Option.bind_some, ← h3]
    rfl
  · rw [P3]; exact HC_37 P2 ht
  · rw [P3, up2_is]
  · exact TkC_fr b5 (row 39 (by decide)) (row 40 (by decide)) (by rw [lg])
  · rw [h3, uI_ne _ _ (by omega), uI_ne _ _ (by omega), uI_I, if_pos ⟨rfl, rfl⟩]
  · rw [h3, uI_ne _ _ (by omega), uI_ne _ _ (by omega), uI_ne _ _ (by omega), uI_ne _ _ (by omega), uI_I, if_pos ⟨rfl, rfl⟩]; rfl
  · rw [h3, uI_ne _ _ (by omega), uI_ne _ _ (by omega), uI_ne _ _ (by omega), uI_I, if_pos ⟨rfl, rfl⟩]
  · rw [h3, uI_ne _ _ (by omega), uI_I, if_pos ⟨rfl, rfl⟩]
  · rw [P3, b2, a2]
  · rw [row2 c p q r]; exact a3 c u
  · rw [lg, b4 c p, a2]
  · rw [row2 t (by omega) (by omega) (by omega)]; exact a4
  · rw [row2 (t + 4) (by omega) (by omega) (by omega), row2 (t + 5) (by omega) (by omega) (by omega)]; exact a5
  · rw [row2 (t + 7) (by omega) (by omega) (by omega)]; exact a6
  · rw [row2 (t + 9) (by omega) (by omega) (by omega)]; exact a7
  · rw [row2 (t + 16) (by omega) (by omega) (by omega)]; exact a8
