/-! ===== PURE 59: what waits, in the model ===== -/
theorem mOps_app {K I : Nat → Int32} : ∀ (os ps : Ops) (a : Nat), mOps K I a (os ++ ps) ↔ mOps K I a os ∧ mOps K I (a + os.length) ps
  | [], ps, a => ⟨fun h => ⟨trivial, h⟩, fun h => h.2⟩
  | o :: os, ps, a => by
    have ih := mOps_app (K := K) (I := I) os ps (a + 1)
    have e : a + (o :: os).length = a + 1 + os.length := by rw [List.length_cons]; omega
    rw [e]
    show (K a = nI o.1 ∧ _ ∧ _ ∧ mOps K I (a + 1) (os ++ ps)) ↔ (K a = nI o.1 ∧ _ ∧ _ ∧ mOps K I (a + 1) os) ∧ _
    rw [ih]
    constructor
    · rintro ⟨h1, h2, h3, h4, h5⟩
      exact ⟨⟨h1, h2, h3, h4⟩, h5⟩
    · rintro ⟨⟨h1, h2, h3, h4⟩, h5⟩
      exact ⟨h1, h2, h3, h4, h5⟩
theorem mOps_congr {K I K' I' : Nat → Int32} : ∀ (os : Ops) (a : Nat), (∀ j, a ≤ j → j < a + os.length → K' j = K j ∧ I' j = I j) → mOps K I a os → mOps K' I' a os
  | [], _, _, _ => trivial
  | o :: os, a, h, q => by
    have q : K a = nI o.1 ∧ I a = o.2 ∧ _ ∧ mOps K I (a + 1) os := q
    rw [List.length_cons] at h
    have h0 := h a (Nat.le_refl _) (by omega)
    exact ⟨h0.1.trans q.1, h0.2.trans q.2.1, q.2.2.1, mOps_congr os (a + 1) (fun j p r => h j (by omega) (by omega)) q.2.2.2⟩
/-- what the reading of a term changes in the model -/
def frP (c0 B : Nat) (s s' : hSt) : Prop := s'.2 = s.2 ∧ (∀ j, j ≠ 11 → j ≠ 12 → j ≠ 13 → j ≠ 14 → j ≠ 44 → j ≠ 48 → s'.1 0 j = s.1 0 j) ∧ (∀ k, k ≠ 0 → k ≠ 30 → k ≠ 31 → k ≠ 32 → s'.1 k = s.1 k) ∧ ∀ j, (j < c0 ∨ B ≤ j) → s'.1 30 j = s.1 30 j ∧ s'.1 31 j = s.1 31 j
theorem frP_rfl {c0 B : Nat} {s : hSt} : frP c0 B s s := ⟨rfl, fun _ _ _ _ _ _ _ => rfl, fun _ _ _ _ _ => rfl, fun _ _ => ⟨rfl, rfl⟩⟩
theorem frP_trans {c0 B : Nat} {s s' s'' : hSt} (h : frP c0 B s s') (h' : frP c0 B s' s'') : frP c0 B s s'' := ⟨h'.1.trans h.1, fun j a c d e f g => (h'.2.1 j a c d e f g).trans (h.2.1 j a c d e f g), fun k a c d e => (h'.2.2.1 k a c d e).trans (h.2.2.1 k a c d e), fun j a => ⟨(h'.2.2.2 j a).1.trans (h.2.2.2 j a).1, (h'.2.2.2 j a).2.trans (h.2.2.2 j a).2⟩⟩
theorem frP_N {c0 B : Nat} {s s' : hSt} (h : frN s s') : frP c0 B s s' := ⟨h.1, fun j a _ c d _ _ => h.2.1 j a c d, fun k a _ _ _ => h.2.2 k a, fun j _ => by rw [h.2.2 30 (by decide), h.2.2 31 (by decide)]; exact ⟨rfl, rfl⟩⟩
def wtM (r : Nat → Int32) : List Nat → Prop
  | [] => True
  | w :: W => r W.length = nI (mkK w) ∧ wtM r W
theorem wtM_congr {r r' : Nat → Int32} : ∀ W : List Nat, (∀ j, j < W.length → r' j = r j) → wtM r W → wtM r' W
  | [], _, _ => trivial
  | w :: W, h, q => by
    rw [List.length_cons] at h
    exact ⟨(h _ (by omega)).trans q.1, wtM_congr W (fun j hj => h j (by omega)) q.2⟩
/-- all that waits is a sign or a parenthesis -/
def sgW (W : List Nat) : Prop := ∀ w, w ∈ W → w = 40 ∨ isS w ∨ isW w
def ExR (c0 B d : Nat) (W : List Nat) (C : Ops) (s0 s : hSt) : Prop :=
  s.1 0 12 = nI d ∧ s.1 0 48 = nI W.length ∧ wtM (s.1 32) W ∧ s.1 0 44 = nI (c0 + C.length) ∧ mOps (s.1 30) (s.1 31) c0 C ∧ frP c0 B s0 s
theorem ExR_N {c0 B d : Nat} {W : List Nat} {C : Ops} {s0 s s' : hSt} (h : ExR c0 B d W C s0 s) (f : frN s s') : ExR c0 B d W C s0 s' := by
  obtain ⟨h1, h2, h3, h4, h5, h6⟩ := h
  refine ⟨?_, ?_, ?_, ?_, ?_, frP_trans h6 (frP_N f)⟩
  · rw [f.2.1 12 (by decide) (by decide) (by decide)]; exact h1
  · rw [f.2.1 48 (by decide) (by decide) (by decide)]; exact h2
  · rw [f.2.2 32 (by decide)]; exact h3
  · rw [f.2.1 44 (by decide) (by decide) (by decide)]; exact h4
  · rw [f.2.2 30 (by decide), f.2.2 31 (by decide)]; exact h5
theorem emit_eq {c0 B d : Nat} {W : List Nat} {C : Ops} {s0 s : hSt} {o : Nat × Int32} (hQ : HM s.2.2) (h : ExR c0 B d W C s0 s) (hB : c0 + C.length < B) (hB2 : B ≤ 840) (ho : o.1 = 1 → ∃ i, i < 6 ∧ o.2 = nI i) :
    ∃ s', F_X12_emit 0 (nI o.1) o.2 s = some s' ∧ ExR c0 B d W (C ++ [o]) s0 s' ∧ s'.2 = s.2 ∧ (∀ j, j ≠ 44 → s'.1 0 j = s.1 0 j) ∧ ∀ k, k ≠ 0 → k ≠ 30 → k ≠ 31 → s'.1 k = s.1 k := by
  obtain ⟨h1, h2, h3, h4, h5, h6⟩ := h
  unfold F_X12_emit cL
  dsimp only
  have Q1 : HM (uI s 30 (c0 + C.length) (nI o.1)).2.2 := hQ
  rw [rM_45 hQ, h4, cG_t (inb_nI (by rw [kM_30]; omega) (by decide)), cl_nI (by omega), rM_46 Q1, uI_row _ _ (show (0 : Nat) ≠ 30 by decide), h4, cG_t (inb_nI (by rw [kM_31]; omega) (by decide)), cl_nI (by omega), uI_row _ _ (show (0 : Nat) ≠ 31 by decide), uI_row _ _ (show (0 : Nat) ≠ 30 by decide), h4, nI_1]
  have r30 : ∀ j, (uI (uI (uI s 30 (c0 + C.length) (nI o.1)) 31 (c0 + C.length) o.2) 0 44 (nI (c0 + C.length + 1))).1 30 j = if j = c0 + C.length then nI o.1 else s.1 30 j := fun j => by
    rw [uI_row _ _ (by decide), uI_row _ _ (by decide), uI_I]
    by_cases q : j = c0 + C.length
    · rw [if_pos ⟨rfl, q⟩, if_pos q]
    · rw [if_neg (fun z => q z.2), if_neg q]
  have r31 : ∀ j, (uI (uI (uI s 30 (c0 + C.length) (nI o.1)) 31 (c0 + C.length) o.2) 0 44 (nI (c0 + C.length + 1))).1 31 j = if j = c0 + C.length then o.2 else s.1 31 j := fun j => by
    rw [uI_row _ _ (by decide), uI_I]
    by_cases q : j = c0 + C.length
    · rw [if_pos ⟨rfl, q⟩, if_pos q]
    · rw [if_neg (fun z => q z.2), if_neg q, uI_row _ _ (by decide)]
  have f0 : ∀ j, j ≠ 44 → (uI (uI (uI s 30 (c0 + C.length) (nI o.1)) 31 (c0 + C.length) o.2) 0 44 (nI (c0 + C.length + 1))).1 0 j = s.1 0 j := fun j q => by
    rw [uI_ne _ _ (by omega), uI_row _ _ (by decide), uI_row _ _ (by decide)]
  have fr : ∀ k, k ≠ 0 → k ≠ 30 → k ≠ 31 → (uI (uI (uI s 30 (c0 + C.length) (nI o.1)) 31 (c0 + C.length) o.2) 0 44 (nI (c0 + C.length + 1))).1 k = s.1 k := fun k a c d => by
    rw [uI_row _ _ a, uI_row _ _ d, uI_row _ _ c]
  refine ⟨_, rfl, ⟨?_, ?_, ?_, ?_, ?_, frP_trans h6 ⟨rfl, fun j _ _ _ _ a _ => f0 j a, fun k a c d _ => fr k a c d, fun j hj => ?_⟩⟩, rfl, f0, fr⟩
  · rw [f0 12 (by decide)]; exact h1
  · rw [f0 48 (by decide)]; exact h2
  · rw [fr 32 (by decide) (by decide) (by decide)]; exact h3
  · rw [uI_I, if_pos ⟨rfl, rfl⟩, List.length_append, List.length_singleton]; rfl
  · refine (mOps_app _ _ _).mpr ⟨mOps_congr C c0 (fun j p r => ?_) h5, ?_⟩
    · rw [r30, r31, if_neg (by omega), if_neg (by omega)]
      exact ⟨rfl, rfl⟩
    · refine ⟨?_, ?_, ho, trivial⟩
      · rw [r30, if_pos rfl]
      · rw [r31, if_pos rfl]
  · rw [r30, r31, if_neg (by omega), if_neg (by omega)]
    exact ⟨rfl, rfl⟩
theorem sg_mk : ∀ w, (w = 40 ∨ isS w ∨ isW w) → (mkK w = 6 ↔ w = 40) ∧ (mkK w = 8 ↔ w = 43) ∧ (mkK w = 9 ↔ w = 45) ∧ (mkK w = 10 ↔ w = 42) ∧ mkK w < 39 := fun w h => by
  rcases h with h | (h | h) | (h | h) <;> subst h <;> decide
theorem comes_eq {c0 B d : Nat} {W : List Nat} {C : Ops} {s0 s : hSt} {st : Bool} (hQ : HM s.2.2) (h : ExR c0 B d W C s0 s) (hS : sgW W) (hW : W.length ≤ 64) (hB : c0 + C.length + W.length ≤ B) (hB2 : B ≤ 840) :
    ∃ s', F_X12_comesOut 0 (if st then 1 else 0) s = some s' ∧ ExR c0 B d (pop st W).1 (C ++ (pop st W).2) s0 s' ∧ s'.2 = s.2 ∧ (∀ j, j ≠ 44 → j ≠ 48 → s'.1 0 j = s.1 0 j) ∧ ∀ k, k ≠ 0 → k ≠ 30 → k ≠ 31 → s'.1 k = s.1 k := by
  unfold F_X12_comesOut
  refine lp_go W.length (by rw [fuel_v]; omega)
    (fun i s' => ∃ Wi Oi, ExR c0 B d Wi (C ++ Oi) s0 s' ∧ pop st W = ((pop st Wi).1, Oi ++ (pop st Wi).2) ∧ i + Wi.length ≤ W.length ∧ Oi.length + Wi.length ≤ W.length ∧ sgW Wi ∧ s'.2 = s.2 ∧ (∀ j, j ≠ 44 → j ≠ 48 → s'.1 0 j = s.1 0 j) ∧ ∀ k, k ≠ 0 → k ≠ 30 → k ≠ 31 → s'.1 k = s.1 k) _
    ⟨W, [], by rw [List.append_nil]; exact h, rfl, by omega, by simp, hS, rfl, fun _ _ _ => rfl, fun _ _ _ _ => rfl⟩ (fun i s' hi hs' => ?_)
  obtain ⟨Wi, Oi, a1, a2, a3, a4, a5, a6, a7, a8⟩ := hs'
  obtain ⟨h1, h2, h3, h4, h5, h6⟩ := id a1
  have hQ' : HM s'.2.2 := by rw [a6]; exact hQ
  unfold S_X12_comesOut_0 F_X12_comesOut_0b
  rw [h2]
  cases Wi with
  | nil =>
    right
    rw [if_pos (show nI ([] : List Nat).length ≤ 0 by decide)]
    refine ⟨s', rfl, ?_, a6, a7, a8⟩
    rw [a2]
    show ExR c0 B d [] (C ++ (Oi ++ [])) s0 s'
    rw [List.append_nil]
    exact a1
  | cons w Wr =>
    have hw := a5 w List.mem_cons_self
    obtain ⟨m6, m8, m9, m10, ml⟩ := sg_mk w hw
    have hl : (w :: Wr).length = Wr.length + 1 := List.length_cons
    rw [hl] at a3 a4
    rw [hl, if_neg (show ¬ nI (Wr.length + 1) ≤ 0 from fun q => absurd (Int32.not_lt.mpr q) (by rw [Classical.not_not]; exact nI_lt (a := 0) (by omega) (by omega))), rM_47 hQ', nI_pred, cG_t (inb_nI (by rw [kM_32]; omega) (by decide)), cl_nI (by omega), h3.1]
    unfold cL
    dsimp only
    have eq : ∀ q, q < 39 → (nI (mkK w) = nI q ↔ mkK w = q) := fun q hq => nI_eq (by omega) (by omega)
    have stop : (w = 40 ∨ (st = true ∧ isW w)) → ∃ x, some (Sum.inr s') = some (Sum.inr x : hSt ⊕ hSt) ∧ (ExR c0 B d (pop st W).1 (C ++ (pop st W).2) s0 x ∧ x.2 = s.2 ∧ (∀ j, j ≠ 44 → j ≠ 48 → x.1 0 j = s.1 0 j) ∧ ∀ k, k ≠ 0 → k ≠ 30 → k ≠ 31 → x.1 k = s.1 k) := fun hst => by
      refine ⟨s', rfl, ?_, a6, a7, a8⟩
      have : pop st (w :: Wr) = (w :: Wr, []) := if_pos hst
      rw [a2, this]
      show ExR c0 B d (w :: Wr) (C ++ (Oi ++ [])) s0 s'
      rw [List.append_nil]
      exact a1
    have go : ¬ (w = 40 ∨ (st = true ∧ isW w)) → ∃ v', F_X12_comesOut_42 0 (if st then 1 else 0) (nI (mkK w)) s' = some (.inl v') ∧ i < W.length ∧ ∃ Wi Oi, ExR c0 B d Wi (C ++ Oi) s0 v' ∧ pop st W = ((pop st Wi).1, Oi ++ (pop st Wi).2) ∧ i + 1 + Wi.length ≤ W.length ∧ Oi.length + Wi.length ≤ W.length ∧ sgW Wi ∧ v'.2 = s.2 ∧ (∀ j, j ≠ 44 → j ≠ 48 → v'.1 0 j = s.1 0 j) ∧ ∀ k, k ≠ 0 → k ≠ 30 → k ≠ 31 → v'.1 k = s.1 k := fun hst => by
      have hp : pop st (w :: Wr) = ((pop st Wr).1, em w :: (pop st Wr).2) := if_neg hst
      have R1 : ExR c0 B d Wr (C ++ Oi) s0 (uI s' 0 48 (nI Wr.length)) := by
        refine ⟨?_, ?_, h3.2, ?_, h5, frP_trans h6 ⟨rfl, fun j _ _ _ _ _ a => uI_ne _ _ (by omega), fun k a _ _ _ => uI_row _ _ a, fun _ _ => ⟨rfl, rfl⟩⟩⟩
        · rw [uI_ne _ _ (by omega)]; exact h1
        · rw [uI_I, if_pos ⟨rfl, rfl⟩]
        · rw [uI_ne _ _ (by omega)]; exact h4
      obtain ⟨s2, g1, g2, g3, g4, g5⟩ := emit_eq (o := em w) (s := uI s' 0 48 (nI Wr.length)) hQ' R1 (by rw [List.length_append]; omega) hB2 (fun z => by
        rcases hw with q | (q | q) | (q | q) <;> subst q <;> exact absurd z (by decide))
      refine ⟨s2, ?_, by omega, Wr, Oi ++ [em w], ?_, ?_, by omega, by rw [List.length_append, List.length_singleton]; omega, fun x hx => a5 x (List.mem_cons_of_mem _ hx), g3.trans a6, fun j p q => ?_, fun k p q r => ?_⟩
      · unfold F_X12_comesOut_42 F_X12_comesOut_84 cL
        dsimp only
        rw [h2, hl, nI_pred]
        have g1' : ∀ x, x = nI (em w).1 → F_X12_emit 0 x 0 (uI s' 0 48 (nI Wr.length)) = some s2 := fun x hx => by rw [hx]; exact g1
        rcases hw with q | (q | q) | (q | q) <;> subst q
        · exact absurd (Or.inl rfl) hst
        · rw [if_neg (by decide), if_neg (by decide), if_pos (by decide), g1' 4 rfl]; rfl
        · rw [if_neg (by decide), if_neg (by decide), if_neg (by decide), g1' 5 rfl]; rfl
        · rw [if_pos (by decide), g1' 2 rfl]; rfl
        · rw [if_neg (by decide), if_pos (by decide), g1' 3 rfl]; rfl
      · rw [← List.append_assoc]; exact g2
      · rw [a2, hp]
        simp
      · rw [g4 j p, uI_ne _ _ (by omega)]; exact a7 j p q
      · rw [g5 k p q r, uI_row _ _ p]; exact a8 k p q r
    by_cases w40 : w = 40
    · right
      rw [if_pos (show nI (mkK w) = (6 : Int32) from congrArg nI (m6.mpr w40))]
      exact stop (Or.inl w40)
    · rw [if_neg (show ¬ nI (mkK w) = (6 : Int32) from fun q => w40 (m6.mp ((eq 6 (by decide)).mp q)))]
      cases st with
      | false =>
        left
        obtain ⟨v', q1, q2, q3⟩ := go (fun q => q.elim w40 (fun z => absurd z.1 (by decide)))
        rw [if_pos (show (if false = true then (1 : Int32) else 0) = 0 by decide)]
        exact ⟨v', q2, q1, q3⟩
      | true =>
        rw [if_neg (show ¬ (if true = true then (1 : Int32) else 0) = 0 by decide)]
        by_cases w43 : w = 43
        · right
          rw [if_pos (show nI (mkK w) = (8 : Int32) from congrArg nI (m8.mpr w43))]
          exact stop (Or.inr ⟨rfl, Or.inl w43⟩)
        · rw [if_neg (show ¬ nI (mkK w) = (8 : Int32) from fun q => w43 (m8.mp ((eq 8 (by decide)).mp q)))]
          by_cases w45 : w = 45
          · right
            rw [if_pos (show nI (mkK w) = (9 : Int32) from congrArg nI (m9.mpr w45))]
            exact stop (Or.inr ⟨rfl, Or.inr w45⟩)
          · rw [if_neg (show ¬ nI (mkK w) = (9 : Int32) from fun q => w45 (m9.mp ((eq 9 (by decide)).mp q)))]
            left
            obtain ⟨v', q1, q2, q3⟩ := go (fun q => q.elim w40 (fun z => z.2.elim w43 w45))
            exact ⟨v', q2, q1, q3⟩
