/-! ===== PURE 86: the two made states side by side ===== -/
set_option maxRecDepth 100000 in
set_option maxHeartbeats 8000000 in
theorem sC0_p : (sC0.2.2 0 1 = some 3 ∧ sC0.2.2 0 2 = some 20) ∧ (sC0.2.2 37 3 = some 3 ∨ sC0.2.2 37 3 = some 20) ∧ (sC0.2.2 219 2 = some 222 ∧ sC0.2.2 219 3 = some 223 ∨ sC0.2.2 219 2 = some 223 ∧ sC0.2.2 219 3 = some 222) ∧ (∀ j, j < 40 → sC0.2.2 53 j = some (54 + 4 * j)) ∧ (∀ j, j < 3 → sC0.2.2 214 j = some (234 + 4 * j)) := by decide +kernel
theorem fxC_lt : ∀ q ∈ fxL, q.2.1 < 16 := by decide +kernel
theorem HC_of {P : SPt} (h1 : P 0 1 = some 3 ∧ P 0 2 = some 20) (h2 : P 37 3 = some 3 ∨ P 37 3 = some 20) (h3 : P 219 2 = some 222 ∧ P 219 3 = some 223 ∨ P 219 2 = some 223 ∧ P 219 3 = some 222) (h4 : ∀ j, j < 40 → P 53 j = some (54 + 4 * j)) (h5 : ∀ j, j < 3 → P 214 j = some (234 + 4 * j))
    (hr : ∀ c, c < 246 → ∀ k, k < 16 → fxC (kC c).1 k = none ∨ P c k = (fxC (kC c).1 k).map (fun d => c + d)) : HC P := by
  refine ⟨fun c hc k d e => ?_, h4, h5, Or.inl h1, h2, h3⟩
  have hk : k < 16 := by
    unfold fxC at e
    cases q : fxL.find? (fun q => q.1 == (kC c).1 && q.2.1 == k) with
    | none => rw [q] at e; cases e
    | some x =>
      have m := List.mem_of_find?_eq_some q
      have p := List.find?_some q
      have := fxC_lt x m
      have e2 : x.2.1 = k := by simpa using (Bool.and_eq_true_iff.mp p).2
      omega
  rcases hr c hc k hk with q | q
  · rw [q] at e; cases e
  · rw [e] at q
    exact q
def LsC : List (Nat × Nat × Int32) := [((0 : Nat), (4 : Nat), (-1 : Int32)), (0, 9, 0), (1, 1, 0), (3, 0, 0), (3, 3, 0), (3, 8, 1), (3, 9, 0), (7, 2, 4), (8, 0, 10), (8, 1, -141), (8, 2, -45), (8, 3, -59), (10, 1, 0), (12, 1, 0), (44, 0, 0), (44, 1, 0), (44, 2, 0), (44, 3, 0), (44, 4, 0), (44, 5, 0), (44, 6, 0), (44, 7, 0), (44, 8, 0), (52, 1, 0), (52, 2, 0), (215, 3, 0)]
def LsM : List (Nat × Nat × Int32) := [((0 : Nat), (2 : Nat), (0 : Int32)), (0, 17, -1), (0, 18, 0), (0, 57, 0), (0, 63, 0), (11, 0, 0), (14, 0, 0), (16, 0, 0), (16, 1, 0), (18, 0, 1), (19, 0, 0), (23, 0, 0), (24, 0, 0), (45, 0, 0), (45, 1, 0), (45, 2, 0)]
theorem Ls_g {L : List (Nat × Nat × Int32)} {σ : hSt} (h : ∀ q ∈ L, σ.1 q.1 q.2.1 = q.2.2) (i : Nat) {c k : Nat} {v : Int32} (e : L[i]? = some (c, k, v)) : σ.1 c k = v := h (c, k, v) (List.mem_of_getElem? e)
theorem HM_of {P : SPt} (h : ∀ k, k < 69 → P 0 k = ([none, some 1, none, some 2, none, some 3, some 4, some 5, some 6, some 7, none, none, none, none, none, none, none, none, none, none, none, some 8, some 9, some 10, some 11, some 12, some 13, some 14, some 15, some 16, some 17, some 18, some 19, some 20, some 21, some 22, some 23, some 24, none, some 25, some 26, some 27, some 28, some 29, none, some 30, some 31, some 32, none, some 33, some 34, none, some 35, some 36, some 37, none, none, none, some 38, some 39, some 40, some 41, none, none, some 42, some 43, some 44, some 45, some 46].getD k none)) : HM P := by
  refine ⟨?_, ?_, ?_, ?_, ?_, ?_, ?_, ?_, ?_, ?_, ?_, ?_, ?_, ?_, ?_, ?_, ?_, ?_, ?_, ?_, ?_, ?_, ?_, ?_, ?_, ?_, ?_, ?_, ?_, ?_, ?_, ?_, ?_, ?_, ?_, ?_, ?_, ?_, ?_, ?_, ?_, ?_, ?_, ?_, ?_, ?_⟩ <;> exact h _ (by decide)
theorem Rr_of {σ τ : hSt} (hC : HC σ.2.2) (h01 : σ.2.2 0 1 = some 3) (fC : ∀ q ∈ LsC, σ.1 q.1 q.2.1 = q.2.2) (f19 : ∀ j, j < 256 → σ.1 19 j = -1) (hM : HM τ.2.2) (fM : ∀ q ∈ LsM, τ.1 q.1 q.2.1 = q.2.2) (hk : ∀ k, k < 19 → τ.2.1 7 k = kyV k) (f36 : ∀ j, j < 380 → τ.1 36 j = 0) : Rr 0 σ τ := by
  have no : ∀ {P : Prop} (i : Nat), i < 0 → P := fun i h => absurd h (Nat.not_lt_zero i)
  have z44 : z0C 44 σ = σ := by
    unfold z0C
    rw [uI_self (Ls_g fC 14 rfl), uI_self (Ls_g fC 15 rfl), uI_self (Ls_g fC 16 rfl), uI_self (Ls_g fC 17 rfl), uI_self (Ls_g fC 18 rfl), uI_self (Ls_g fC 19 rfl), uI_self (Ls_g fC 20 rfl), uI_self (Ls_g fC 21 rfl), uI_self (Ls_g fC 22 rfl)]
  have rw0 : RW σ.1 44 (τ.1 36) 0 := by
    have := z0_keep (w := 44) (σ := σ) (r := τ.1 36) f36
    rwa [z44] at this
  refine ⟨3, 0, D00, ⟨h01, Or.inl rfl⟩, ⟨by decide, by decide, by decide, by decide, by decide, by decide, fun i hi => no i hi, fun i hi => no i hi, fun i hi => no i hi⟩,
    ⟨⟨hC, ⟨Ls_g fC 3 rfl, Ls_g fC 4 rfl, Ls_g fC 5 rfl, Ls_g fC 6 rfl⟩, fun i hi => no i hi, fun i hi => no i hi, ⟨4, by decide, Ls_g fC 7 rfl, ⟨⟨Ls_g fC 8 rfl, fun _ => by decide, fun z => absurd z (by decide), Ls_g fC 9 rfl, fun z => absurd z (by decide), fun _ => ⟨0, by decide, rfl⟩, Ls_g fC 10 rfl, fun z => absurd z (by decide), fun z => absurd z (by decide), trivial⟩, Ls_g fC 11 rfl, by decide, by simp [D00, tz, usualZ, opsOk]⟩⟩, ⟨Ls_g fC 12 rfl, fun i hi => no i hi⟩, ⟨Ls_g fC 13 rfl, fun i hi => no i hi⟩, fun i hi => no i hi⟩, fun j hj => Or.inl (f19 j hj)⟩,
    ⟨hM, ⟨Ls_g fM 2 rfl, by decide⟩, ⟨Ls_g fM 5 rfl, Ls_g fM 6 rfl, Ls_g fM 9 rfl, Ls_g fM 10 rfl⟩, fun i hi => no i hi, fun i hi => no i hi, ⟨0, 0, Ls_g fM 11 rfl, Ls_g fM 12 rfl, Or.inl ⟨rfl, by decide, rfl, rfl⟩⟩, ⟨Ls_g fM 7 rfl, fun i hi => no i hi⟩, ⟨Ls_g fM 8 rfl, fun i hi => no i hi⟩, fun i hi => no i hi, hk⟩,
    ⟨⟨0, by decide, Ls_g fC 2 rfl, Ls_g fM 0 rfl, fun i hi => no i hi⟩, ?_, ⟨0, 0, rw0, f36 120 (by decide), Nat.le_refl _, fun x y _ h1 h2 => ⟨f36 _ (by omega), f36 _ (by omega)⟩⟩, ⟨0, 0, by decide, by decide, Ls_g fC 24 rfl, Ls_g fC 23 rfl, Ls_g fM 3 rfl, fun i hi => no i hi⟩, ⟨0, by decide, Ls_g fC 1 rfl, fun j hj => ⟨?_, fun q => ?_⟩⟩, ⟨0, by decide, Ls_g fC 25 rfl, Ls_g fM 4 rfl, fun i hi => no i hi⟩⟩⟩
  · rw [Ls_g fC 0 (c := 0) (k := 4) rfl, Ls_g fM 1 (c := 0) (k := 17) rfl]
  · have z0 : bt (nI 0) j = false := bt_0 j
    rw [z0]
    rcases (show j = 0 ∨ j = 1 ∨ j = 2 by omega) with e | e | e <;> subst e
    · exact Ls_g fM 13 rfl
    · exact Ls_g fM 14 rfl
    · exact Ls_g fM 15 rfl
  · have z0 : bt (nI 0) j = false := bt_0 j
    rw [z0] at q
    cases q
theorem sC0_refs : ∀ c, c < 246 → ∀ k, k < 16 → fxC (kC c).1 k = none ∨ sC0.2.2 c k = (fxC (kC c).1 k).map (fun d => c + d) := by
  unfold sC0
  exact mC_refs
theorem sM0_refs : ∀ k, k < 69 → sM0.2.2 0 k = ([none, some 1, none, some 2, none, some 3, some 4, some 5, some 6, some 7, none, none, none, none, none, none, none, none, none, none, none, some 8, some 9, some 10, some 11, some 12, some 13, some 14, some 15, some 16, some 17, some 18, some 19, some 20, some 21, some 22, some 23, some 24, none, some 25, some 26, some 27, some 28, some 29, none, some 30, some 31, some 32, none, some 33, some 34, none, some 35, some 36, some 37, none, none, none, some 38, some 39, some 40, some 41, none, none, some 42, some 43, some 44, some 45, some 46].getD k none) := by
  unfold sM0
  exact mM_refs
theorem start_Rr : Rr 0 sC0 sM0 := Rr_of (HC_of sC0_p.1 sC0_p.2.1 sC0_p.2.2.1 sC0_p.2.2.2.1 sC0_p.2.2.2.2 sC0_refs) sC0_p.1.1 sC0_f sC0_19 (HM_of sM0_refs) sM0_f sM0_k sM0_36
