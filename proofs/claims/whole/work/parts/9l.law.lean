/-! ===== PURE 76: the law is told, step by step in both ===== -/
theorem tkP_mono {n : Nat} {b : Nat → Nat} : ∀ (d k : Nat), (∀ j, j < k + d → KK n b j ≠ 0) → tkP n b k ≤ tkP n b (k + d)
  | 0, _, _ => Nat.le_refl _
  | d + 1, k, h => by
    have i1 := tkP_mono (n := n) (b := b) d k (fun j hj => h j (by omega))
    have i2 := tkP_lt (h (k + d) (by omega))
    have e : k + (d + 1) = k + d + 1 := by omega
    rw [e]
    omega
/-- both go on within the law; or both have stopped, the law's length still right -/
def Blw (n : Nat) (b : Nat → Nat) (t s : Nat) (I : Nat → Nat → Nat → Nat → Nat → Prop) (σ τ : hSt) : Prop :=
  (∃ k w wp L c, I k w wp L c ∧ RdR n b t k w wp σ τ ∧ L ≤ k ∧ σ.1 (t + 4) 2 = nI L ∧ τ.1 0 12 = 0 ∧ τ.1 0 44 = nI (420 * s + c) ∧ c ≤ k) ∨ (DdR n b t σ τ ∧ ∃ L, L ≤ 401 ∧ σ.1 (t + 4) 2 = nI L)
/-- what the terms of the law change in the model -/
def frV (s : Nat) (τ τ' : hSt) : Prop := τ'.2 = τ.2 ∧ (∀ j, j ≠ 11 → j ≠ 12 → j ≠ 13 → j ≠ 14 → j ≠ 44 → j ≠ 48 → τ'.1 0 j = τ.1 0 j) ∧ (∀ c, c ≠ 0 → c ≠ 30 → c ≠ 31 → c ≠ 32 → τ'.1 c = τ.1 c) ∧ ∀ j, ¬ (420 * s ≤ j ∧ j < 420 * s + 420) → τ'.1 30 j = τ.1 30 j ∧ τ'.1 31 j = τ.1 31 j
theorem frV_rfl {s : Nat} {τ : hSt} : frV s τ τ := ⟨rfl, fun _ _ _ _ _ _ _ => rfl, fun _ _ _ _ _ => rfl, fun _ _ => ⟨rfl, rfl⟩⟩
theorem frV_trans {s : Nat} {τ τ' τ'' : hSt} (h : frV s τ τ') (h' : frV s τ' τ'') : frV s τ τ'' := ⟨h'.1.trans h.1, fun j a c d e f g => (h'.2.1 j a c d e f g).trans (h.2.1 j a c d e f g), fun c p q r u => (h'.2.2.1 c p q r u).trans (h.2.2.1 c p q r u), fun j p => ⟨(h'.2.2.2 j p).1.trans (h.2.2.2 j p).1, (h'.2.2.2 j p).2.trans (h.2.2.2 j p).2⟩⟩
theorem frV_N {s : Nat} {τ τ' : hSt} (h : frN τ τ') : frV s τ τ' := ⟨h.1, fun j a _ c d _ _ => h.2.1 j a c d, fun c p _ _ _ => h.2.2 c p, fun j _ => by rw [h.2.2 30 (by decide), h.2.2 31 (by decide)]; exact ⟨rfl, rfl⟩⟩
theorem Blw_C {n t s : Nat} {b : Nat → Nat} {I : Nat → Nat → Nat → Nat → Nat → Prop} {σ τ : hSt} (h : Blw n b t s I σ τ) : HC σ.2.2 ∧ σ.2.2 37 3 = some t ∧ (t = 3 ∨ t = 20) ∧ HM τ.2.2 := by
  rcases h with ⟨k, w, wp, L, c, i, r, -⟩ | ⟨⟨f, j, d1, d2⟩, -⟩
  · exact ⟨r.1.1, r.1.2.1, r.1.2.2.1, r.2.1.1⟩
  · exact ⟨d1.1, d1.2.1, d1.2.2.1, d2.1⟩
/-- the model notes something -/
theorem Blw_M {n t s c j : Nat} {b : Nat → Nat} {v : Int32} {I : Nat → Nat → Nat → Nat → Nat → Prop} {σ τ : hSt} (h : Blw n b t s I σ τ) (hc : (25 ≤ c ∧ c ≤ 29) ∨ (c = 0 ∧ j = 38)) : Blw n b t s I σ (uI τ c j v) := by
  have e : eqM τ (uI τ c j v) := ⟨rfl, rfl, fun j _ _ _ => uI_ne _ _ (by omega), fun c' _ _ => uI_row _ _ (by omega)⟩
  rcases h with ⟨k, w, wp, L, c', i, r, h1, h2, h3, h4, h5⟩ | ⟨⟨f, j', d1, d2⟩, h2⟩
  · exact Or.inl ⟨k, w, wp, L, c', i, RdR_e r eqC_rfl e, h1, h2, by rw [uI_ne _ _ (by omega)]; exact h3, by rw [uI_ne _ _ (by omega)]; exact h4, h5⟩
  · exact Or.inr ⟨⟨f, j', d1, DdM_e d2 e⟩, h2⟩
theorem lawTake {n t s x : Nat} {b : Nat → Nat} {I : Nat → Nat → Nat → Nat → Nat → Prop} {σ τ : hSt} (hb : ∀ i, b i < 256) (h : Blw n b t s I σ τ) (hx : x ∈ vL) (hx0 : x ≠ 0) (hx2 : x < 256) :
    ∃ v σ' τ', F_X4_take 37 (nI x) σ = some (v, σ') ∧ F_X12_must 0 (nI (mkK x)) τ = some τ' ∧ frT σ σ' ∧ frN τ τ' ∧ Blw n b t s (fun k' w wp L c => ∃ k, k' = k + 1 ∧ I k w wp L c) σ' τ' := by
  have ht := (Blw_C h).2.2.1
  obtain ⟨t1, t2, t3⟩ := t_ok ht
  rcases h with ⟨k, w, wp, L, c', i, r, h1, h2, h3, h4, h5⟩ | ⟨⟨f, j', d1, d2⟩, L, h1, h2⟩
  · obtain ⟨v, σ', τ', g, p, q1, q2, z⟩ := both_take hb r hx hx0 hx2
    refine ⟨v, σ', τ', g, p, q1, q2, ?_⟩
    have e : σ'.1 (t + 4) 2 = nI L := by rw [q1.2.2 (t + 4) (by omega)]; exact h2
    rcases z with ⟨z1, z2, z3⟩ | z
    · exact Or.inl ⟨k + 1, w, wp, L, c', ⟨k, rfl, i⟩, z3, by omega, e, by rw [q2.2.1 12 (by decide) (by decide) (by decide)]; exact h3, by rw [q2.2.1 44 (by decide) (by decide) (by decide)]; exact h4, by omega⟩
    · exact Or.inr ⟨z, L, by have := r.1.2.2.2.2.2.1; omega, e⟩
  · exact ⟨0, σ, τ, takeD d1, mustD d2, frT_rfl, frN_rfl, Or.inr ⟨⟨f, j', d1, d2⟩, L, h1, h2⟩⟩
/-- a term -/
theorem lawSum {n t s : Nat} {b : Nat → Nat} {I : Nat → Nat → Nat → Nat → Nat → Prop} {σ τ : hSt} {e : Option hSt} (hb : ∀ i, b i < 256) (hs : s < 2) (h : Blw n b t s I σ τ) (he : τ.1 0 13 = 0 → e = F_X12_expression 0 τ) (hd : ¬ τ.1 0 13 = 0 → e = some τ ∨ e = some (uI τ 0 48 0)) :
    ∃ σ' τ', FS 8 37 0 σ = some σ' ∧ e = some τ' ∧ frX t σ σ' ∧ frV s τ τ' ∧
      Blw n b t s (fun k' w wp L' c' => ∃ k L c os, I k w wp L c ∧ k < k' ∧ k + os.length ≤ k' ∧ L' = L + os.length ∧ c' = c + os.length ∧ (∀ j, j < L → σ'.1 (t + 5) j = σ.1 (t + 5) j) ∧ cOps (σ'.1 (t + 5)) L os ∧
        (∀ j, j < 420 * s + c → τ'.1 30 j = τ.1 30 j ∧ τ'.1 31 j = τ.1 31 j) ∧ mOps (τ'.1 30) (τ'.1 31) (420 * s + c) os ∧ opsOk 16 os 0 1 ∧ L ≤ k ∧ c ≤ k) σ' τ' := by
  have ht := (Blw_C h).2.2.1
  obtain ⟨t1, t2, t3⟩ := t_ok ht
  rcases h with ⟨k, w, wp, L, c, i, r, h1, h2, h3, h4, h5⟩ | ⟨⟨f, j', d1, d2⟩, L, h1, h2⟩
  · have hk := r.1.2.2.2.2.2.1
    obtain ⟨σ', g1, g2, g3, g4⟩ := (FS_ok (n := n) (t := t) hb 8 0 rfl (by decide)).1 k L σ r.1 h1 h2
    obtain ⟨τ', p1, p2, p3⟩ := expr_eq r.2.1 h3 h4 (show 420 * s + c + (401 - k) ≤ 840 by omega)
    have fv : frV s τ τ' := ⟨p2.1, p2.2.1, p2.2.2.1, fun j hj => p2.2.2.2 j (by omega)⟩
    refine ⟨σ', τ', g1, (he r.2.1.2.2.2.2.2).trans p1, g2, fv, ?_⟩
    rcases g4 with ⟨k', os, os1, pend, a1, a2, a3, a4, a5, a6, a7, a8, a9, a10, a11⟩ | ⟨f, j, a1, a2⟩
    · have R0 : Rm (KK n b) (VV n b) true k 0 [] [] = .inl (k', os) := by
        have hk' := a2.2.2.2.2.2.1
        rw [a11 [] [] (fun w W' q => by cases q), List.append_nil, List.nil_append, Rm_A hk', if_neg (fun z => by omega), if_neg (fun z => z.elim a8.1 a8.2), if_neg (by omega)]
        have := pop_app (st := false) (W := []) (fun w W' q => by cases q) pend (fun w hw q => by
          rcases q with q | q
          · rcases a10 w hw with (u | u) | (u | u) <;> omega
          · exact absurd q.1 (by decide))
        rw [List.append_nil] at this
        rw [this, a9]
      rcases p3 with ⟨k'', os', b1, b2, b3, b4, b5, b6, b7⟩ | ⟨f, j, b1, b2, b3⟩
      · have e2 := R0.symm.trans b7
        have e3 := Sum.inl.inj e2
        have e4 : k' = k'' := congrArg Prod.fst e3
        have e5 : os = os' := congrArg Prod.snd e3
        subst e4 e5
        left
        have mono : tkP n b k ≤ tkP n b k' := by
          have := tkP_mono (n := n) (b := b) (k' - k) k (fun j hj => b2.2.2.1 j (by omega))
          rwa [show k + (k' - k) = k' by omega] at this
        refine ⟨k', w, wp, L + os.length, c + os.length, ⟨k, L, c, os, i, b1, by omega, rfl, rfl, a5, a6, fun j hj => p2.2.2.2 j (Or.inl hj), b5, opsOk_mono (by decide) os 0 1 a7, h1, h5⟩, ⟨a2, b2, ?_, ?_, r.2.2.2.2.1, fun q => ?_⟩, by omega, a3, b3, ?_, by omega⟩
        · rw [g2.2.1 7 (by decide) (by decide) (by decide)]; exact r.2.2.1
        · rw [p2.2.1 15 (by decide) (by decide) (by decide) (by decide) (by decide) (by decide)]; exact r.2.2.2.1
        · obtain ⟨u1, u2, u3⟩ := r.2.2.2.2.2 q
          refine ⟨?_, ?_, by omega⟩
          · rw [g2.2.1 8 (by decide) (by decide) (by decide)]; exact u1
          · rw [p2.2.1 16 (by decide) (by decide) (by decide) (by decide) (by decide) (by decide)]; exact u2
        · rw [← Nat.add_assoc]; exact b4
      · rw [R0] at b3
        cases b3
    · have R0 := a2 [] [] (fun w W' q => by cases q)
      rcases p3 with ⟨k'', os', b1, b2, b3, b4, b5, b6, b7⟩ | ⟨f', j', b1, b2, b3⟩
      · rw [R0] at b7
        cases b7
      · have e2 := R0.symm.trans b3
        have e3 := Sum.inr.inj e2
        have e4 : f = f' := congrArg Prod.fst e3
        have e5 : j = j' := congrArg Prod.snd e3
        subst e4 e5
        exact Or.inr ⟨⟨f, j, a1, b1⟩, g3⟩
  · have g1 := (FS_ok (n := n) (t := t) hb 8 0 rfl (by decide)).2 f j' σ d1
    rcases hd (DdM_pos d2).1 with q | q
    · exact ⟨σ, τ, g1, q, frX_rfl, frV_rfl, Or.inr ⟨⟨f, j', d1, d2⟩, L, h1, h2⟩⟩
    · refine ⟨σ, uI τ 0 48 0, g1, q, frX_rfl, ⟨rfl, fun j _ _ _ _ _ a => uI_ne _ _ (by omega), fun c a _ _ _ => uI_row _ _ a, fun j _ => ?_⟩, Or.inr ⟨⟨f, j', d1, DdM_e d2 ⟨rfl, rfl, fun j _ _ _ => uI_ne _ _ (by omega), fun c' _ _ => uI_row _ _ (by omega)⟩⟩, L, h1, h2⟩⟩
      rw [uI_row _ _ (by decide), uI_row _ _ (by decide)]
      exact ⟨rfl, rfl⟩
/-- a cell of the law -/
theorem lawAdd {n t s : Nat} {b : Nat → Nat} {x : Int32} {I : Nat → Nat → Nat → Nat → Nat → Prop} {σ τ : hSt} (h : Blw n b t s I σ τ) (hI : ∀ k w wp L c, I k w wp L c → L + 1 ≤ k) :
    ∃ v σ', F_X0_add (t + 4) x σ = some (v, σ') ∧ frX t σ σ' ∧ Blw n b t s (fun k w wp L' c => ∃ L, L' = L + 1 ∧ I k w wp L c ∧ v = nI L ∧ σ'.1 (t + 5) L = x ∧ ∀ j, j ≠ L → σ'.1 (t + 5) j = σ.1 (t + 5) j) σ' τ := by
  obtain ⟨hP, -, ht, -⟩ := Blw_C h
  rcases h with ⟨k, w, wp, L, c, i, r, h1, h2, h3, h4, h5⟩ | ⟨⟨f, j', d1, d2⟩, L, h1, h2⟩
  · have hk := r.1.2.2.2.2.2.1
    obtain ⟨v, σ', g1, g2, g3, g4, g5⟩ := addA (x := x) hP ht h2 (by omega)
    have hL := hI k w wp L c i
    obtain ⟨a1, a2, a3, a4⟩ := g5 (by omega)
    refine ⟨v, σ', g1, g2, Or.inl ⟨k, w, wp, L + 1, c, ⟨L, rfl, i, a1, a3, a4⟩, ⟨LvC_fr r.1 g2.1 g3, r.2.1, ?_, r.2.2.2.1, r.2.2.2.2.1, fun q => ?_⟩, hL, a2, h3, h4, h5⟩⟩
    · rw [g3 37 (by have := (t_ok ht).2.2; omega) (by have := (t_ok ht).2.2; omega)]; exact r.2.2.1
    · rw [g3 37 (by have := (t_ok ht).2.2; omega) (by have := (t_ok ht).2.2; omega)]; exact r.2.2.2.2.2 q
  · obtain ⟨v, σ', g1, g2, g3, g4, g5⟩ := addA (x := x) hP ht h2 h1
    exact ⟨v, σ', g1, g2, Or.inr ⟨⟨f, j', DdC_fr d1 g2.1 g3, d2⟩, g4⟩⟩
/-- the hole of a test is aimed -/
theorem aimC {t : Nat} {v : Int32} {σ : hSt} (hP : HC σ.2.2) (ht : t = 3 ∨ t = 20) : ∃ σ', F_X0_aimHere (t + 4) v σ = some σ' ∧ (σ' = σ ∨ ∃ h, h < 401 ∧ σ' = uI σ (t + 5) h (σ.1 (t + 4) 2)) ∧ (∀ h, h < 401 → v = nI h → σ' = uI σ (t + 5) h (σ.1 (t + 4) 2)) := by
  obtain ⟨t1, t2, t3⟩ := t_ok ht
  have f21 : ∀ z, F_X0_aimHere_21 z = some z := fun _ => rfl
  unfold F_X0_aimHere cL
  by_cases q : v < 0
  · rw [if_pos q, f21]
    exact ⟨σ, rfl, Or.inl rfl, fun h hh e => absurd q (by rw [e]; exact nI_pos (by omega))⟩
  · rw [if_neg q]
    by_cases z : (401 : Int32) ≤ v
    · rw [if_pos z, f21]
      exact ⟨σ, rfl, Or.inl rfl, fun h hh e => absurd z (by rw [e]; exact nI_ge (b := 401) hh (by decide))⟩
    · obtain ⟨h, hh, e⟩ := nI_of q
      have h401 : h < 401 := by
        rcases Nat.lt_or_ge h 401 with u | u
        · exact u
        · exact absurd (show (401 : Int32) ≤ v by rw [e]; exact nI_le (a := 401) u hh) z
      subst e
      rw [if_neg z, rC_0_0 hP t2, cG_t (inb_nI (by rw [nC_0_0 t2]; exact h401) (by rw [nC_0_0 t2]; decide)), cl_nI hh, show t + 4 + 1 = t + 5 from rfl]
      dsimp only
      rw [f21]
      exact ⟨_, rfl, Or.inr ⟨h, h401, rfl⟩, fun h' hh' e' => by rw [(nI_eq hh (by omega)).mp e']⟩
theorem frX_aim {t j : Nat} {v : Int32} {σ : hSt} (ht : t = 3 ∨ t = 20) : frX t σ (uI σ (t + 5) j v) := ⟨rfl, fun j' _ _ _ => by rw [uI_row _ _ (show 37 ≠ t + 5 by have := (t_ok ht).2.2; omega)], fun j' _ => by rw [uI_row _ _ (show t + 4 ≠ t + 5 by omega)], fun k _ _ c => uI_row _ _ c⟩
theorem lawAim {n t s : Nat} {b : Nat → Nat} {v : Int32} {I : Nat → Nat → Nat → Nat → Nat → Prop} {σ τ : hSt} (h : Blw n b t s I σ τ) :
    ∃ σ', F_X0_aimHere (t + 4) v σ = some σ' ∧ frX t σ σ' ∧ Blw n b t s (fun k w wp L c => I k w wp L c ∧ ∀ h, h < 401 → v = nI h → σ'.1 (t + 5) h = nI L ∧ ∀ j, j ≠ h → σ'.1 (t + 5) j = σ.1 (t + 5) j) σ' τ := by
  obtain ⟨hP, -, ht, -⟩ := Blw_C h
  obtain ⟨t1, t2, t3⟩ := t_ok ht
  obtain ⟨σ', g1, g2, g3⟩ := aimC (v := v) hP ht
  have fx : frX t σ σ' := by
    rcases g2 with e | ⟨h, -, e⟩
    · rw [e]; exact frX_rfl
    · rw [e]; exact frX_aim ht
  have ex : eqC σ σ' := by
    rcases g2 with e | ⟨h, -, e⟩
    · rw [e]; exact eqC_rfl
    · rw [e]; exact ⟨rfl, uI_row _ _ (by omega), uI_row _ _ (by omega), uI_row _ _ (by omega), rfl⟩
  refine ⟨σ', g1, fx, ?_⟩
  rcases h with ⟨k, w, wp, L, c, i, r, h1, h2, h3, h4, h5⟩ | ⟨⟨f, j', d1, d2⟩, L, h1, h2⟩
  · refine Or.inl ⟨k, w, wp, L, c, ⟨i, fun h hh e => ?_⟩, RdR_e r ex eqM_rfl, h1, ?_, h3, h4, h5⟩
    · have := g3 h hh e
      subst this
      refine ⟨?_, fun j hj => uI_ne _ _ (fun a => hj a.2)⟩
      rw [uI_I, if_pos ⟨rfl, rfl⟩, h2]
    · rcases g2 with e | ⟨h, -, e⟩
      · rw [e]; exact h2
      · rw [e, uI_row _ _ (by omega)]; exact h2
  · refine Or.inr ⟨⟨f, j', DdC_e d1 ex, d2⟩, L, h1, ?_⟩
    rcases g2 with e | ⟨h, -, e⟩
    · rw [e]; exact h2
    · rw [e, uI_row _ _ (by omega)]; exact h2
theorem exprD {n f j : Nat} {b : Nat → Nat} {s : hSt} (h : DdM n b f j s) : F_X12_expression 0 s = some (uI s 0 48 0) := by
  have e272 : ∀ z, F_X12_expression_272 z = some z := fun _ => rfl
  have d : DdM n b f j (uI s 0 48 0) := DdM_e h ⟨rfl, rfl, fun j _ _ _ => uI_ne _ _ (by omega), fun c' _ _ => uI_row _ _ (by omega)⟩
  unfold F_X12_expression F_X12_expression_12 cL
  dsimp only
  refine lp_1a ?_
  unfold S_X12_expression_12 F_X12_expression_12b
  dsimp only
  rw [if_neg ne_10, if_neg (DdM_pos d).1, e272]
  rfl
