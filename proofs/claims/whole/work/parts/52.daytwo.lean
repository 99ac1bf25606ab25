/-! ===== PURE 17: a whole day by the rule, both ===== -/
theorem ear_same {ear : Nat → Nat → Nat → Bool} {d H h : Nat} {e e' : Nat → Int32} (he : earE ear d H e) (he' : earE ear d H e') (hh : h < H) : e h = e' h := by
  apply bt_ext
  intro b hb
  rw [he h b hh hb, he' h b hh hb]
theorem nRow_same {H S : Nat} {A B D : Nat → Nat} {e e' r : Nat → Int32} {sil : Int32} (hA : ∀ i, i < S → e (A i) = e' (A i)) : ∀ i, i ≤ S → nRow H e sil A B D r i = nRow H e' sil A B D r i
  | 0, _ => rfl
  | i + 1, hi => by
    unfold nRow nStep
    rw [nRow_same hA i (by omega), hA i (by omega)]
theorem dIn_same {H how h : Nat} {e e' : Nat → Int32} {p : (Nat → Int32) × Nat} (hA : e h = e' h) : ∀ m, dIn H how e h p m = dIn H how e' h p m
  | 0 => rfl
  | m + 1 => by
    unfold dIn dStep
    rw [dIn_same hA m, hA]
theorem dOut_same {H M how : Nat} {e e' : Nat → Int32} {sil : Int32} {p : (Nat → Int32) × Nat} (hA : ∀ h, h < H → e h = e' h) : ∀ h, h ≤ H → dOut H M how e sil p h = dOut H M how e' sil p h
  | 0, _ => rfl
  | h + 1, hh => by
    unfold dOut
    rw [dOut_same hA h (by omega), dIn_same (hA h (by omega))]
/-- what the model's days leave: all but the row and the scratch of the ears -/
def frq (τ τ' : hSt) : Prop := τ'.2.2 = τ.2.2 ∧ (∀ j, j ≠ 51 → τ'.1 0 j = τ.1 0 j) ∧ ∀ k, k ≠ 0 → k ≠ 33 → k ≠ 34 → k ≠ 35 → k ≠ 37 → τ'.1 k = τ.1 k ∧ τ'.2.1 k = τ.2.1 k
theorem uA_row (τ : hSt) {c k : Nat} (f : Nat → Int32) (h : k ≠ c) : (uA τ c f).1 k = τ.1 k := funext fun j => uA_oth' _ _ _ h
theorem dayM_all {Q : hSt → Prop} {li H M S d how n0 : Nat} {A B D : Nat → Nat} {ear : Nat → Nat → Nat → Bool} {e : Nat → Int32} {τ : hSt} (hX : TQ Q li H M S A B D ear) (hAH : ∀ i, i < S → A i < H) (hQ : Q τ) (hd : d < 2 ^ 30) (h120 : τ.1 37 120 = nI d)
    (hq : RMt (τ.1 37, n0)) (e2 : τ.1 0 55 = nI how) (hw : how < 4) (he : earE ear d H e) :
    ∃ τ', F_X12_dayByRule 0 τ = some τ' ∧ Q τ' ∧ frq τ τ' ∧ τ'.1 37 = nigR (nRow H e (τ.1 0 56) A B D (dOut H M how e (τ.1 0 56) (τ.1 37, n0) H).1 S) := by
  have hX0 := hX
  obtain ⟨h1, h2, h3⟩ := hX
  obtain ⟨τ1, y1, y2, y3, y4, y5, y6, y7⟩ := h3 τ d hQ hd
  obtain ⟨z1, z2, z3⟩ := h1 τ1 y2
  have hH : H ≤ 6 := z2.2.2.2.1
  have hM : M ≤ 4 := z2.2.2.2.2.2
  obtain ⟨p, hp⟩ : ∃ p, p = dOut H M how (τ1.1 35) (τ1.1 0 56) (τ.1 37, n0) H := ⟨_, rfl⟩
  have hp1 : p = dOut H M how e (τ.1 0 56) (τ.1 37, n0) H := by
    rw [hp, y5 56 (by decide)]
    exact dOut_same (fun h hh => ear_same y7 he hh) H (Nat.le_refl _)
  have own : (uA τ1 37 p.1).1 37 = p.1 := funext fun j => uA_own _ _ _ _
  have p120 : (uA τ1 37 p.1).1 37 120 = nI d := by
    rw [own, hp, dOut_120 hH hM]
    exact h120
  obtain ⟨τ2, x1, x2, x3, x6, x4, x5⟩ := nightM_all hX0 (h2 τ1 p.1 y2) hd p120
  rw [own, uA_row _ _ (by decide), y5 56 (by decide), nRow_same (e' := e) (fun i hi => ear_same x5 he (hAH i hi)) S (Nat.le_refl _)] at x1
  refine ⟨uA τ2 37 (nigR (nRow H e (τ.1 0 56) A B D p.1 S)), ?_, h2 τ2 _ x2, ⟨?_, fun j hj => ?_, fun k z a b c g => ?_⟩, ?_⟩
  · unfold F_X12_dayByRule
    rw [rM_54 (h1 τ hQ).1, cG_t (show inb (120 : Int32) (kM 37).2 = true by rw [kM_37]; decide), show (120 : Int32).toNatClampNeg = 120 from rfl, h120, y1]
    simp only [Option.bind_some]
    have t1 : τ1 = uA τ1 37 (τ.1 37, n0).1 := by
      show τ1 = uA τ1 37 (τ.1 37)
      rw [← y4, uA_self]
    have := dayM_out (τ := τ1) (p := (τ.1 37, n0)) z1 z2 hq (by rw [y5 55 (by decide)]; exact e2) hw (by rw [← hp]; exact x1)
    rw [← t1] at this
    exact this
  · show τ2.2.2 = τ.2.2
    rw [x3]
    exact y3
  · rw [uA_row _ _ (by decide), x6 j hj, uA_row _ _ (by decide), y5 j hj]
  · rw [uA_row _ _ g, (x4 k z a b c).1, uA_row _ _ g, (y6 k z a b c).1]
    exact ⟨rfl, ((x4 k z a b c).2).trans (y6 k z a b c).2⟩
  · rw [hp1]
    funext j
    exact uA_own _ _ _ _
/-- a day by the rule keeps the worlds side by side -/
theorem day_both {T Q : hSt → Prop} {t w li H M S d how n0 : Nat} {A B D : Nat → Nat} {ear : Nat → Nat → Nat → Bool} {σ τ : hSt}
    (hX : TX T t H S A B D ear) (hM : ∀ σ, T σ → σ.1 t 3 = nI M) (hM4 : M ≤ 4) (ht : okr kC NC 7 t = true) (hw : okr kC NC 10 w = true) (htw : t + 17 ≤ w) (hT : T σ)
    (hY : TQ Q li H M S A B D ear) (hQ : Q τ) (hR : RW σ.1 w (τ.1 37) n0) (hd : d < 2 ^ 30) (h120 : τ.1 37 120 = nI d) (e2 : τ.1 0 55 = nI how) (hhow : how < 4) :
    ∃ σ' τ', F_X10_passDay w t (nI how) (τ.1 0 56) σ = some σ' ∧ F_X12_dayByRule 0 τ = some τ' ∧ T σ' ∧ Q τ' ∧ frm t w σ σ' ∧ frq τ τ' ∧ RW σ'.1 w (τ'.1 37) 0 ∧ τ'.1 37 120 = nI (d + 1) := by
  obtain ⟨τ1, y1, y2, y3, y4, y5, y6, y7⟩ := hY.2.2 τ d hQ hd
  obtain ⟨x1, x2, x3, x4, x5, x6⟩ := hX.1 σ hT
  have hAH : ∀ i, i < S → A i < H := fun i hi => (x6 i hi).2.1
  have hB : ∀ i, i < S → B i < 4 := fun i hi => (x6 i hi).2.2.2.1
  obtain ⟨τ', m1, m2, m3, m4⟩ := dayM_all hY hAH hQ hd h120 ⟨hR.2.2.1, hR.2.2.2.1⟩ e2 hhow y7
  obtain ⟨σ', c1, c2, c3, c4⟩ := dayC_all hX hM hM4 ht hw htw hT hR hd h120 y7 hhow (sil := τ.1 0 56)
  refine ⟨σ', τ', c1, m1, c2, m2, c3, m3, by rw [m4]; exact c4, ?_⟩
  rw [m4]
  have n120 : ∀ i, i ≤ S → nRow H (τ1.1 35) (τ.1 0 56) A B D (dOut H M how (τ1.1 35) (τ.1 0 56) (τ.1 37, n0) H).1 i 120 = nI d := by
    intro i
    induction i with
    | zero => intro _; exact (dOut_120 x3 hM4 H).trans h120
    | succ i ih => intro hi; exact (nStep_120 (hB i (by omega)) x3).trans (ih (by omega))
  unfold nigR
  rw [upd_ne (by decide), upd_eq, n120 S (Nat.le_refl _), nI_1]
