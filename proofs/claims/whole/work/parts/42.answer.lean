/-! ===== PURE 7: today's drums; what is an answer ===== -/
/-- the i-th drum of the day was heard by hill x, of another one -/
def hrd (r : Nat → Int32) (i x : Nat) : Prop := ¬ r (130 + 4 * i) = nI x ∧ bt (r (130 + 4 * i + 3)) x = true
def hrdN (r : Nat → Int32) (i x y : Nat) (d : Int32) : Prop := hrd r i x ∧ r (130 + 4 * i + 1) = nI y ∧ r (130 + 4 * i + 2) = d
def drOk (r : Nat → Int32) (q : Int32) (i : Nat) : Prop := ∃ a b c e : Nat, a < 6 ∧ b < 4 ∧ c < 2 ∧ e < 64 ∧ r (130 + 4 * i) = nI a ∧ r (130 + 4 * i + 1) = nI b ∧ r (130 + 4 * i + 2) = nI c ∧ r (130 + 4 * i + 3) = nI e ∧ q = nI (e * 128 + c * 64 + b * 8 + a)
def RWt (I : Nat → Nat → Int32) (w : Nat) (r : Nat → Int32) (t : Nat) : Prop :=
  I w 7 = nI t ∧ r 121 = nI t ∧ t ≤ 60 ∧ (∀ i, i < t → drOk r (I (w + 3) i) i) ∧
  (∀ x y, x < 6 → y < 4 → (bt (I w 3) (6 * y + x) = true ↔ ∃ i, i < t ∧ hrdN r i x y 0)) ∧
  (∀ x y, x < 6 → y < 4 → (bt (I w 4) (6 * y + x) = true ↔ ∃ i, i < t ∧ hrdN r i x y 1))
/-- it would be an answer: by the order, of the drums of the day -/
def ansP (r : Nat → Int32) (t how h m : Nat) (d : Int32) : Prop := ¬ how = 0 ∧ ∃ i, i < t ∧ hrd r i h ∧ (how = 2 ∨ (how = 1 ∧ r (130 + 4 * i + 1) = nI m) ∨ (how = 3 ∧ r (130 + 4 * i + 1) = nI m ∧ ¬ r (130 + 4 * i + 2) = d))
theorem ansM_step {h m i t how : Nat} {d : Int32} {τ : hSt} (hP : HM τ.2.2) (hh : h < 6) (hm : m < 4) (ht : t ≤ 60) (hi : i ≤ t) (e1 : τ.1 37 121 = nI t) (e2 : τ.1 0 55 = nI how) (hw0 : ¬ how = 0) (hw : how < 4) :
    (i = t ∧ S_X12_isAnswer_12 0 (nI h) (nI m) d τ (nI i) = some (.inr 0)) ∨
    (i < t ∧ (hrd (τ.1 37) i h ∧ (how = 2 ∨ (how = 1 ∧ τ.1 37 (130 + 4 * i + 1) = nI m) ∨ (how = 3 ∧ τ.1 37 (130 + 4 * i + 1) = nI m ∧ ¬ τ.1 37 (130 + 4 * i + 2) = d))) ∧ S_X12_isAnswer_12 0 (nI h) (nI m) d τ (nI i) = some (.inr 1)) ∨
    (i < t ∧ ¬ (hrd (τ.1 37) i h ∧ (how = 2 ∨ (how = 1 ∧ τ.1 37 (130 + 4 * i + 1) = nI m) ∨ (how = 3 ∧ τ.1 37 (130 + 4 * i + 1) = nI m ∧ ¬ τ.1 37 (130 + 4 * i + 2) = d))) ∧ S_X12_isAnswer_12 0 (nI h) (nI m) d τ (nI i) = some (.inl (nI (i + 1)))) := by
  have hc : F_X12_isAnswer_133 0 (nI h) (nI m) d (nI i) τ = some (.inl (nI (i + 1))) := by
    unfold F_X12_isAnswer_133 cL
    rw [nI_1]
  unfold S_X12_isAnswer_12 F_X12_isAnswer_12b
  rw [rM_54 hP]
  simp only [show (121 : Int32) = nI 121 from rfl, show (130 : Int32) = nI 130 from rfl, show (4 : Int32) = nI 4 from rfl, show (3 : Int32) = nI 3 from rfl, show (2 : Int32) = nI 2 from rfl, pk_mul, nI_add, nI_1]
  rw [cG_t (inb_nI (by rw [kM_37]; omega) (by decide)), cl_nI (by omega), e1]
  by_cases hit : i < t
  · rw [if_neg (nI_ge hit (by omega))]
    refine Or.inr ?_
    unfold cL
    dsimp only
    rw [rM_54 hP, cG_t (inb_nI (by rw [kM_37]; omega) (by decide)), cl_nI (by omega)]
    by_cases hb : τ.1 37 (130 + 4 * i) = nI h
    · rw [if_pos hb]
      exact Or.inr ⟨hit, fun q => q.1.1 hb, hc⟩
    · rw [if_neg hb, rM_54 hP]
      simp only [nI_add]
      rw [cG_t (inb_nI (by rw [kM_37]; omega) (by decide)), cl_nI (by omega)]
      by_cases hbt : bt (τ.1 37 (130 + 4 * i + 3)) h = true
      · rw [if_neg (by rw [bt_is0 (by omega), hbt]; decide), rM_54 hP]
        simp only [nI_add, nI_1]
        rw [cG_t (inb_nI (by rw [kM_37]; omega) (by decide)), cl_nI (by omega)]
        have hrd' : hrd (τ.1 37) i h := ⟨hb, hbt⟩
        have h131 : ∀ s0, F_X12_isAnswer_131 τ = s0 → (F_X12_isAnswer_131 τ).map (fun x => (Sum.inr x : Int32 ⊕ Int32)) = some (.inr 1) := fun _ _ => rfl
        have key : ∀ z : Int32, (z = 1 ∧ τ.1 37 (130 + 4 * i + 1) = nI m ∨ z = 0 ∧ ¬ τ.1 37 (130 + 4 * i + 1) = nI m) → ((hrd (τ.1 37) i h ∧ (how = 2 ∨ (how = 1 ∧ τ.1 37 (130 + 4 * i + 1) = nI m) ∨ (how = 3 ∧ τ.1 37 (130 + 4 * i + 1) = nI m ∧ ¬ τ.1 37 (130 + 4 * i + 2) = d))) ∧ F_X12_isAnswer_82 0 (nI h) (nI m) d (nI i) (nI (130 + 4 * i)) z τ = some (.inr 1)) ∨
            (¬ (hrd (τ.1 37) i h ∧ (how = 2 ∨ (how = 1 ∧ τ.1 37 (130 + 4 * i + 1) = nI m) ∨ (how = 3 ∧ τ.1 37 (130 + 4 * i + 1) = nI m ∧ ¬ τ.1 37 (130 + 4 * i + 2) = d))) ∧ F_X12_isAnswer_82 0 (nI h) (nI m) d (nI i) (nI (130 + 4 * i)) z τ = some (.inl (nI (i + 1)))) := by
          intro z hz
          have h105 : (how = 3 ∧ τ.1 37 (130 + 4 * i + 1) = nI m ∧ ¬ τ.1 37 (130 + 4 * i + 2) = d) ∧ F_X12_isAnswer_105 0 (nI h) (nI m) d (nI i) (nI (130 + 4 * i)) z τ = some (.inr 1) ∨ ¬ (how = 3 ∧ τ.1 37 (130 + 4 * i + 1) = nI m ∧ ¬ τ.1 37 (130 + 4 * i + 2) = d) ∧ F_X12_isAnswer_105 0 (nI h) (nI m) d (nI i) (nI (130 + 4 * i)) z τ = some (.inl (nI (i + 1))) := by
            unfold F_X12_isAnswer_105
            rw [e2, show (3 : Int32) = nI 3 from rfl]
            by_cases h3 : how = 3
            · rw [if_pos (by rw [h3])]
              rcases hz with ⟨hz1, hz2⟩ | ⟨hz1, hz2⟩
              · rw [hz1, if_neg (by decide), rM_54 hP]
                simp only [show (2 : Int32) = nI 2 from rfl, nI_add]
                rw [cG_t (inb_nI (by rw [kM_37]; omega) (by decide)), cl_nI (by omega)]
                by_cases hdd : τ.1 37 (130 + 4 * i + 2) = d
                · rw [if_pos hdd, hc]
                  exact Or.inr ⟨fun q => q.2.2 hdd, rfl⟩
                · rw [if_neg hdd]
                  exact Or.inl ⟨⟨h3, hz2, hdd⟩, rfl⟩
              · rw [hz1, if_pos rfl, hc]
                exact Or.inr ⟨fun q => hz2 q.2.1, rfl⟩
            · rw [if_neg (fun q => h3 ((nI_eq (by omega) (by omega)).mp q)), hc]
              exact Or.inr ⟨fun q => h3 q.1, rfl⟩
          unfold F_X12_isAnswer_82
          rw [e2, show (2 : Int32) = nI 2 from rfl, show (1 : Int32) = nI 1 from rfl]
          by_cases h2 : how = 2
          · rw [if_pos (by rw [h2])]
            exact Or.inl ⟨⟨hrd', Or.inl h2⟩, rfl⟩
          · rw [if_neg (fun q => h2 ((nI_eq (by omega) (by omega)).mp q))]
            by_cases h1 : how = 1
            · rw [if_pos (by rw [h1])]
              rcases hz with ⟨hz1, hz2⟩ | ⟨hz1, hz2⟩
              · rw [hz1, if_neg (by decide)]
                exact Or.inl ⟨⟨hrd', Or.inr (Or.inl ⟨h1, hz2⟩)⟩, rfl⟩
              · rw [hz1, if_pos rfl]
                have : ¬ how = 3 := by omega
                rcases hz1 ▸ h105 with ⟨q, _⟩ | ⟨_, q⟩
                · exact absurd q.1 this
                · refine Or.inr ⟨fun q2 => ?_, q⟩
                  rcases q2.2 with q3 | q3 | q3
                  · exact h2 q3
                  · exact hz2 q3.2
                  · exact this q3.1
            · rw [if_neg (fun q => h1 ((nI_eq (by omega) (by omega)).mp q))]
              rcases h105 with ⟨q1, q2⟩ | ⟨q1, q2⟩
              · exact Or.inl ⟨⟨hrd', Or.inr (Or.inr q1)⟩, q2⟩
              · refine Or.inr ⟨fun q3 => ?_, q2⟩
                rcases q3.2 with q4 | q4 | q4
                · exact h2 q4
                · exact h1 q4.1
                · exact q1 q4
        by_cases hn : τ.1 37 (130 + 4 * i + 1) = nI m
        · rw [if_pos hn]
          rcases key 1 (Or.inl ⟨rfl, hn⟩) with ⟨a, b⟩ | ⟨a, b⟩
          · exact Or.inl ⟨hit, a, b⟩
          · exact Or.inr ⟨hit, a, b⟩
        · rw [if_neg hn]
          rcases key 0 (Or.inr ⟨rfl, hn⟩) with ⟨a, b⟩ | ⟨a, b⟩
          · exact Or.inl ⟨hit, a, b⟩
          · exact Or.inr ⟨hit, a, b⟩
      · have hbt' : bt (τ.1 37 (130 + 4 * i + 3)) h = false := by simpa using hbt
        rw [if_pos ((bt_is0 (by omega)).mpr hbt')]
        exact Or.inr ⟨hit, fun q => hbt q.1.2, hc⟩
  · have : i = t := by omega
    subst this
    rw [if_pos (nI_le (Nat.le_refl _) (by omega))]
    exact Or.inl ⟨rfl, rfl⟩
/-- the reference's answer to 'is it an answer' -/
theorem ansM_eq {h m t how : Nat} {d : Int32} {τ : hSt} (hP : HM τ.2.2) (hh : h < 6) (hm : m < 4) (ht : t ≤ 60) (e1 : τ.1 37 121 = nI t) (e2 : τ.1 0 55 = nI how) (hw : how < 4) :
    (ansP (τ.1 37) t how h m d → F_X12_isAnswer 0 (nI h) (nI m) d τ = some 1) ∧ (¬ ansP (τ.1 37) t how h m d → F_X12_isAnswer 0 (nI h) (nI m) d τ = some 0) := by
  unfold F_X12_isAnswer
  rw [e2]
  by_cases h0 : how = 0
  · rw [h0, if_pos nI_0]
    exact ⟨fun q => absurd rfl q.1, fun _ => rfl⟩
  · rw [if_neg (nI_ne0 (by omega) (by omega))]
    unfold F_X12_isAnswer_12
    have step := fun (i : Nat) (hi : i ≤ t) => ansM_step (h := h) (m := m) (d := d) hP hh hm ht hi e1 e2 h0 hw
    by_cases hA : ansP (τ.1 37) t how h m d
    · refine ⟨fun _ => ?_, fun q => absurd hA q⟩
      obtain ⟨-, k, hk, hk2⟩ := hA
      refine lp_eq t (by rw [fuel_v]; omega) (fun i v => v = nI i ∧ i ≤ k) ⟨rfl, Nat.zero_le _⟩ (fun i v hi hv => ?_)
      obtain ⟨rfl, hik⟩ := hv
      rcases step i hi with ⟨a, b⟩ | ⟨a, b, c⟩ | ⟨a, b, c⟩
      · omega
      · exact Or.inr c
      · refine Or.inl ⟨_, a, c, rfl, ?_⟩
        by_cases hik2 : i = k
        · subst hik2; exact absurd hk2 b
        · omega
    · refine ⟨fun q => absurd q hA, fun _ => ?_⟩
      refine lp_eq t (by rw [fuel_v]; omega) (fun i v => v = nI i) rfl (fun i v hi hv => ?_)
      subst hv
      rcases step i hi with ⟨a, b⟩ | ⟨a, b, c⟩ | ⟨a, b, c⟩
      · exact Or.inr b
      · exact absurd ⟨h0, i, a, b⟩ hA
      · exact Or.inl ⟨_, a, c, rfl⟩
theorem eq0_bt {x : Int32} : x = 0 ↔ ∀ i, i < 32 → bt x i = false := ⟨fun h i _ => by rw [h, bt_0], fun h => bt_ext (fun i hi => by rw [h i hi, bt_0])⟩
theorem and_pow {x : Int32} {k : Nat} (hk : k < 32) : x &&& (1 <<< (nI k &&& 31)) = 0 ↔ bt x k = false := by
  rw [eq0_bt]
  constructor
  · intro h
    have := h k hk
    rw [bt_and, bt_pow hk hk] at this
    simpa using this
  · intro h i hi
    rw [bt_and, bt_pow hk hi]
    by_cases e : i = k
    · subst e; rw [h]; rfl
    · simp [e]
theorem bt_col : ∀ h, h < 6 → ∀ i, i < 32 → bt ((266305 : Int32) <<< (nI h &&& 31)) i = (decide (i = h) || decide (i = 6 + h) || decide (i = 12 + h) || decide (i = 18 + h)) := by decide +kernel
theorem and_col {x : Int32} {h : Nat} (hh : h < 6) : x &&& ((266305 : Int32) <<< (nI h &&& 31)) = 0 ↔ ∀ y, y < 4 → bt x (6 * y + h) = false := by
  rw [eq0_bt]
  constructor
  · intro q y hy
    have := q (6 * y + h) (by omega)
    rw [bt_and, bt_col h hh _ (by omega)] at this
    have e : (decide (6 * y + h = h) || decide (6 * y + h = 6 + h) || decide (6 * y + h = 12 + h) || decide (6 * y + h = 18 + h)) = true := by
      rcases (show y = 0 ∨ y = 1 ∨ y = 2 ∨ y = 3 by omega) with e | e | e | e <;> subst e <;> simp
    rw [e] at this
    simpa using this
  · intro q i hi
    rw [bt_and, bt_col h hh i hi]
    have q0 := q 0 (by omega)
    have q1 := q 1 (by omega)
    have q2 := q 2 (by omega)
    have q3 := q 3 (by omega)
    by_cases e0 : i = h
    · subst e0; rw [Nat.mul_zero, Nat.zero_add] at q0; rw [q0]; rfl
    · by_cases e1 : i = 6 + h
      · subst e1; rw [q1]; rfl
      · by_cases e2 : i = 12 + h
        · subst e2; rw [q2]; rfl
        · by_cases e3 : i = 18 + h
          · subst e3; rw [q3]; rfl
          · simp [e0, e1, e2, e3]
theorem hrd_news {r : Nat → Int32} {t : Nat} {I : Nat → Nat → Int32} {w x : Nat} (hR : RWt I w r t) : (∃ i, i < t ∧ hrd r i x) ↔ ∃ y, y < 4 ∧ ((∃ i, i < t ∧ hrdN r i x y 0) ∨ ∃ i, i < t ∧ hrdN r i x y 1) := by
  constructor
  · rintro ⟨i, hi, hx⟩
    obtain ⟨a, b, c, e, ha, hb, hc, he, e1, e2, e3, e4, e5⟩ := hR.2.2.2.1 i hi
    refine ⟨b, hb, ?_⟩
    rcases (show c = 0 ∨ c = 1 by omega) with q | q <;> subst q
    · exact Or.inl ⟨i, hi, hx, e2, e3⟩
    · exact Or.inr ⟨i, hi, hx, e2, e3⟩
  · rintro ⟨y, hy, ⟨i, hi, h⟩ | ⟨i, hi, h⟩⟩ <;> exact ⟨i, hi, h.1⟩
/-- the class's answer to 'is it an answer' -/
theorem ansC_eq {w h m t how : Nat} {d : Int32} {σ : hSt} {r : Nat → Int32} (hR : RWt σ.1 w r t) (hh : h < 6) (hm : m < 4) (hw : how < 4) (hd : d = 0 ∨ d = 1) :
    (ansP r t how h m d → F_X10_isAnswer w (nI how) (nI h) (nI m) d σ = some 1) ∧ (¬ ansP r t how h m d → F_X10_isAnswer w (nI how) (nI h) (nI m) d σ = some 0) := by
  have hN := hrd_news (x := h) hR
  obtain ⟨h7, h121, ht, hdr, hS, hD⟩ := hR
  have hS1 := hS h m hh hm
  have hD1 := hD h m hh hm
  have hb : 6 * m + h < 32 := by omega
  have news : (∃ i, i < t ∧ hrd r i h ∧ r (130 + 4 * i + 1) = nI m) ↔ (bt (σ.1 w 3) (6 * m + h) = true ∨ bt (σ.1 w 4) (6 * m + h) = true) := by
    rw [hS1, hD1]
    constructor
    · rintro ⟨i, hi, hx, hn⟩
      obtain ⟨a, b, c, e, ha, hb, hc, he, e1, e2, e3, e4, e5⟩ := hdr i hi
      rcases (show c = 0 ∨ c = 1 by omega) with q | q <;> subst q
      · exact Or.inl ⟨i, hi, hx, hn, e3⟩
      · exact Or.inr ⟨i, hi, hx, hn, e3⟩
    · rintro (⟨i, hi, a, b, c⟩ | ⟨i, hi, a, b, c⟩) <;> exact ⟨i, hi, a, b⟩
  unfold F_X10_isAnswer
  rw [pairOf_eq]
  simp only [Option.bind_some]
  unfold cL
  dsimp only
  by_cases h0 : how = 0
  · subst h0
    rw [if_pos (show nI 0 = 0 from rfl)]
    exact ⟨fun q => absurd rfl q.1, fun _ => rfl⟩
  · rw [if_neg (by rw [show (0 : Int32) = nI 0 from rfl]; exact fun q => h0 ((nI_eq (by omega) (by omega)).mp q))]
    by_cases h1 : how = 1
    · subst h1
      rw [if_pos (show nI 1 = 1 from rfl)]
      by_cases hz : bt (σ.1 w 3) (6 * m + h) = true ∨ bt (σ.1 w 4) (6 * m + h) = true
      · rw [if_neg (by rw [and_pow hb, bt_or]; rcases hz with q | q <;> simp [q])]
        obtain ⟨i, hi, hx, hn⟩ := news.mpr hz
        exact ⟨fun _ => rfl, fun q => absurd ⟨h0, i, hi, hx, Or.inr (Or.inl ⟨rfl, hn⟩)⟩ q⟩
      · have : bt (σ.1 w 3) (6 * m + h) = false ∧ bt (σ.1 w 4) (6 * m + h) = false := by
          cases q1 : bt (σ.1 w 3) (6 * m + h) <;> cases q2 : bt (σ.1 w 4) (6 * m + h) <;> simp [q1, q2] at hz ⊢
        rw [if_pos (by rw [and_pow hb, bt_or, this.1, this.2]; rfl)]
        refine ⟨fun q => ?_, fun _ => rfl⟩
        obtain ⟨-, i, hi, hx, q | q | q⟩ := q
        · exact absurd q (by decide)
        · exact absurd (news.mp ⟨i, hi, hx, q.2⟩) hz
        · exact absurd q.1 (by decide)
    · rw [if_neg (by rw [show (1 : Int32) = nI 1 from rfl]; exact fun q => h1 ((nI_eq (by omega) (by omega)).mp q))]
      by_cases h2 : how = 2
      · subst h2
        rw [if_pos (show nI 2 = 2 from rfl)]
        by_cases hz : ∃ i, i < t ∧ hrd r i h
        · have : ¬ ∀ y, y < 4 → bt (σ.1 w 3 ||| σ.1 w 4) (6 * y + h) = false := fun q => by
            obtain ⟨y, hy, hyy⟩ := hN.mp hz
            have q1 := q y hy
            rw [bt_or] at q1
            rcases hyy with q2 | q2
            · rw [(hS h y hh hy).mpr q2] at q1; simp at q1
            · rw [(hD h y hh hy).mpr q2] at q1; simp at q1
          rw [if_neg (by rw [and_col hh]; exact this)]
          obtain ⟨i, hi, hx⟩ := hz
          exact ⟨fun _ => rfl, fun q => absurd ⟨h0, i, hi, hx, Or.inl rfl⟩ q⟩
        · rw [if_pos]
          · refine ⟨fun q => ?_, fun _ => rfl⟩
            obtain ⟨-, i, hi, hx, -⟩ := q
            exact absurd ⟨i, hi, hx⟩ hz
          · rw [and_col hh]
            intro y hy
            rw [bt_or]
            cases q1 : bt (σ.1 w 3) (6 * y + h) with
            | true => exact absurd (hN.mpr ⟨y, hy, Or.inl ((hS h y hh hy).mp q1)⟩) hz
            | false =>
              cases q2 : bt (σ.1 w 4) (6 * y + h) with
              | true => exact absurd (hN.mpr ⟨y, hy, Or.inr ((hD h y hh hy).mp q2)⟩) hz
              | false => rfl
      · have h3 : how = 3 := by omega
        subst h3
        rw [if_neg (by decide)]
        rcases hd with hd | hd <;> subst hd
        · rw [if_pos rfl]
          unfold F_X10_isAnswer_98
          have e : ansP r t 3 h m 0 ↔ bt (σ.1 w 4) (6 * m + h) = true := by
            rw [hD1]
            constructor
            · rintro ⟨-, i, hi, hx, q | q | q⟩
              · exact absurd q (by decide)
              · exact absurd q.1 (by decide)
              · obtain ⟨a, b, c, e, ha, hb, hc, he, e1, e2, e3, e4, e5⟩ := hdr i hi
                rcases (show c = 0 ∨ c = 1 by omega) with z | z <;> subst z
                · exact absurd e3 q.2.2
                · exact ⟨i, hi, hx, q.2.1, e3⟩
            · rintro ⟨i, hi, hx, a, b⟩
              exact ⟨h0, i, hi, hx, Or.inr (Or.inr ⟨rfl, a, by rw [b]; decide⟩)⟩
          cases hz : bt (σ.1 w 4) (6 * m + h) with
          | true => rw [if_neg (by rw [and_pow hb, hz]; decide)]; exact ⟨fun _ => rfl, fun q => absurd (e.mpr hz) q⟩
          | false => rw [if_pos ((and_pow hb).mpr hz)]; exact ⟨fun q => absurd (e.mp q) (by rw [hz]; decide), fun _ => rfl⟩
        · rw [if_neg (by decide)]
          unfold F_X10_isAnswer_98
          have e : ansP r t 3 h m 1 ↔ bt (σ.1 w 3) (6 * m + h) = true := by
            rw [hS1]
            constructor
            · rintro ⟨-, i, hi, hx, q | q | q⟩
              · exact absurd q (by decide)
              · exact absurd q.1 (by decide)
              · obtain ⟨a, b, c, e, ha, hb, hc, he, e1, e2, e3, e4, e5⟩ := hdr i hi
                rcases (show c = 0 ∨ c = 1 by omega) with z | z <;> subst z
                · exact ⟨i, hi, hx, q.2.1, e3⟩
                · exact absurd e3 q.2.2
            · rintro ⟨i, hi, hx, a, b⟩
              exact ⟨h0, i, hi, hx, Or.inr (Or.inr ⟨rfl, a, by rw [b]; decide⟩)⟩
          cases hz : bt (σ.1 w 3) (6 * m + h) with
          | true => rw [if_neg (by rw [and_pow hb, hz]; decide)]; exact ⟨fun _ => rfl, fun q => absurd (e.mpr hz) q⟩
          | false => rw [if_pos ((and_pow hb).mpr hz)]; exact ⟨fun q => absurd (e.mp q) (by rw [hz]; decide), fun _ => rfl⟩
