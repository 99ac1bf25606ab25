/-! ===== PURE 12: the sleepers of a night, in the class; the ears are a parameter ===== -/
/-- what a night asks of a text: T is kept by all that leaves its cells; ear d h b: hill b hears hill h on day d -/
def TX (T : hSt → Prop) (t H S : Nat) (A B D : Nat → Nat) (ear : Nat → Nat → Nat → Bool) : Prop :=
  (∀ σ, T σ → HC σ.2.2 ∧ σ.1 t 0 = nI H ∧ H ≤ 6 ∧ σ.1 t 9 = nI S ∧ S ≤ 4 ∧ ∀ i, i < S → (σ.1 (t + 11) i = nI (A i) ∧ A i < H ∧ σ.1 (t + 12) i = nI (B i) ∧ B i < 4 ∧ σ.1 (t + 13) i = nI (D i) ∧ 0 < D i ∧ D i < 2 ^ 31)) ∧
  (∀ σ σ', T σ → σ'.2 = σ.2 → (∀ k, t ≤ k → k < t + 17 → σ'.1 k = σ.1 k) → T σ') ∧
  (∀ σ d, T σ → d < 2 ^ 30 → ∃ v σ', F_X7_heardOn t (nI d) σ = some (v, σ') ∧ T σ' ∧ σ'.2.2 = σ.2.2 ∧ (∀ k, ¬ (t ≤ k ∧ k < t + 17) → σ'.1 k = σ.1 k ∧ σ'.2.1 k = σ.2.1 k) ∧
    ∀ h b, h < H → b < 6 → v.toBitVec.getLsbD (6 * h + b) = (decide (b < H) && ear d h b))
/-- the same ears, a row of ints -/
def earE (ear : Nat → Nat → Nat → Bool) (d H : Nat) (e : Nat → Int32) : Prop := ∀ h b, h < H → b < 32 → bt (e h) b = (decide (b < H) && ear d h b)
theorem ear_hC {v : Int64} {ear : Nat → Nat → Nat → Bool} {d H h : Nat} {e : Nat → Int32} (hH : H ≤ 6) (he : earE ear d H e) (hv : ∀ h b, h < H → b < 6 → v.toBitVec.getLsbD (6 * h + b) = (decide (b < H) && ear d h b)) (hh : h < H) : hC v h = e h := by
  apply bt_ext
  intro b hb
  rw [hC_bt (by omega) hb, he h b hh hb]
  by_cases h6 : b < 6
  · rw [hv h b hh h6]; simp [h6]
  · have : ¬ b < H := by omega
    simp [h6, this]
theorem ear_lt {ear : Nat → Nat → Nat → Bool} {d H h : Nat} {e : Nat → Int32} (he : earE ear d H e) (hh : h < H) : ∀ b, b < 32 → bt (e h) b = true → b < H := by
  intro b hb q
  rw [he h b hh hb] at q
  simp at q
  exact q.1
theorem nStep_120 {H a b n : Nat} {e r : Nat → Int32} {sil : Int32} (hb : b < 4) (hH : H ≤ 6) : nStep H e sil a b n r 120 = r 120 := by
  unfold nStep
  split
  · rw [upd_ne (by decide), spN_hi hb (by decide) H hH]
  · rfl
/-- what a world's steps leave: all but the text's and the world's cells -/
def frm (t w : Nat) (σ σ' : hSt) : Prop := σ'.2.2 = σ.2.2 ∧ ∀ k, ¬ (t ≤ k ∧ k < t + 17) → ¬ (w ≤ k ∧ k < w + 4) → σ'.1 k = σ.1 k ∧ σ'.2.1 k = σ.2.1 k
theorem frm_rfl {t w : Nat} {σ : hSt} : frm t w σ σ := ⟨rfl, fun _ _ _ => ⟨rfl, rfl⟩⟩
theorem frm_trans {t w : Nat} {σ σ' σ'' : hSt} (h : frm t w σ σ') (h' : frm t w σ' σ'') : frm t w σ σ'' :=
  ⟨h'.1.trans h.1, fun k a b => ⟨(h'.2 k a b).1.trans (h.2 k a b).1, (h'.2 k a b).2.trans (h.2 k a b).2⟩⟩
theorem RWp_same {I I' : Nat → Nat → Int32} {w : Nat} {r : Nat → Int32} (h : RWp I w r) (e : ∀ k, w ≤ k → k < w + 4 → I' k = I k) : RWp I' w r :=
  RWp_congr h (fun k _ _ _ => by rw [e w (by omega) (by omega)]) (e _ (by omega) (by omega)) (e _ (by omega) (by omega)) (fun _ _ _ => rfl)
theorem nightC_eq {T : hSt → Prop} {t w H S d : Nat} {A B D : Nat → Nat} {ear : Nat → Nat → Nat → Bool} {e r : Nat → Int32} {sil : Int32} {σ : hSt}
    (hX : TX T t H S A B D ear) (ht : okr kC NC 7 t = true) (hw : okr kC NC 10 w = true) (htw : t + 17 ≤ w) (hT : T σ) (hR : RWp σ.1 w r) (hd : d < 2 ^ 30) (h120 : r 120 = nI d) (he : earE ear d H e) :
    ∃ σ', F_X10_passNight w t sil σ = some σ' ∧ T σ' ∧ frm t w σ σ' ∧ RW σ'.1 w (nigR (nRow H e sil A B D r S)) 0 := by
  obtain ⟨hX1, hX2, hX3⟩ := hX
  have hS : S ≤ 4 := (hX1 σ hT).2.2.2.2.1
  unfold F_X10_passNight F_X10_passNight_2
  refine lp_go S (by rw [fuel_v]; omega) (fun i v => v.1 = nI i ∧ T v.2 ∧ frm t w σ v.2 ∧ RWp v.2.1 w (nRow H e sil A B D r i) ∧ nRow H e sil A B D r i 120 = nI d) _ ⟨rfl, hT, frm_rfl, hR, h120⟩ (fun i v hi hv => ?_)
  obtain ⟨l3, σ1⟩ := v
  obtain ⟨q1, q2, q3, q4, q5⟩ := hv
  dsimp only at q1 q2 q3 q4 q5
  subst q1
  obtain ⟨hP, x0, xH, x9, -, xs⟩ := hX1 σ1 q2
  obtain ⟨rr, hrr⟩ : ∃ rr, rr = nRow H e sil A B D r i := ⟨_, rfl⟩
  have hr1 : nRow H e sil A B D r (i + 1) = nStep H e sil (A i) (B i) (D i) rr := by rw [hrr]; rfl
  rw [← hrr] at q4 q5
  unfold S_X10_passNight_2 F_X10_passNight_2b
  dsimp only
  rw [x9]
  by_cases hlt : i < S
  · left
    obtain ⟨s1, s2, s3, s4, s5, s6, s7⟩ := xs i hlt
    unfold cL
    dsimp only
    rw [if_neg (nI_ge hlt (by omega)), show (4 : Int32) = nI 4 from rfl, if_neg (nI_ge (by omega) (by omega)), rC_7_10 hP ht, cG_t (inb_nI (by rw [nC_7_10 ht]; omega) (by rw [nC_7_10 ht]; decide)), rC_7_11 hP ht, cG_t (inb_nI (by rw [nC_7_11 ht]; omega) (by rw [nC_7_11 ht]; decide)), rC_7_12 hP ht, cG_t (inb_nI (by rw [nC_7_12 ht]; omega) (by rw [nC_7_12 ht]; decide))]
    rw [cl_nI (by omega), s1, s3, s5]
    have nx : ∀ σ', T σ' → frm t w σ1 σ' → RWp σ'.1 w (nRow H e sil A B D r (i + 1)) → ∃ v', i < S ∧ F_X10_passNight_93 w t sil (nI i) σ' = some (.inl v') ∧ (v'.1 = nI (i + 1) ∧ T v'.2 ∧ frm t w σ v'.2 ∧ RWp v'.2.1 w (nRow H e sil A B D r (i + 1)) ∧ nRow H e sil A B D r (i + 1) 120 = nI d) := fun σ' a b c => by
      refine ⟨_, hlt, rfl, ?_, a, frm_trans q3 b, c, ?_⟩
      · exact nI_1 i
      · rw [hr1, nStep_120 s4 xH, q5]
    rw [hr1] at nx ⊢
    have no : ¬ (rr 120 - rr 120 / nI (D i) * nI (D i) = 0 ∧ rr (4 * A i + B i) = 1 ∧ ¬ nI (A i) = sil) → ∃ v', i < S ∧ F_X10_passNight_93 w t sil (nI i) σ1 = some (.inl v') ∧ (v'.1 = nI (i + 1) ∧ T v'.2 ∧ frm t w σ v'.2 ∧ RWp v'.2.1 w (nStep H e sil (A i) (B i) (D i) rr) ∧ nStep H e sil (A i) (B i) (D i) rr 120 = nI d) := fun z =>
      nx σ1 q2 frm_rfl (by rw [nStep_no z]; exact q4)
    have e0 : σ1.1 w 0 = nI d := by rw [q4.1, q5]
    by_cases g3 : nI (A i) = sil
    · rw [if_pos g3]
      exact no (fun z => z.2.2 g3)
    · rw [if_neg g3, if_neg (nI_nle s6 s7), cG_t (by simpa using nI_ne0 s6 s7), e0]
      by_cases g1 : nI d - nI d / nI (D i) * nI (D i) = 0
      · rw [if_pos g1, knowsC_eq (by omega) s4]
        simp only [Option.bind_some]
        have kk := (q4.2.2.2 (A i) (B i) (by omega) s4).1
        by_cases g2 : bt (σ1.1 w 1) (6 * B i + A i) = true
        · rw [if_pos g2] at kk ⊢
          rw [if_neg (by decide)]
          obtain ⟨v, σ2, y1, y2, y3, y4, y5⟩ := hX3 σ1 d q2 hd
          rw [cC_t y1, hearersOf_eq]
          simp only [Option.bind_some]
          rw [ear_hC xH he y5 s2, sound_eq (by rw [y3]; exact hP) hw]
          simp only [Option.bind_some]
          have f12 : frm t w σ1 σ2 := ⟨y3, fun k a _ => y4 k a⟩
          have f2 : frm t w σ2 (sndC w (A i) (B i) 0 (e (A i)) σ2) := ⟨by rw [snd_P], fun k _ b => ⟨snd_row (by omega) (by omega) (by omega), by rw [snd_P]⟩⟩
          refine nx _ (hX2 σ2 _ y2 snd_P (fun k a b => snd_row (by omega) (by omega) (by omega))) (frm_trans f12 f2) ?_
          rw [nStep_go (by rw [q5]; exact g1) kk g3]
          exact snd_keep (RWp_same q4 (fun k a b => (y4 k (by omega)).1)) (by omega) s4 (Or.inl rfl) xH (ear_lt he s2)
        · rw [if_neg g2] at kk ⊢
          rw [if_pos rfl]
          exact no (fun z => by rw [kk] at z; exact absurd z.2.1 (by decide))
      · rw [if_neg g1]
        exact no (fun z => g1 (by rw [q5] at z; exact z.1))
  · right
    have : i = S := by omega
    subst this
    rw [if_pos (nI_le (Nat.le_refl _) (by omega)), nightEnd_eq]
    refine ⟨nigC w σ1, rfl, hX2 σ1 _ q2 rfl (fun k a b => nigC_row (by omega)), frm_trans q3 ⟨rfl, fun k _ b => ⟨nigC_row (by omega), rfl⟩⟩, ?_⟩
    rw [← hrr]
    exact night_keep q4
