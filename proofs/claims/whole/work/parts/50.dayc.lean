/-! ===== PURE 15: a day by the rule, in the class ===== -/
theorem RW_same {I I' : Nat → Nat → Int32} {w t : Nat} {r : Nat → Int32} (h : RW I w r t) (e : ∀ k, w ≤ k → k < w + 4 → I' k = I k) : RW I' w r t := by
  refine ⟨RWp_same h.1 e, ?_⟩
  unfold RWt
  rw [e w (by omega) (by omega), e (w + 3) (by omega) (by omega)]
  exact h.2
theorem dayC_in {T : hSt → Prop} {t w H M S d how h : Nat} {A B D : Nat → Nat} {ear : Nat → Nat → Nat → Bool} {e : Nat → Int32} {sil : Int32} {σ : hSt} {v : Int64} {p : (Nat → Int32) × Nat}
    (hX : TX T t H S A B D ear) (hM : ∀ σ, T σ → σ.1 t 3 = nI M) (hM4 : M ≤ 4) (hw : okr kC NC 10 w = true) (htw : t + 17 ≤ w) (hT : T σ) (hR : RW σ.1 w p.1 p.2) (he : earE ear d H e)
    (hv : ∀ h b, h < H → b < 6 → v.toBitVec.getLsbD (6 * h + b) = (decide (b < H) && ear d h b)) (hh : h < H) (hhow : how < 4) :
    ∃ σ', F_X10_passDay_34 w t (nI how) sil v (nI h) 0 σ = some (.inl (nI (h + 1), σ')) ∧ T σ' ∧ frm t w σ σ' ∧ RW σ'.1 w (dIn H how e h p M).1 (dIn H how e h p M).2 := by
  obtain ⟨hX1, hX2, hX3⟩ := hX
  have hH : H ≤ 6 := (hX1 σ hT).2.2.1
  have main : ∃ x, F_X10_passDay_34 w t (nI how) sil v (nI h) 0 σ = some x ∧ ∃ σ', x = .inl (nI (h + 1), σ') ∧ T σ' ∧ frm t w σ σ' ∧ RW σ'.1 w (dIn H how e h p M).1 (dIn H how e h p M).2 := by
    unfold F_X10_passDay_34
    refine lp_go M (by rw [fuel_v]; omega) (fun m u => u.1 = nI m ∧ T u.2 ∧ frm t w σ u.2 ∧ RW u.2.1 w (dIn H how e h p m).1 (dIn H how e h p m).2) _ ⟨rfl, hT, frm_rfl, hR⟩ (fun m u hm hu => ?_)
    obtain ⟨l7, σ1⟩ := u
    obtain ⟨q1, q2, q3, q4⟩ := hu
    dsimp only at q1 q2 q3 q4
    subst q1
    obtain ⟨q, hqq⟩ : ∃ q, q = dIn H how e h p m := ⟨_, rfl⟩
    have hr1 : dIn H how e h p (m + 1) = dStep H how e h m q := by rw [hqq]; rfl
    rw [← hqq] at q4
    have hP := (hX1 σ1 q2).1
    unfold S_X10_passDay_34 F_X10_passDay_34b
    dsimp only
    rw [hM σ1 q2]
    by_cases hlt : m < M
    · left
      rw [if_neg (nI_ge hlt (by omega)), ableC_eq q4 (by omega) (by omega)]
      simp only [Option.bind_some]
      have nx : ∀ σ', T σ' → frm t w σ1 σ' → RW σ'.1 w (dIn H how e h p (m + 1)).1 (dIn H how e h p (m + 1)).2 → ∃ v', m < M ∧ F_X10_passDay_83 w t (nI how) sil v (nI h) (nI m) σ' = some (.inl v') ∧ (v'.1 = nI (m + 1) ∧ T v'.2 ∧ frm t w σ v'.2 ∧ RW v'.2.1 w (dIn H how e h p (m + 1)).1 (dIn H how e h p (m + 1)).2) := fun σ' a b c =>
        ⟨_, hlt, rfl, nI_1 m, a, frm_trans q3 b, c⟩
      rw [hr1] at nx ⊢
      have no : ¬ lawP q.1 q.2 how h m 0 → ∃ v', m < M ∧ F_X10_passDay_83 w t (nI how) sil v (nI h) (nI m) σ1 = some (.inl v') ∧ (v'.1 = nI (m + 1) ∧ T v'.2 ∧ frm t w σ v'.2 ∧ RW v'.2.1 w (dStep H how e h m q).1 (dStep H how e h m q).2) := fun z =>
        nx σ1 q2 frm_rfl (by rw [dStep_no z]; exact q4)
      obtain ⟨n1, n2⟩ := ansC_eq (h := h) (m := m) (how := how) (d := 0) (σ := σ1) q4.2 (by omega) (by omega) hhow (Or.inl rfl)
      by_cases g2 : q.2 < 60
      · rw [if_pos g2]
        by_cases g1 : q.1 (4 * h + m) = 1
        · rw [if_pos g1, if_neg (by decide)]
          by_cases g : ansP q.1 q.2 how h m 0
          · rw [n1 g]
            simp only [Option.bind_some]
            rw [if_neg (by decide)]
            exact no (fun z => z.2.2 g)
          · rw [n2 g]
            simp only [Option.bind_some]
            rw [if_pos trivial, hearersOf_eq]
            simp only [Option.bind_some]
            have ee : hC v h = e h := ear_hC hH he hv hh
            have eE : e h = nI (EC v h) := by rw [← ee]; exact hC_EC
            have dk := drumByDay_eq (w := w) (t := q.2) (h := h) (m := m) (c := 0) (E := EC v h) (σ := σ1) hP hw (by omega) (by omega) (by decide) EC_lt g2 q4.2.1
            rw [nI_0] at dk
            rw [hC_EC, dk]
            simp only [Option.bind_some]
            have hk : ∀ k, ¬ (w ≤ k ∧ k < w + 4) → (sndC w h m 0 (nI (EC v h)) (dayC w q.2 h m 0 (EC v h) σ1)).1 k = σ1.1 k := fun k a => by
              rw [snd_row (by omega) (by omega) (by omega), dayC_row (by omega) (by omega)]
            have hk2 : (sndC w h m 0 (nI (EC v h)) (dayC w q.2 h m 0 (EC v h) σ1)).2 = σ1.2 := by rw [snd_P, dayC_P]
            refine nx _ (hX2 σ1 _ q2 hk2 (fun k a b => hk k (by omega))) ⟨by rw [hk2], fun k _ b => ⟨hk k b, by rw [hk2]⟩⟩ ?_
            rw [dStep_go ⟨g1, g2, g⟩]
            have := day_keep (h := h) (m := m) (c := 0) (E := EC v h) (H := H) q4 (by omega) (by omega) (by decide) EC_lt hH (by rw [← eE]; exact ear_lt he hh) g2
            rw [nI_0] at this
            rw [eE]
            exact this
        · rw [if_neg g1, if_pos rfl]
          exact no (fun z => g1 z.1)
      · rw [if_neg g2, if_pos rfl]
        exact no (fun z => g2 z.2.1)
    · right
      have : m = M := by omega
      subst this
      rw [if_pos (nI_le (Nat.le_refl _) (by omega))]
      unfold F_X10_passDay_89 cL
      refine ⟨_, rfl, σ1, ?_, q2, q3, by rw [← hqq]; exact q4⟩
      rw [nI_1]
  obtain ⟨x, h1, σ', h2, h3⟩ := main
  exact ⟨σ', by rw [h1, h2], h3⟩
