/-! ===== PURE 11: the sleepers of a night, in the model ===== -/
/-- the sleepers of the model's live text: how many, hills, news, days -/
def MSl (τ : hSt) (li S : Nat) (A B D : Nat → Nat) : Prop :=
  τ.1 19 li = nI S ∧ S ≤ 4 ∧ ∀ i, i < S → (τ.1 20 (4 * li + i) = nI (A i) ∧ A i < 6 ∧ τ.1 21 (4 * li + i) = nI (B i) ∧ B i < 4 ∧ τ.1 22 (4 * li + i) = nI (D i) ∧ 0 < D i ∧ D i < 2 ^ 31)
/-- one sleeper, on the row -/
def nStep (H : Nat) (e : Nat → Int32) (sil : Int32) (a b n : Nat) (r : Nat → Int32) : Nat → Int32 :=
  if r 120 - r 120 / nI n * nI n = 0 ∧ r (4 * a + b) = 1 ∧ ¬ nI a = sil then upd (spN a b 0 (e a) r H) 122 (r 122 + 1) else r
def nRow (H : Nat) (e : Nat → Int32) (sil : Int32) (A B D : Nat → Nat) (r : Nat → Int32) : Nat → Nat → Int32
  | 0 => r
  | i + 1 => nStep H e sil (A i) (B i) (D i) (nRow H e sil A B D r i)
theorem nStep_go {H a b n : Nat} {e r : Nat → Int32} {sil : Int32} (h1 : r 120 - r 120 / nI n * nI n = 0) (h2 : r (4 * a + b) = 1) (h3 : ¬ nI a = sil) : nStep H e sil a b n r = upd (spN a b 0 (e a) r H) 122 (r 122 + 1) := if_pos ⟨h1, h2, h3⟩
theorem nStep_no {H a b n : Nat} {e r : Nat → Int32} {sil : Int32} (h : ¬ (r 120 - r 120 / nI n * nI n = 0 ∧ r (4 * a + b) = 1 ∧ ¬ nI a = sil)) : nStep H e sil a b n r = r := if_neg h
theorem nightM_eq {τ : hSt} {li H M S : Nat} {A B D : Nat → Nat} (hP : HM τ.2.2) (hL : MLive τ li H M) (hS : MSl τ li S A B D) :
    F_X12_nightGoes_13 0 0 τ = some (uA τ 37 (nigR (nRow H (τ.1 35) (τ.1 0 56) A B D (τ.1 37) S))) := by
  obtain ⟨hS1, hS2, hS3⟩ := hS
  obtain ⟨hL1, hL2, hL3, hL4, hL5, hL6⟩ := hL
  unfold F_X12_nightGoes_13
  refine lp_eq S (by rw [fuel_v]; omega) (fun i v => v = (nI i, uA τ 37 (nRow H (τ.1 35) (τ.1 0 56) A B D (τ.1 37) i))) ?_ (fun i v hi hv => ?_)
  · show (_, τ) = (nI 0, uA τ 37 (τ.1 37))
    rw [uA_self]
    rfl
  · subst hv
    obtain ⟨r, hr⟩ : ∃ r, r = nRow H (τ.1 35) (τ.1 0 56) A B D (τ.1 37) i := ⟨_, rfl⟩
    have hr1 : nRow H (τ.1 35) (τ.1 0 56) A B D (τ.1 37) (i + 1) = nStep H (τ.1 35) (τ.1 0 56) (A i) (B i) (D i) r := by rw [hr]; rfl
    have own : (uA τ 37 r).1 37 = r := funext fun j => uA_own _ _ _ _
    rw [← hr]
    have hP' : HM (uA τ 37 r).2.2 := hP
    unfold S_X12_nightGoes_13 F_X12_nightGoes_13b
    dsimp only
    rw [rM_32 hP', uA_oth' _ _ _ (by decide), hL1, cG_t (inb_nI (by rw [kM_19]; omega) (by decide)), cl_nI (by omega), uA_oth' _ _ _ (by decide), hS1]
    by_cases hlt : i < S
    · left
      obtain ⟨s1, s2, s3, s4, s5, s6, s7⟩ := hS3 i hlt
      have nx : ∀ τ', τ' = uA τ 37 (nRow H (τ.1 35) (τ.1 0 56) A B D (τ.1 37) (i + 1)) → ∃ v', i < S ∧ F_X12_nightGoes_109 0 (nI i) τ' = some (.inl v') ∧ v' = (nI (i + 1), uA τ 37 (nRow H (τ.1 35) (τ.1 0 56) A B D (τ.1 37) (i + 1))) := fun τ' e => by
        subst e
        refine ⟨_, hlt, rfl, ?_⟩
        rw [nI_1]
      rw [if_neg (nI_ge hlt (by omega)), rM_33 hP']
      simp only [show (4 : Int32) = nI 4 from rfl, pk_mul, nI_add]
      rw [cG_t (inb_nI (by rw [kM_20]; omega) (by decide))]
      unfold cL
      dsimp only
      rw [cl_nI (by omega), uA_oth' _ _ _ (by decide), s1, rM_34 hP', cG_t (inb_nI (by rw [kM_21]; omega) (by decide)), uA_oth' _ _ _ (by decide), s3, rM_54 hP', cG_t (show inb (120 : Int32) (kM 37).2 = true by rw [kM_37]; decide), rM_35 hP', cG_t (inb_nI (by rw [kM_22]; omega) (by decide)), uA_oth' _ _ _ (by decide), s5, cG_t (by simpa using nI_ne0 s6 s7), show (120 : Int32).toNatClampNeg = 120 from rfl, own]
      rw [hr1] at nx ⊢
      by_cases g1 : r 120 - r 120 / nI (D i) * nI (D i) = 0
      · rw [if_pos g1, knowsM_eq hP' s2 s4, own]
        simp only [Option.bind_some]
        by_cases g2 : r (4 * A i + B i) = 1
        · rw [if_pos g2, if_neg (by decide), uA_oth' _ _ _ (by decide)]
          by_cases g3 : nI (A i) = τ.1 0 56
          · rw [if_pos g3]
            exact nx _ (by rw [nStep_no (fun q => q.2.2 g3)])
          · rw [if_neg g3, rM_52 hP', cG_t (inb_nI (by rw [kM_35]; omega) (by decide)), cl_nI (by omega), uA_oth' _ _ _ (by decide)]
            have hL' : MLive (uA τ 37 r) li H M := ⟨by rw [uA_oth' _ _ _ (by decide)]; exact hL1, hL2, by rw [uA_oth' _ _ _ (by decide)]; exact hL3, hL4, by rw [uA_oth' _ _ _ (by decide)]; exact hL5, hL6⟩
            rw [cC_t (spreads_eq hP' hL' s2 s4), uA_uA, own]
            exact nx _ (by rw [nStep_go g1 g2 g3])
        · rw [if_neg g2, if_pos rfl]
          exact nx _ (by rw [nStep_no (fun q => g2 q.2.1)])
      · rw [if_neg g1]
        exact nx _ (by rw [nStep_no (fun q => g1 q.1)])
    · right
      have : i = S := by omega
      subst this
      rw [if_pos (nI_le (Nat.le_refl _) (by omega)), rM_54 hP', cG_t (show inb (120 : Int32) (kM 37).2 = true by rw [kM_37]; decide), cG_t (show inb (120 : Int32) (kM 37).2 = true by rw [kM_37]; decide)]
      unfold cL
      dsimp only
      rw [show (120 : Int32).toNatClampNeg = 120 from rfl, uA_uI, rM_54 (P := (uA τ 37 _).2.2) hP, cG_t (show inb (121 : Int32) (kM 37).2 = true by rw [kM_37]; decide), show (121 : Int32).toNatClampNeg = 121 from rfl, uA_uI, own, hr]
      rfl
