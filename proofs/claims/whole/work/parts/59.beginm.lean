/-! ===== PURE 24: the beginning in the model ===== -/
def zR (n : Nat) (f : Nat → Int32) : Nat → Int32 := cpR n (fun _ => 0) f
theorem zR_lo {f : Nat → Int32} : ∀ j, j < 380 → zR 380 f j = 0 := fun _ h => cpR_lo h
theorem beginsM_eq {τ : hSt} {li H M : Nat} {Hm : Nat → Nat} (hP : HM τ.2.2) (hL : MLive τ li H M) (hH : ∀ m, m < 4 → Hm m < 6) (hh : ∀ m, m < M → τ.1 15 (4 * li + m) = nI (Hm m)) :
    F_X12_begins 0 τ = some (uI (uI (uA τ 37 (bgN Hm (zR 380 (τ.1 37)) M)) 0 55 (τ.1 18 li)) 0 56 (-1)) := by
  obtain ⟨h1, h2, h3, h4, h5, h6⟩ := hL
  have tail : F_X12_begins_24 0 0 (uA τ 37 (zR 380 (τ.1 37))) = some (uI (uI (uA τ 37 (bgN Hm (zR 380 (τ.1 37)) M)) 0 55 (τ.1 18 li)) 0 56 (-1)) := by
    unfold F_X12_begins_24
    refine lp_eq M (by rw [fuel_v]; omega) (fun m v => v = (nI m, uA τ 37 (bgN Hm (zR 380 (τ.1 37)) m))) rfl (fun m v hm hv => ?_)
    subst hv
    obtain ⟨r, hr⟩ : ∃ r, r = bgN Hm (zR 380 (τ.1 37)) m := ⟨_, rfl⟩
    have own : (uA τ 37 r).1 37 = r := funext fun j => uA_own _ _ _ _
    have hP' : HM (uA τ 37 r).2.2 := hP
    rw [← hr]
    unfold S_X12_begins_24 F_X12_begins_24b
    dsimp only
    rw [rM_27 hP', uA_oth' _ _ _ (by decide), h1, cG_t (inb_nI (by rw [kM_14]; omega) (by decide)), cl_nI (by omega), uA_oth' _ _ _ (by decide), h5]
    by_cases hlt : m < M
    · left
      rw [if_neg (nI_ge hlt (by omega)), rM_28 hP']
      simp only [show (4 : Int32) = nI 4 from rfl, pk_mul, nI_add]
      rw [cG_t (inb_nI (by rw [kM_15]; omega) (by decide)), cl_nI (by omega), uA_oth' _ _ _ (by decide), hh m hlt, kfbM_eq hP' (hH m (by omega)) (by omega), uA_uA, own]
      refine ⟨_, hlt, rfl, ?_⟩
      rw [nI_1, hr]
      rfl
    · right
      have : m = M := by omega
      subst this
      rw [if_pos (nI_le (Nat.le_refl _) (by omega)), rM_31 hP', cG_t (inb_nI (by rw [kM_18]; omega) (by decide)), uA_oth' _ _ _ (by decide), hr]
      rfl
  unfold F_X12_begins F_X12_begins_2
  refine lp_eq 380 (by rw [fuel_v]; decide) (fun i v => v = (nI i, uA τ 37 (zR i (τ.1 37)))) ?_ (fun i v hi hv => ?_)
  · show (_, τ) = (nI 0, uA τ 37 (cpR 0 (fun _ => 0) (τ.1 37)))
    rw [cpR_0, uA_self]
    rfl
  · subst hv
    have hP' : HM (uA τ 37 (zR i (τ.1 37))).2.2 := hP
    unfold S_X12_begins_2 F_X12_begins_2b
    dsimp only
    rw [show (380 : Int32) = nI 380 from rfl]
    by_cases h : i < 380
    · left
      rw [if_neg (nI_ge h (by decide)), rM_54 hP', cG_t (inb_nI (by rw [kM_37]; omega) (by decide))]
      unfold cL
      dsimp only
      rw [cl_nI (by omega), uA_uI, nI_1]
      refine ⟨_, h, rfl, ?_⟩
      have := cpR_s (n := i) (g := fun _ => (0 : Int32)) (f := τ.1 37)
      unfold zR
      rw [this]
    · right
      have : i = 380 := by omega
      subst this
      rw [if_pos (nI_le (Nat.le_refl _) (by decide)), tail]
      rfl
