/-! ===== PURE 8: a drum of the day, in both ===== -/
theorem uI_as (τ : hSt) (c k : Nat) (v : Int32) : uI τ c k v = uA τ c (upd (τ.1 c) k v) := by
  have h := uA_uI τ c (τ.1 c) k v
  rw [uA_self] at h
  exact h
def rowD (t h m : Nat) (d e : Int32) (r : Nat → Int32) : Nat → Int32 :=
  upd (upd (upd (upd (upd r (130 + 4 * t) (nI h)) (130 + 4 * t + 1) (nI m)) (130 + 4 * t + 2) d) (130 + 4 * t + 3) e) 121 (nI (t + 1))
/-- the row behind a drum of the day -/
def rowDS (t h m : Nat) (d e : Int32) (H : Nat) (r : Nat → Int32) : Nat → Int32 := upd (spN h m d e (rowD t h m d e r) H) 122 (r 122 + 1)
theorem rowD_lo {t h m j : Nat} {d e : Int32} {r : Nat → Int32} (hj : j < 130) (h1 : j ≠ 121) : rowD t h m d e r j = r j := by
  unfold rowD
  rw [upd_ne h1, upd_ne (by omega), upd_ne (by omega), upd_ne (by omega), upd_ne (by omega)]
theorem drumsNow_eq {h m t : Nat} {d : Int32} {τ : hSt} {li H M : Nat} (hP : HM τ.2.2) (hL : MLive τ li H M) (hh : h < 6) (hm : m < 4) (ht : t < 60) (e1 : τ.1 37 121 = nI t) :
    F_X12_drumsNow 0 (nI h) (nI m) d τ = some (nI (cnN h (τ.1 35 h) H), uA τ 37 (rowDS t h m d (τ.1 35 h) H (τ.1 37))) := by
  unfold F_X12_drumsNow cL
  dsimp only
  rw [rM_54 hP]
  simp only [show (121 : Int32) = nI 121 from rfl, show (130 : Int32) = nI 130 from rfl, show (4 : Int32) = nI 4 from rfl, show (3 : Int32) = nI 3 from rfl, show (2 : Int32) = nI 2 from rfl]
  rw [cG_t (inb_nI (by rw [kM_37]; omega) (by decide)), cl_nI (by omega), e1]
  simp only [pk_mul, nI_add, nI_1]
  rw [rM_54 hP, cG_t (inb_nI (by rw [kM_37]; omega) (by decide)), cl_nI (by omega), uI_as]
  rw [rM_54 (P := (uA τ 37 _).2.2) hP, cG_t (inb_nI (by rw [kM_37]; omega) (by decide)), cl_nI (by omega), uA_uI]
  rw [rM_54 (P := (uA τ 37 _).2.2) hP, cG_t (inb_nI (by rw [kM_37]; omega) (by decide)), cl_nI (by omega), uA_uI]
  rw [rM_54 (P := (uA τ 37 _).2.2) hP, rM_52 (P := (uA τ 37 _).2.2) hP, cG_t (inb_nI (by rw [kM_35]; omega) (by decide)), cG_t (inb_nI (by rw [kM_37]; omega) (by decide)), cl_nI (by omega), cl_nI (by omega), uA_oth' _ _ _ (by decide), uA_uI]
  rw [rM_54 (P := (uA τ 37 _).2.2) hP, cG_t (inb_nI (by rw [kM_37]; omega) (by decide)), cG_t (inb_nI (by rw [kM_37]; omega) (by decide)), uA_own]
  rw [show upd (upd (upd (upd (τ.1 37) (130 + 4 * t) (nI h)) (130 + 4 * t + 1) (nI m)) (130 + 4 * t + 2) d) (130 + 4 * t + 3) (τ.1 35 h) 121 = nI t from by rw [upd_ne (by omega), upd_ne (by omega), upd_ne (by omega), upd_ne (by omega), e1]]
  rw [nI_1, uA_uI, rM_52 (P := (uA τ 37 _).2.2) hP, cG_t (inb_nI (by rw [kM_35]; omega) (by decide)), uA_oth' _ _ _ (by decide)]
  rw [show upd (upd (upd (upd (upd (τ.1 37) (130 + 4 * t) (nI h)) (130 + 4 * t + 1) (nI m)) (130 + 4 * t + 2) d) (130 + 4 * t + 3) (τ.1 35 h)) 121 (nI (t + 1)) = rowD t h m d (τ.1 35 h) (τ.1 37) from rfl]
  have hL' : MLive (uA τ 37 (rowD t h m d (τ.1 35 h) (τ.1 37))) li H M := by
    obtain ⟨a, b, c, d', e', f'⟩ := hL
    exact ⟨by rw [uA_oth' _ _ _ (by decide)]; exact a, b, by rw [uA_oth' _ _ _ (by decide)]; exact c, d', by rw [uA_oth' _ _ _ (by decide)]; exact e', f'⟩
  rw [cC_t (spreads_eq (τ := uA τ 37 (rowD t h m d (τ.1 35 h) (τ.1 37))) hP hL' hh hm)]
  rw [uA_uA]
  have : (uA τ 37 (rowD t h m d (τ.1 35 h) (τ.1 37))).1 37 = rowD t h m d (τ.1 35 h) (τ.1 37) := by funext j; exact uA_own _ _ _ _
  rw [this, rowD_lo (by decide) (by decide)]
  rfl
theorem packD : ∀ E, E < 64 → ∀ c, c < 2 → ∀ m, m < 4 → ∀ h, h < 6 → ((((nI E <<< ((7 : Int32) &&& 31)) ||| (nI c <<< ((6 : Int32) &&& 31))) ||| (nI m <<< ((3 : Int32) &&& 31))) ||| nI h) = nI (E * 128 + c * 64 + m * 8 + h) := by decide +kernel
/-- the world behind a drum of the day, the sound left out -/
def dayC (w t h m c E : Nat) (σ : hSt) : hSt :=
  let s1 := uI (uI σ (w + 3) t (nI (E * 128 + c * 64 + m * 8 + h))) w 7 (nI (t + 1))
  if c = 0 then uI s1 w 3 (σ.1 w 3 ||| othC h m (nI E)) else uI s1 w 4 (σ.1 w 4 ||| othC h m (nI E))
theorem dayC_P {w t h m c E : Nat} {σ : hSt} : (dayC w t h m c E σ).2 = σ.2 := by unfold dayC; dsimp only; split <;> rfl
theorem drumByDay_eq {w t h m c E : Nat} {σ : hSt} (hP : HC σ.2.2) (hw : okr kC NC 10 w = true) (hh : h < 6) (hm : m < 4) (hc : c < 2) (hE : E < 64) (ht : t < 60) (e7 : σ.1 w 7 = nI t) :
    F_X10_drumByDay w (nI h) (nI m) (nI c) (nI E) σ = some (sndC w h m (nI c) (nI E) (dayC w t h m c E σ)) := by
  have hP' : HC (dayC w t h m c E σ).2.2 := by rw [dayC_P]; exact hP
  have fin : ∀ σ', σ' = dayC w t h m c E σ → F_X10_drumByDay_104 w (nI h) (nI m) (nI c) (nI E) σ' = some (sndC w h m (nI c) (nI E) (dayC w t h m c E σ)) := by
    intro σ' e
    subst e
    unfold F_X10_drumByDay_104
    rw [sound_eq hP' hw]
    rfl
  unfold F_X10_drumByDay
  rw [e7, if_neg (nI_pos (by omega)), if_pos (by rw [show (60 : Int32) = nI 60 from rfl]; exact nI_lt ht (by decide)), rC_10_11 hP hw]
  have key : ∀ z : Int32, z = nI c → F_X10_drumByDay_39 w (nI h) (nI m) (nI c) (nI E) (w + 3) (nI t) (nI E <<< ((7 : Int32) &&& 31)) z σ = some (sndC w h m (nI c) (nI E) (dayC w t h m c E σ)) := by
    intro z hz
    subst hz
    unfold F_X10_drumByDay_39 cL
    dsimp only
    rw [nC_10_11 hw, cG_t (inb_nI (by omega) (by decide)), cl_nI (by omega), packD E hE c hc m hm h hh]
    have e3 : (uI σ (w + 3) t (nI (E * 128 + c * 64 + m * 8 + h))).1 w 7 = nI t := by rw [uI_ne _ _ (by omega)]; exact e7
    rw [e3, nI_1, show (6 : Int32) = nI 6 from rfl, pk_mul]
    rw [show ((nI E &&& ((1 : Int32) <<< (nI h &&& 31) ^^^ (-1 : Int32))) <<< (nI (6 * m) &&& 31)) = othC h m (nI E) from rfl]
    rcases (show c = 0 ∨ c = 1 by omega) with q | q <;> subst q
    · rw [if_pos nI_0]
      refine fin _ ?_
      unfold dayC
      dsimp only
      rw [if_pos rfl, uI_ne _ _ (by omega), uI_ne _ _ (by omega)]
    · rw [if_neg (by decide)]
      refine fin _ ?_
      unfold dayC
      dsimp only
      rw [if_neg (by decide), uI_ne _ _ (by omega), uI_ne _ _ (by omega)]
  rcases (show c = 0 ∨ c = 1 by omega) with q | q <;> subst q
  · rw [if_pos nI_0]; exact key 0 rfl
  · rw [if_neg (by decide)]; exact key 1 rfl
