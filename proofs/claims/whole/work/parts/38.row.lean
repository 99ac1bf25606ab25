/-! ===== PURE 3: the reference's row: a drum spreads ===== -/
theorem uA_uI (τ : hSt) (c : Nat) (f : Nat → Int32) (k : Nat) (v : Int32) : uI (uA τ c f) c k v = uA τ c (upd f k v) := by
  unfold uI uA upd up2
  refine Prod.ext ?_ rfl
  funext c' k'
  by_cases hc : c' = c <;> by_cases hk : k' = k <;> simp [hc, hk]
theorem uA_self (τ : hSt) (c : Nat) : uA τ c (τ.1 c) = τ := by
  unfold uA
  refine Prod.ext ?_ rfl
  funext c' k'
  by_cases hc : c' = c <;> simp [hc]
theorem uA_uA (τ : hSt) (c : Nat) (f g : Nat → Int32) : uA (uA τ c f) c g = uA τ c g := by
  unfold uA
  refine Prod.ext ?_ rfl
  funext c' k'
  by_cases hc : c' = c <;> simp [hc]
theorem uA_own (τ : hSt) (c : Nat) (f : Nat → Int32) (k : Nat) : (uA τ c f).1 c k = f k := by simp [uA]
theorem uA_oth' (τ : hSt) {c c' : Nat} (f : Nat → Int32) (k : Nat) (h : c' ≠ c) : (uA τ c f).1 c' k = τ.1 c' k := by simp [uA, h]
theorem upd_ne {f : Nat → Int32} {k j : Nat} {x : Int32} (h : j ≠ k) : upd f k x j = f j := by unfold upd; rw [if_neg h]
theorem upd_eq {f : Nat → Int32} {k : Nat} {x : Int32} : upd f k x k = x := by unfold upd; rw [if_pos rfl]
/-- the reference's live text: which side, how many hills and news -/
def MLive (τ : hSt) (li H M : Nat) : Prop := τ.1 0 18 = nI li ∧ li < 2 ∧ τ.1 11 li = nI H ∧ H ≤ 6 ∧ τ.1 14 li = nI M ∧ M ≤ 4
def hitB (h : Nat) (e : Int32) (b : Nat) : Bool := bt e b && decide (b ≠ h)
def spQ (m : Nat) (d : Int32) (b : Nat) (r : Nat → Int32) : Nat → Int32 := upd r (96 + (4 * b + m)) (r (96 + (4 * b + m)) ||| (if d = 1 then 2 else 1))
def sp1 (h m : Nat) (d : Int32) (b : Nat) (r : Nat → Int32) : Nat → Int32 :=
  if (spQ m d b r) (4 * b + m) = 1 then spQ m d b r
  else upd (upd (upd (upd (spQ m d b r) (4 * b + m) 1) (24 + (4 * b + m)) (r 120)) (48 + (4 * b + m)) (nI h)) (72 + (4 * b + m)) d
def spN (h m : Nat) (d e : Int32) (r : Nat → Int32) : Nat → Nat → Int32
  | 0 => r
  | b + 1 => if hitB h e b then sp1 h m d b (spN h m d e r b) else spN h m d e r b
def cnN (h : Nat) (e : Int32) : Nat → Nat
  | 0 => 0
  | b + 1 => if hitB h e b then cnN h e b + 1 else cnN h e b
theorem cnN_le (h : Nat) (e : Int32) : ∀ b, cnN h e b ≤ b
  | 0 => Nat.le_refl 0
  | b + 1 => by have := cnN_le h e b; unfold cnN; split <;> omega
theorem sp1_hi {h m : Nat} {d : Int32} {b j : Nat} {r : Nat → Int32} (hb : b < 6) (hm : m < 4) (hj : 120 ≤ j) : sp1 h m d b r j = r j := by
  have h1 : spQ m d b r j = r j := by unfold spQ; rw [upd_ne (by omega)]
  unfold sp1
  by_cases hq : (spQ m d b r) (4 * b + m) = 1
  · rw [if_pos hq, h1]
  · rw [if_neg hq, upd_ne (by omega), upd_ne (by omega), upd_ne (by omega), upd_ne (by omega), h1]
theorem spN_hi {h m : Nat} {d e : Int32} {j : Nat} {r : Nat → Int32} (hm : m < 4) (hj : 120 ≤ j) : ∀ b, b ≤ 6 → spN h m d e r b j = r j
  | 0, _ => rfl
  | b + 1, hb => by
    unfold spN
    split
    · rw [sp1_hi (by omega) hm hj]; exact spN_hi hm hj b (by omega)
    · exact spN_hi hm hj b (by omega)
theorem spr_step {h m b n : Nat} {d e : Int32} {τ : hSt} {r : Nat → Int32} {li H M : Nat} (hP : HM τ.2.2) (hL : MLive τ li H M) (hh : h < 6) (hm : m < 4) (hb : b ≤ H) (hr : b < H → r 120 = r 120) :
    S_X12_spreads_6 0 (nI h) (nI m) d e (nI n, nI b, uA τ 37 r) =
      if b < H then (if hitB h e b then some (.inl (nI (n + 1), nI (b + 1), uA τ 37 (sp1 h m d b r))) else some (.inl (nI n, nI (b + 1), uA τ 37 r)))
      else some (.inr (nI n, uA τ 37 (upd r 122 (r 122 + 1)))) := by
  obtain ⟨h1, h2, h3, h4, h5, h6⟩ := hL
  have hP1 : HM (uA τ 37 r).2.2 := hP
  have e0 : (uA τ 37 r).1 0 18 = nI li := by rw [uA_oth' _ _ _ (by decide)]; exact h1
  have e1 : (uA τ 37 r).1 11 li = nI H := by rw [uA_oth' _ _ _ (by decide)]; exact h3
  have hd : ∀ (k : Nat) (t : hSt), F_X12_spreads_134 0 (nI h) (nI m) d e (nI k) (nI b) t = some (.inl (nI k, nI (b + 1), t)) := fun k t => by
    unfold F_X12_spreads_134 cL
    rw [nI_1]
  unfold S_X12_spreads_6 F_X12_spreads_6b
  rw [rM_24 hP1, e0, cG_t (inb_nI (by rw [kM_11]; exact h2) (by decide)), cl_nI (by omega), e1]
  by_cases hbH : b < H
  · rw [if_pos hbH, if_neg (nI_ge hbH (by omega))]
    by_cases hbt : bt e b = true
    · rw [if_neg (by rw [bt_is0 (by omega), hbt]; decide)]
      by_cases hbh : b = h
      · subst hbh
        rw [if_pos rfl, if_neg (by simp [hitB]), hd]
      · have hne : ¬ nI b = nI h := fun q => hbh ((nI_eq (by omega) (by omega)).mp q)
        rw [if_neg hne, if_pos (by simp [hitB, hbt, hbh])]
        unfold cL
        dsimp only
        rw [rM_54 hP1]
        simp only [show (4 : Int32) = nI 4 from rfl, show (96 : Int32) = nI 96 from rfl, pk_mul, nI_add, nI_1]
        rw [cG_t (inb_nI (by rw [kM_37]; omega) (by decide)), cl_nI (by omega), uA_own]
        have key : ∀ z : Int32, z = (if d = 1 then 2 else 1) → F_X12_spreads_71 0 (nI h) (nI m) d e (nI (n + 1)) (nI b) (nI (4 * b + m)) 37 (nI (96 + (4 * b + m))) (r (96 + (4 * b + m))) z (uA τ 37 r) = some (.inl (nI (n + 1), nI (b + 1), uA τ 37 (sp1 h m d b r))) := by
          intro z hz
          subst hz
          unfold F_X12_spreads_71 cL
          dsimp only
          rw [cG_t (inb_nI (by rw [kM_37]; omega) (by decide)), cl_nI (by omega), uA_uI]
          rw [show upd r (96 + (4 * b + m)) (r (96 + (4 * b + m)) ||| if d = 1 then 2 else 1) = spQ m d b r from rfl]
          have hQ : HM (uA τ 37 (spQ m d b r)).2.2 := hP
          rw [rM_54 hQ, cG_t (inb_nI (by rw [kM_37]; omega) (by decide)), cl_nI (by omega), uA_own]
          have h120 : spQ m d b r 120 = r 120 := by unfold spQ upd; rw [if_neg (by omega)]
          by_cases hk : spQ m d b r (4 * b + m) = 1
          · rw [if_pos hk, hd]
            unfold sp1
            rw [if_pos hk]
          · rw [if_neg hk, rM_54 hQ, cG_t (inb_nI (by rw [kM_37]; omega) (by decide)), uA_uI]
            rw [rM_54 (P := (uA τ 37 (upd (spQ m d b r) (4 * b + m) 1)).2.2) hP, rM_54 (P := (uA τ 37 (upd (spQ m d b r) (4 * b + m) 1)).2.2) hP]
            simp only [show (24 : Int32) = nI 24 from rfl, show (48 : Int32) = nI 48 from rfl, show (72 : Int32) = nI 72 from rfl, show (120 : Int32) = nI 120 from rfl, nI_add]
            rw [cG_t (inb_nI (by rw [kM_37]; omega) (by decide)), cG_t (inb_nI (by rw [kM_37]; omega) (by decide)), cl_nI (by omega), cl_nI (by omega), uA_own, uA_uI]
            rw [rM_54 (P := (uA τ 37 _).2.2) hP, cG_t (inb_nI (by rw [kM_37]; omega) (by decide)), cl_nI (by omega), uA_uI]
            rw [rM_54 (P := (uA τ 37 _).2.2) hP, cG_t (inb_nI (by rw [kM_37]; omega) (by decide)), cl_nI (by omega), uA_uI, hd]
            unfold sp1
            rw [if_neg hk]
            have : upd (spQ m d b r) (4 * b + m) 1 120 = r 120 := by unfold upd; rw [if_neg (by omega)]; exact h120
            rw [this]
        by_cases hd1 : d = 1
        · rw [if_pos hd1]; exact key 2 (by rw [if_pos hd1])
        · rw [if_neg hd1]; exact key 1 (by rw [if_neg hd1])
    · have hbt : bt e b = false := by simpa using hbt
      rw [if_pos ((bt_is0 (by omega)).mpr hbt), if_neg (by simp [hitB, hbt]), hd]
  · have : b = H := by omega
    subst this
    rw [if_neg hbH, if_pos (nI_le (Nat.le_refl _) (by omega)), rM_54 hP1]
    simp only [show (122 : Int32) = nI 122 from rfl]
    rw [cG_t (inb_nI (by rw [kM_37]; omega) (by decide)), cG_t (inb_nI (by rw [kM_37]; omega) (by decide)), cl_nI (by omega), uA_own, uA_uI]
    rfl
/-- a drum spreads: the row behind it, and how many others heard it -/
theorem spreads_eq {h m : Nat} {d e : Int32} {τ : hSt} {li H M : Nat} (hP : HM τ.2.2) (hL : MLive τ li H M) (hh : h < 6) (hm : m < 4) :
    F_X12_spreads 0 (nI h) (nI m) d e τ = some (nI (cnN h e H), uA τ 37 (upd (spN h m d e (τ.1 37) H) 122 (τ.1 37 122 + 1))) := by
  have hH : H ≤ 6 := hL.2.2.2.1
  unfold F_X12_spreads F_X12_spreads_6
  refine lp_eq H (by rw [fuel_v]; omega) (fun b v => v = (nI (cnN h e b), nI b, uA τ 37 (spN h m d e (τ.1 37) b))) ?_ (fun b v hb hv => ?_)
  · show (_, _, τ) = (nI 0, nI 0, uA τ 37 (τ.1 37))
    rw [uA_self]
    rfl
  · subst hv
    rw [spr_step hP hL hh hm hb (fun _ => rfl)]
    by_cases hbH : b < H
    · rw [if_pos hbH]
      refine Or.inl ?_
      by_cases ht : hitB h e b = true
      · rw [if_pos ht]
        exact ⟨_, hbH, rfl, by simp [cnN, spN, ht]⟩
      · rw [if_neg ht]
        exact ⟨_, hbH, rfl, by simp [cnN, spN, ht]⟩
    · have : b = H := by omega
      subst this
      rw [if_neg hbH, spN_hi hm (by decide) b hH]
      exact Or.inr rfl
