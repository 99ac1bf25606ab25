/-! ===== PURE 37: a day, a night, a drum, with all that the relation asks ===== -/
theorem sp1_at {h m b j : Nat} {d : Int32} {r : Nat → Int32} (h0 : j ≠ 4 * b + m) (h1 : j ≠ 24 + (4 * b + m)) (h2 : j ≠ 48 + (4 * b + m)) (h3 : j ≠ 72 + (4 * b + m)) (h4 : j ≠ 96 + (4 * b + m)) : sp1 h m d b r j = r j := by
  have hq : spQ m d b r j = r j := by unfold spQ; rw [upd_ne h4]
  unfold sp1
  split
  · exact hq
  · rw [upd_ne h3, upd_ne h2, upd_ne h1, upd_ne h0, hq]
theorem RH_sp1 {H h m b : Nat} {d : Int32} {r : Nat → Int32} (hr : RH H r) (hb : b < H) (hm : m < 4) (hH : H ≤ 6) : RH H (sp1 h m d b r) := fun x y hx hx6 hy => by
  rw [sp1_at (by omega) (by omega) (by omega) (by omega) (by omega), sp1_at (by omega) (by omega) (by omega) (by omega) (by omega)]
  exact hr x y hx hx6 hy
theorem RH_spN {H h m : Nat} {d e : Int32} {r : Nat → Int32} (hr : RH H r) (hm : m < 4) (hH : H ≤ 6) : ∀ b, b ≤ H → RH H (spN h m d e r b)
  | 0, _ => hr
  | b + 1, hb => by
    unfold spN
    split
    · exact RH_sp1 (RH_spN hr hm hH b (by omega)) (by omega) hm hH
    · exact RH_spN hr hm hH b (by omega)
theorem RH_hi {H : Nat} {r r' : Nat → Int32} (h : RH H r) (e : ∀ j, j < 120 → r' j = r j) : RH H r' := fun x y a b c => by
  rw [e _ (by omega), e _ (by omega)]
  exact h x y a b c
theorem RH_rowDS {H t h m : Nat} {d e : Int32} {r : Nat → Int32} (hr : RH H r) (hm : m < 4) (hH : H ≤ 6) : RH H (rowDS t h m d e H r) := by
  unfold rowDS
  refine RH_hi (RH_spN (r := rowD t h m d e r) (RH_hi hr (fun j hj => rowD_lo (by omega) (by omega))) hm hH H (Nat.le_refl _)) (fun j hj => upd_ne (by omega))
theorem RH_nStep {H a b n : Nat} {e r : Nat → Int32} {sil : Int32} (hr : RH H r) (hb : b < 4) (hH : H ≤ 6) : RH H (nStep H e sil a b n r) := by
  unfold nStep
  split
  · exact RH_hi (RH_spN hr hb hH H (Nat.le_refl _)) (fun j hj => upd_ne (by omega))
  · exact hr
theorem RH_nRow {H S : Nat} {e r : Nat → Int32} {sil : Int32} {A B D : Nat → Nat} (hr : RH H r) (hB : ∀ i, i < S → B i < 4) (hH : H ≤ 6) : ∀ i, i ≤ S → RH H (nRow H e sil A B D r i)
  | 0, _ => hr
  | i + 1, hi => RH_nStep (RH_nRow hr hB hH i (by omega)) (hB i (by omega)) hH
theorem RH_nigR {H : Nat} {r : Nat → Int32} (hr : RH H r) : RH H (nigR r) := RH_hi hr (fun j hj => by unfold nigR; rw [upd_ne (by omega), upd_ne (by omega)])
theorem RH_dStep {H how h m : Nat} {e : Nat → Int32} {p : (Nat → Int32) × Nat} (hr : RH H p.1) (hm : m < 4) (hH : H ≤ 6) : RH H (dStep H how e h m p).1 := by
  by_cases g : lawP p.1 p.2 how h m 0
  · rw [dStep_go g]; exact RH_rowDS hr hm hH
  · rw [dStep_no g]; exact hr
theorem RH_dIn {H how h : Nat} {e : Nat → Int32} {p : (Nat → Int32) × Nat} (hr : RH H p.1) (hH : H ≤ 6) : ∀ m, m ≤ 4 → RH H (dIn H how e h p m).1
  | 0, _ => hr
  | m + 1, hm => RH_dStep (RH_dIn hr hH m (by omega)) (by omega) hH
theorem RH_dOut {H M how : Nat} {e : Nat → Int32} {sil : Int32} {p : (Nat → Int32) × Nat} (hr : RH H p.1) (hH : H ≤ 6) (hM : M ≤ 4) : ∀ h, RH H (dOut H M how e sil p h).1
  | 0 => hr
  | h + 1 => by
    unfold dOut
    split
    · exact RH_dOut hr hH hM h
    · exact RH_dIn (RH_dOut hr hH hM h) hH M hM
theorem TC_M {t : Nat} {D : TxD} : ∀ σ, TC t D σ → σ.1 t 3 = nI (tM D) := fun _ h => h.1.2.1.2.1
theorem day_WR {t w li how b : Nat} {D : TxD} {σ τ : hSt} (hD : TXok D) (ht : okr kC NC 7 t = true) (hw : okr kC NC 10 w = true) (htw : t + 17 ≤ w) (hT : TC t D σ) (hQ : TM li D τ) (hR : WR (tH D) b σ.1 w (τ.1 37)) (hb : b < 2 ^ 30) (e2 : τ.1 0 55 = nI how) (hhow : how < 4) :
    ∃ σ' τ', F_X10_passDay w t (nI how) (τ.1 0 56) σ = some σ' ∧ F_X12_dayByRule 0 τ = some τ' ∧ TC t D σ' ∧ TM li D τ' ∧ frm t w σ σ' ∧ frq τ τ' ∧ WR (tH D) (b + 1) σ'.1 w (τ'.1 37) := by
  obtain ⟨n, d, hW, h120, hdb, hH⟩ := hR
  have hX := TX_of (t := t) hD ht
  have hY := TQ_of (li := li) hD
  have d1 := hD.1
  have d2 := hD.2.1
  obtain ⟨σ', τ', c1, m1, c2, m2, c3, m3, c4, m4⟩ := day_both hX TC_M d2 ht hw htw hT hY hQ hW (by omega) h120 e2 hhow
  obtain ⟨τ1, y1, y2, y3, y4, y5, y6, y7⟩ := hY.2.2 τ d hQ (by omega)
  have hS := (hX.1 σ hT).2.2.2.2.2
  obtain ⟨τ'', z1, z2, z3, z4⟩ := dayM_all hY (fun i hi => (hS i hi).2.1) hQ (by omega) h120 ⟨hW.2.2.1, hW.2.2.2.1⟩ e2 hhow y7
  have ee : τ' = τ'' := Option.some.inj (m1.symm.trans z1)
  refine ⟨σ', τ', c1, m1, c2, m2, c3, m3, 0, d + 1, c4, m4, by omega, ?_⟩
  rw [ee, z4]
  exact RH_nigR (RH_nRow (RH_dOut (p := (τ.1 37, n)) hH d1 d2 _) (fun i hi => (hS i hi).2.2.2.1) d1 _ (Nat.le_refl _))
theorem night_WR {t w li b : Nat} {D : TxD} {σ τ : hSt} (hD : TXok D) (ht : okr kC NC 7 t = true) (hw : okr kC NC 10 w = true) (htw : t + 17 ≤ w) (hT : TC t D σ) (hQ : TM li D τ) (hR : WR (tH D) b σ.1 w (τ.1 37)) (hb : b < 2 ^ 30) :
    ∃ σ' τ', F_X10_passNight w t (τ.1 0 56) σ = some σ' ∧ F_X12_nightGoes 0 τ = some τ' ∧ TC t D σ' ∧ TM li D τ' ∧ frm t w σ σ' ∧ frq τ τ' ∧ WR (tH D) (b + 1) σ'.1 w (τ'.1 37) := by
  obtain ⟨n, d, hW, h120, hdb, hH⟩ := hR
  have hX := TX_of (t := t) hD ht
  have hY := TQ_of (li := li) hD
  have d1 := hD.1
  have hS := (hX.1 σ hT).2.2.2.2.2
  obtain ⟨τ1, x1, x2, x3, x6, x4, x5⟩ := nightM_all hY hQ (show d < 2 ^ 30 by omega) h120
  obtain ⟨σ', c1, c2, c3, c4⟩ := nightC_all hX ht hw htw hT hW (show d < 2 ^ 30 by omega) h120 x5 (sil := τ.1 0 56)
  have n120 : ∀ i, i ≤ tS D → nRow (tH D) (τ1.1 35) (τ.1 0 56) (tA D) (tB D) (tD D) (τ.1 37) i 120 = nI d := by
    intro i
    induction i with
    | zero => intro _; exact h120
    | succ i ih => intro hi; exact (nStep_120 (hS i (by omega)).2.2.2.1 d1).trans (ih (by omega))
  have own : ∀ f, (uA τ1 37 f).1 37 = f := fun f => funext fun j => uA_own _ _ _ _
  refine ⟨σ', _, c1, x1, c2, hY.2.1 τ1 _ x2, c3, ⟨x3, fun j hj => ?_, fun k z a b c g => ?_⟩, 0, d + 1, ?_, ?_, by omega, ?_⟩
  · rw [uA_row _ _ (by decide)]; exact x6 j hj
  · rw [uA_row _ _ g]; exact x4 k z a b c
  · rw [own]; exact c4
  · rw [own]
    unfold nigR
    rw [upd_ne (by decide), upd_eq, n120 _ (Nat.le_refl _), nI_1]
  · rw [own]
    exact RH_nigR (RH_nRow hH (fun i hi => (hS i hi).2.2.2.1) d1 _ (Nat.le_refl _))
/-! may -/
theorem may_both {b t li : Nat} {D : TxD} {σ τ : hSt} {x y : Int32} {c : Nat} (hc : c < 2) (ht : Rat t σ.2.2) (hD : TXok D) (hC : TC t D σ) (hM : TM li D τ) (hR : Rst (tH D) (tM D) b σ τ) :
    ∃ v τ', F_X11_may 0 x y (nI c) σ = some v ∧ F_X12_mayNow 0 x y (nI c) τ = some (v, τ') ∧ TM li D τ' ∧ frM τ τ' ∧ τ'.2.2 = τ.2.2 ∧
      ((v = -1 ∨ v = -3 ∨ v = 0) ∨ (v = 1 ∧ τ' = cpS τ (nI (tO D)) (-1) ∧ ∃ h m n, h < tH D ∧ m < tM D ∧ x = nI h ∧ y = nI m ∧ RW σ.1 44 (τ'.1 37) n ∧ n < 60)) := by
  have hP : HC σ.2.2 := hC.1.1
  have d1 : tH D ≤ 6 := hD.1
  have d2 : tM D ≤ 4 := hD.2.1
  have hcd : nI c = 0 ∨ nI c = 1 := by
    rcases (show c = 0 ∨ c = 1 by omega) with q | q <;> subst q
    · exact Or.inl rfl
    · exact Or.inr rfl
  unfold F_X11_may F_X12_mayNow
  rcases hill_eq (x := x) hD ht hC.1 hM with ⟨h, hh, e, q1, q2⟩ | ⟨q1, q2⟩
  · subst e
    rw [q1, q2]
    simp only [Option.bind_some]
    rw [if_neg (by decide), if_neg (by decide)]
    rcases news_eq (x := y) hD ht hC.1 hM with ⟨m, hm, e, q3, q4⟩ | ⟨q3, q4⟩
    · subst e
      rw [q3, q4]
      simp only [Option.bind_some]
      obtain ⟨n, d, hW, h120, -, -⟩ := hR.2.2.1
      have hW' : RW σ.1 44 ((cpS τ (nI (tO D)) (-1)).1 37) n := by
        rw [cpS_37]
        exact RW_rowlo hW (fun j hj => cpR_lo hj)
      have hQ : HM (cpS τ (nI (tO D)) (-1)).2.2 := hM.1
      have hM' : TM li D (cpS τ (nI (tO D)) (-1)) := TM_M hM rfl cpS_fr
      rw [if_neg (by decide), if_neg (by decide), rC_11_5' hP, copiesM hM, ableC_eq hW' (by omega) (by omega)]
      simp only [Option.bind_some]
      rw [knowsM_eq hQ (by omega) (by omega)]
      simp only [Option.bind_some]
      have hn : n ≤ 60 := hW.2.2.2.1
      have no : F_X12_mayNow_43 (cpS τ (nI (tO D)) (-1)) = some (-3, cpS τ (nI (tO D)) (-1)) := rfl
      by_cases hk : (cpS τ (nI (tO D)) (-1)).1 37 (4 * h + m) = 1
      · rw [if_pos hk, ite_10, if_neg ne_10, rM_54 hQ, cG_t (show inb (121 : Int32) (kM 37).2 = true by rw [kM_37]; decide), show (121 : Int32).toNatClampNeg = 121 from rfl, hW'.2.2.1]
        by_cases hn6 : n < 60
        · rw [if_pos hn6, if_neg (show ¬ nI n = 60 from fun q => absurd ((nI_eq (b := 60) (by omega) (by decide)).mp q) (by omega)), rC_11_5' hP, Rat_c ht, hC.1.2.1.2.2.1]
          have how4 : tO D < 4 := hD.2.2.2.1
          obtain ⟨a1, a2⟩ := ansC_eq (h := h) (m := m) (how := tO D) (d := nI c) (σ := σ) hW'.2 (by omega) (by omega) how4 hcd
          obtain ⟨b1, b2⟩ := ansM_eq (h := h) (m := m) (t := n) (how := tO D) (d := nI c) (τ := cpS τ (nI (tO D)) (-1)) hQ (by omega) (by omega) hn hW'.2.2.1 cpS_55 how4
          have m58 : F_X12_mayNow_58 0 (nI h) (nI m) (nI c) (cpS τ (nI (tO D)) (-1)) = (F_X12_isAnswer 0 (nI h) (nI m) (nI c) (cpS τ (nI (tO D)) (-1))).bind fun v2 => if v2 = 0 then F_X12_mayNow_69 1 (cpS τ (nI (tO D)) (-1)) else F_X12_mayNow_69 0 (cpS τ (nI (tO D)) (-1)) := rfl
          have m58' : (if nI c = 0 then F_X12_mayNow_58 0 (nI h) (nI m) (0 : Int32) (cpS τ (nI (tO D)) (-1)) else F_X12_mayNow_58 0 (nI h) (nI m) (1 : Int32) (cpS τ (nI (tO D)) (-1))) = F_X12_mayNow_58 0 (nI h) (nI m) (nI c) (cpS τ (nI (tO D)) (-1)) := by
            rcases hcd with q | q
            · rw [q, if_pos rfl]
            · rw [q, if_neg (by decide)]
          rw [m58', m58]
          by_cases g : ansP ((cpS τ (nI (tO D)) (-1)).1 37) n (tO D) h m (nI c)
          · rw [a1 g, b1 g]
            simp only [Option.bind_some]
            rw [if_neg (by decide), if_neg (by decide)]
            exact ⟨0, _, rfl, rfl, hM', cpS_fr, rfl, Or.inl (Or.inr (Or.inr rfl))⟩
          · rw [a2 g, b2 g]
            simp only [Option.bind_some]
            rw [if_pos trivial, if_pos trivial]
            exact ⟨1, _, rfl, rfl, hM', cpS_fr, rfl, Or.inr ⟨rfl, rfl, h, m, n, hh, hm, rfl, rfl, hW', hn6⟩⟩
        · have : n = 60 := by omega
          subst this
          rw [if_neg hn6, if_pos (show nI 60 = 60 from rfl), no]
          exact ⟨-3, _, rfl, rfl, hM', cpS_fr, rfl, Or.inl (Or.inr (Or.inl rfl))⟩
      · rw [if_neg hk, ite_self, if_pos rfl, if_pos rfl, no]
        exact ⟨-3, _, rfl, rfl, hM', cpS_fr, rfl, Or.inl (Or.inr (Or.inl rfl))⟩
    · rw [q3, q4]
      exact ⟨-1, τ, rfl, rfl, hM, frM_rfl, rfl, Or.inl (Or.inl rfl)⟩
  · rw [q1, q2]
    exact ⟨-1, τ, rfl, rfl, hM, frM_rfl, rfl, Or.inl (Or.inl rfl)⟩
theorem may_eq {b : Nat} {σ τ : hSt} {x y : Int32} {c : Nat} (hc : c < 2) (h : Rr b σ τ) : ∃ v τ', F_X11_may 0 x y (nI c) σ = some v ∧ F_X12_may 0 x y (nI c) τ = some (v, τ') ∧ Rr b σ τ' := by
  obtain ⟨t, li, D, ht, hD, hC, hM, hR⟩ := h
  obtain ⟨v, τ', h1, h2, h3, h4, h5, -⟩ := may_both (x := x) (y := y) hc ht hD hC hM hR
  refine ⟨v, τ', h1, ?_, Rr_ro ht hD hR hC h3 frC_rfl h4⟩
  unfold F_X12_may
  rw [cC_t h2]
/-! drum -/
def bcF (x : Int32) : Int32 := (F_J6_bitCount_0f7a4 x hZ).getD 0
theorem bc_eq {x : Int32} {σ : hSt} : F_J6_bitCount_0f7a4 x σ = some (bcF x) := rfl
theorem bc_cn : ∀ E, E < 64 → ∀ h, h < 6 → bcF (nI E &&& (((1 : Int32) <<< (nI h &&& 31)) ^^^ (-1 : Int32))) = nI (cnN h (nI E) 6) := by decide +kernel
theorem cnN_6 {h H : Nat} {e : Int32} (he : ∀ b, b < 32 → bt e b = true → b < H) : ∀ k, H ≤ k → k ≤ 6 → cnN h e k = cnN h e H
  | 0, h0, _ => by rw [show H = 0 by omega]
  | k + 1, h0, h6 => by
    by_cases q : H = k + 1
    · rw [q]
    · have hb : hitB h e k = false := by
        unfold hitB
        cases hb : bt e k with
        | false => rfl
        | true =>
          have := he k (by omega) hb
          omega
      have e1 : cnN h e (k + 1) = cnN h e k := by
        show (if hitB h e k = true then cnN h e k + 1 else cnN h e k) = _
        rw [hb]
        rfl
      rw [e1]
      exact cnN_6 he k (by omega) (by omega)
theorem frm_frC {t : Nat} {σ σ' : hSt} (h1 : σ'.2.2 = σ.2.2) (h : ∀ k, ¬ (t ≤ k ∧ k < t + 17) → σ'.1 k = σ.1 k ∧ σ'.2.1 k = σ.2.1 k) : frC t σ σ' := ⟨h1, fun k a _ _ => (h k a).1⟩
theorem drum_eq {b : Nat} {σ τ : hSt} {x y : Int32} {c : Nat} (hc : c < 2) (hb : b < 2 ^ 30) (h : Rr b σ τ) : ∃ v σ' τ', F_X11_drum 0 x y (nI c) σ = some (v, σ') ∧ F_X12_drum 0 x y (nI c) τ = some (v, τ') ∧ Rr b σ' τ' := by
  have h00 := h
  obtain ⟨t, li, D, ht, hD, hTC, hM, hR⟩ := h
  have d1 : tH D ≤ 6 := hD.1
  have d2 : tM D ≤ 4 := hD.2.1
  obtain ⟨ht1, ht2⟩ := Rat_ok ht
  obtain ⟨v, τ1, h1, h2, h3, h4, h5, h6⟩ := may_both (x := x) (y := y) hc ht hD hTC hM hR
  unfold F_X11_drum F_X12_drum
  rw [h1, cC_t h2]
  simp only [Option.bind_some]
  rcases h6 with hv | ⟨hv, e1, hh, m, n, q1, q2, q3, q4, hW, hn⟩
  · have hro := Rr_ro ht hD hR hTC h3 frC_rfl h4
    rcases hv with q | q | q <;> subst q
    · exact ⟨-1, σ, τ1, rfl, rfl, hro⟩
    · exact ⟨-3, σ, τ1, rfl, rfl, hro⟩
    · exact ⟨-2, σ, τ1, rfl, rfl, hro⟩
  · subst hv q3 q4
    have hP : HC σ.2.2 := hTC.1.1
    have hQ1 : HM τ1.2.2 := h3.1
    obtain ⟨s0, x0, k1, k2, k3, k4, k5, k6⟩ := hR.2.2.2.1
    obtain ⟨n1, d, hW1, h120, hdb, hRH⟩ := hR.2.2.1
    have h120' : τ1.1 37 120 = nI d := by rw [e1, cpS_37, cpR_lo (by decide)]; exact h120
    have hRH' : RH (tH D) (τ1.1 37) := by rw [e1, cpS_37]; exact RH_lo hRH (fun j hj => cpR_lo hj)
    rw [if_pos rfl, if_pos (by decide), Rat_c ht, rC_11_5' hP, hW1.1.1, h120, rM_54 hQ1, cG_t (show inb (120 : Int32) (kM 37).2 = true by rw [kM_37]; decide), show (120 : Int32).toNatClampNeg = 120 from rfl, h120']
    obtain ⟨w, σ1, y1, y2, y3, y4, y5⟩ := heardOn_eq hD ht1 hTC (show d < 2 ^ 30 by omega)
    obtain ⟨τ2, z1, z2, z3, z4, z5, z6⟩ := fillsM_eq hD h3 (show d < 2 ^ 30 by omega)
    have hP1 : HC σ1.2.2 := by rw [y3]; exact hP
    have ht' : Rat t σ1.2.2 := by rw [y3]; exact ht
    have hQ2 : HM τ2.2.2 := z2.1
    have ee : hC w hh = τ2.1 35 hh := ear_hC d1 z6 (fun a b p q => y5 a b p q) q1
    have eE : τ2.1 35 hh = nI (EC w hh) := by rw [← ee]; exact hC_EC
    have f1 : frC t σ σ1 := frm_frC y3 y4
    have k4' : σ1.1 52 1 = nI x0 := by rw [f1.2 52 (by omega) (by omega) (by omega)]; exact k4
    have k3' : σ1.1 52 2 = nI s0 := by rw [f1.2 52 (by omega) (by omega) (by omega)]; exact k3
    rw [cC_t y1, hearersOf_eq]
    simp only [Option.bind_some]
    rw [rC_11_7' hP1, rC_11_5' hP1, push_eq hP1 k2 k1 k4' k3']
    simp only [Option.bind_some]
    have hP2 : HC (psC σ1 s0 x0).2.2 := hP1
    have e37 : τ2.1 37 = τ1.1 37 := z5 37 (by decide) (by decide) (by decide) (by decide)
    have hWp : RW (psC σ1 s0 x0).1 44 (τ2.1 37) n := by
      rw [e37]
      exact RW_same hW (fun k a b => by rw [psC_row (by omega) (by omega)]; exact f1.2 k (by omega) (by omega) (by omega))
    have dk := drumByDay_eq (w := 44) (t := n) (h := hh) (m := m) (c := c) (E := EC w hh) (σ := psC σ1 s0 x0) hP2 (by decide) (by omega) (by omega) hc EC_lt hn hWp.2.1
    rw [rC_11_5' hP2, hC_EC, dk, z1]
    simp only [Option.bind_some]
    rw [bc_eq]
    simp only [Option.bind_some]
    have dm := drumsNow_eq (h := hh) (m := m) (t := n) (d := nI c) (τ := τ2) hQ2 ⟨z2.2.1.1, z2.2.1.2, z2.2.2.1.1, d1, z2.2.2.1.2.1, d2⟩ (by omega) (by omega) hn (by rw [e37]; exact hW.2.2.1)
    have d51 : (if nI c = 0 then F_X12_drum_51 0 0 (nI hh) (nI m) (0 : Int32) τ2 else F_X12_drum_51 0 0 (nI hh) (nI m) (1 : Int32) τ2) = F_X12_drum_51 0 0 (nI hh) (nI m) (nI c) τ2 := by
      rcases (show c = 0 ∨ c = 1 by omega) with q | q <;> subst q
      · rw [if_pos nI_0, nI_0]
      · rw [if_neg (by decide)]; rfl
    rw [d51]
    unfold F_X12_drum_51
    rw [cC_t dm]
    have hbits : ∀ b, b < 32 → bt (nI (EC w hh)) b = true → b < tH D := by rw [← eE]; exact ear_lt z6 q1
    have hk := day_keep (h := hh) (m := m) (c := c) (E := EC w hh) (H := tH D) hWp (by omega) (by omega) hc EC_lt d1 hbits hn
    have own : ∀ f, (uA τ2 37 f).1 37 = f := fun f => funext fun j => uA_own _ _ _ _
    generalize hs2 : sndC 44 hh m (nI c) (nI (EC w hh)) (dayC 44 n hh m c (EC w hh) (psC σ1 s0 x0)) = σ2 at hk ⊢
    have s2P : σ2.2 = (psC σ1 s0 x0).2 := by subst hs2; rw [snd_P, dayC_P]
    have s2r : ∀ k, ¬ (44 ≤ k ∧ k < 48) → σ2.1 k = (psC σ1 s0 x0).1 k := fun k a => by subst hs2; rw [snd_row (by omega) (by omega) (by omega), dayC_row (by omega) (by omega)]
    have hC2 : TC t D σ2 := ⟨TC0_same y2.1 (by rw [s2P]; rfl) (fun k a b => by rw [s2r k (by omega), psC_row (by omega) (by omega)]), by rw [s2P, s2r (t + 16) (by omega), psC_row (by omega) (by omega)]; exact y2.2⟩
    have g2 : frM τ τ2 := frM_trans h4 ⟨fun j a _ _ _ => z4 j a, fun k p1 p2 p3 p4 _ _ _ _ => z5 k p1 p2 p3 p4⟩
    have g3 : frM τ2 (uA τ2 37 (rowDS n hh m (nI c) (τ2.1 35 hh) (tH D) (τ2.1 37))) := ⟨fun j _ _ _ _ => uA_oth' _ _ _ (by decide), fun k p1 p2 p3 p4 p5 _ _ _ => uA_row _ _ p5⟩
    have hM3 : TM li D (uA τ2 37 (rowDS n hh m (nI c) (τ2.1 35 hh) (tH D) (τ2.1 37))) := TM_M z2 rfl g3
    have hW3 : WR (tH D) b σ2.1 44 ((uA τ2 37 (rowDS n hh m (nI c) (τ2.1 35 hh) (tH D) (τ2.1 37))).1 37) := by
      rw [own, eE]
      refine ⟨n + 1, d, hk, ?_, hdb, ?_⟩
      · rw [rowDS_hi (by omega) d1 (by decide) (by decide), rowD_lo (by decide) (by decide), e37]
        exact h120'
      · rw [e37]
        exact RH_rowDS hRH' (by omega) d1
    obtain ⟨τ', u1, u2, u3⟩ := done_keep (b' := b) (σ' := σ2) hD ht hR (Nat.le_refl _) k1 k2 k4 k3 k5 f1 (by rw [s2P]; exact y3) (fun k a b => s2r k b) hC2 (frM_trans g2 g3) (by rw [show (uA τ2 37 (rowDS n hh m (nI c) (τ2.1 35 hh) (tH D) (τ2.1 37))).2.2 = τ2.2.2 from rfl, z3]; exact h5) hM3 hW3
    rw [u1]
    refine ⟨_, σ2, τ', rfl, ?_, u2⟩
    simp only [Option.bind_some]
    rw [bc_cn _ EC_lt _ (by omega), eE, cnN_6 hbits 6 d1 (Nat.le_refl _)]
