/-! ===== PURE 45: loophole, loopholeAt ===== -/
theorem lp_1a {V X : Type} {s : V → Option (V ⊕ X)} {v0 : V} {x : X} (h0 : s v0 = some (.inr x)) : lp s fuel v0 = some x := by
  rw [fuel_v, lp_inr h0]
theorem lp_2a {V X : Type} {s : V → Option (V ⊕ X)} {v0 v1 : V} {x : X} (h0 : s v0 = some (.inl v1)) (h1 : s v1 = some (.inr x)) : lp s fuel v0 = some x := by
  rw [fuel_v, lp_inl h0, lp_inr h1]
theorem lp_3a {V X : Type} {s : V → Option (V ⊕ X)} {v0 v1 v2 : V} {x : X} (h0 : s v0 = some (.inl v1)) (h1 : s v1 = some (.inl v2)) (h2 : s v2 = some (.inr x)) : lp s fuel v0 = some x := by
  rw [fuel_v, lp_inl h0, lp_inl h1, lp_inr h2]
/-- a drum's code -/
def cdI (h m c : Nat) : Int32 := nI (100 * h + 10 * m + c)
theorem codeC_eq {h m c : Nat} {σ : hSt} (hc : c < 2) : F_X1_codeOf (nI h) (nI m) (nI c) σ = some (cdI h m c) := by
  unfold F_X1_codeOf F_X1_codeOf_18 cdI
  rw [show (100 : Int32) = nI 100 from rfl, show (10 : Int32) = nI 10 from rfl, pk_mul, pk_mul, nI_add]
  rcases (show c = 0 ∨ c = 1 by omega) with q | q <;> subst q
  · rw [if_pos (show nI 0 = 0 from rfl), show (0 : Int32) = nI 0 from rfl, nI_add]
  · rw [if_neg (show ¬ nI 1 = 0 by decide), show (1 : Int32) = nI 1 from rfl, nI_add]
theorem codeM_eq {h m c : Nat} : (((100 : Int32) * nI h) + ((10 : Int32) * nI m)) + nI c = cdI h m c := by
  unfold cdI
  rw [show (100 : Int32) = nI 100 from rfl, show (10 : Int32) = nI 10 from rfl, pk_mul, pk_mul, nI_add, nI_add]
theorem codeM_0 {h m : Nat} : (((100 : Int32) * nI h) + ((10 : Int32) * nI m)) = cdI h m 0 := by
  unfold cdI
  rw [show (100 : Int32) = nI 100 from rfl, show (10 : Int32) = nI 10 from rfl, pk_mul, pk_mul, nI_add, Nat.add_zero]
theorem cd_pos {h m c : Nat} (hh : h < 6) (hm : m < 4) (hc : c < 2) : ¬ cdI h m c < 0 := nI_pos (by omega)
/-- lawful, in both -/
theorem law_both {w h m n how c : Nat} {σ τ : hSt} (hW : RW σ.1 w (τ.1 37) n) (hQ : HM τ.2.2) (hh : h < 6) (hm : m < 4) (hw : how < 4) (hc : c < 2) (e2 : τ.1 0 55 = nI how) :
    ∃ a x, F_X10_isAble w (nI h) (nI m) σ = some a ∧ F_X10_isAnswer w (nI how) (nI h) (nI m) (nI c) σ = some x ∧ (((a = 0 ∨ ¬ x = 0) ∧ F_X12_isLawful 0 (nI h) (nI m) (nI c) τ = some 0) ∨ (¬ a = 0 ∧ x = 0 ∧ n < 60 ∧ F_X12_isLawful 0 (nI h) (nI m) (nI c) τ = some 1)) := by
  have hcd : nI c = 0 ∨ nI c = 1 := by
    rcases (show c = 0 ∨ c = 1 by omega) with q | q <;> subst q
    · exact Or.inl rfl
    · exact Or.inr rfl
  obtain ⟨a1, a2⟩ := ansC_eq (h := h) (m := m) (how := how) (d := nI c) (σ := σ) hW.2 hh hm hw hcd
  obtain ⟨b1, b2⟩ := lawM_eq (h := h) (m := m) (how := how) (d := nI c) hQ hh hm hW.2.2.2.1 hW.2.2.1 e2 hw
  rw [ableC_eq hW hh hm]
  by_cases g1 : n < 60
  · by_cases g2 : τ.1 37 (4 * h + m) = 1
    · rw [if_pos g1, if_pos g2]
      by_cases g3 : ansP (τ.1 37) n how h m (nI c)
      · exact ⟨1, 1, rfl, a1 g3, Or.inl ⟨Or.inr ne_10, b2 (fun q => q.2.2 g3)⟩⟩
      · exact ⟨1, 0, rfl, a2 g3, Or.inr ⟨ne_10, rfl, g1, b1 ⟨g2, g1, g3⟩⟩⟩
    · rw [if_pos g1, if_neg g2]
      by_cases g3 : ansP (τ.1 37) n how h m (nI c)
      · exact ⟨0, 1, rfl, a1 g3, Or.inl ⟨Or.inl rfl, b2 (fun q => g2 q.1)⟩⟩
      · exact ⟨0, 0, rfl, a2 g3, Or.inl ⟨Or.inl rfl, b2 (fun q => g2 q.1)⟩⟩
  · rw [if_neg g1]
    by_cases g3 : ansP (τ.1 37) n how h m (nI c)
    · exact ⟨0, 1, rfl, a1 g3, Or.inl ⟨Or.inl rfl, b2 (fun q => g1 q.2.1)⟩⟩
    · exact ⟨0, 0, rfl, a2 g3, Or.inl ⟨Or.inl rfl, b2 (fun q => g1 q.2.1)⟩⟩
/-- does this one, heard, end a loophole -/
theorem ends_no {h g m k : Nat} {τ : hSt} (hQ : HM τ.2.2) (hg : g < 6) (hb : ((τ.1 35 g) >>> (nI h &&& 31)) &&& (1 : Int32) = 0) : F_X12_endsBy 0 (nI h) (nI g) (nI m) (nI k) τ = some (0, τ) := by
  unfold F_X12_endsBy
  rw [rM_52 hQ, cG_t (inb_nI (by rw [kM_35]; omega) (by decide)), cl_nI (by omega), if_pos hb]
theorem ends_both {tx w h g m n how k : Nat} {σ τ : hSt} (hW : RW σ.1 w (τ.1 37) n) (hQ : HM τ.2.2) (hg : g < 6) (hm : m < 4) (hw : how < 4) (hk1 : 1 ≤ k) (hk : k ≤ 3) (e2 : τ.1 0 55 = nI how) (e8 : σ.1 tx 8 = nI how) (hb : ¬ ((τ.1 35 g) >>> (nI h &&& 31)) &&& (1 : Int32) = 0) :
    ∃ c, F_X1_lastDrum tx w (nI g) (nI m) σ = some c ∧ ((c = -1 ∧ F_X12_endsBy 0 (nI h) (nI g) (nI m) (nI k) τ = some (0, τ)) ∨ (¬ c = -1 ∧ ¬ c < 0 ∧ F_X12_endsBy 0 (nI h) (nI g) (nI m) (nI k) τ = some (1, uI (uI τ 41 (k - 1) c) 0 62 (nI k)))) := by
  obtain ⟨a, x, p1, p2, p3⟩ := law_both (h := g) (m := m) (c := 0) hW hQ hg hm hw (by decide) e2
  obtain ⟨a', x', p1', p4, p5⟩ := law_both (h := g) (m := m) (c := 1) hW hQ hg hm hw (by decide) e2
  have ea : a' = a := Option.some.inj (p1'.symm.trans p1)
  subst ea
  have hpos : ∀ c, c < 2 → ¬ cdI g m c = -1 := fun c hc q => cd_pos hg hm hc (by rw [q]; decide)
  unfold F_X1_lastDrum F_X12_endsBy F_X12_endsBy_18
  rw [p1, e8]
  simp only [Option.bind_some]
  rw [show (0 : Int32) = nI 0 from rfl, show (1 : Int32) = nI 1 from rfl] at *
  have k1 : nI k - 1 = nI (k - 1) := by
    obtain ⟨j, e⟩ : ∃ j, k = j + 1 := ⟨k - 1, by omega⟩
    rw [e]
    exact nI_pred j
  rw [rM_52 hQ, cG_t (inb_nI (by rw [kM_35]; omega) (by decide)), cl_nI (by omega)]
  rw [if_neg hb, p2, p4]
  simp only [Option.bind_some]
  rw [codeC_eq (by decide), codeC_eq (by decide)]
  simp only [Option.bind_some]
  have step : ∀ c, c < 2 → (F_X12_isLawful 0 (nI g) (nI m) (nI c) τ = some (nI 0) → S_X12_endsBy_18 0 (nI g) (nI m) (nI k) τ (nI c) = some (.inl (nI (c + 1)))) ∧ (F_X12_isLawful 0 (nI g) (nI m) (nI c) τ = some (nI 1) → S_X12_endsBy_18 0 (nI g) (nI m) (nI k) τ (nI c) = some (.inr (1, uI (uI τ 41 (k - 1) (cdI g m c)) 0 62 (nI k)))) := fun c hc => by
    unfold S_X12_endsBy_18 F_X12_endsBy_18b cL
    rw [if_neg (show ¬ (2 : Int32) ≤ nI c from nI_ge (b := 2) hc (by decide))]
    constructor
    · intro q
      rw [q]
      simp only [Option.bind_some]
      rw [if_pos (show nI 0 = 0 from rfl), nI_1]
    · intro q
      rw [q]
      simp only [Option.bind_some]
      rw [if_neg (show ¬ nI 1 = 0 by decide), rM_61 hQ, k1, cG_t (inb_nI (by rw [kM_41]; omega) (by decide)), cl_nI (by omega), codeM_eq]
  have last : S_X12_endsBy_18 0 (nI g) (nI m) (nI k) τ (nI 2) = some (.inr (0, τ)) := rfl
  rcases p3 with ⟨q1, q2⟩ | ⟨q1, q2, q3, q4⟩
  · rcases p5 with ⟨r1, r2⟩ | ⟨r1, r2, r3, r4⟩
    · refine ⟨-1, ?_, Or.inl ⟨rfl, lp_3a ((step 0 (by decide)).1 q2) ((step 1 (by decide)).1 r2) last⟩⟩
      by_cases ha : a' = nI 0
      · rw [if_pos ha]
        rfl
      · rw [if_neg ha, if_neg (q1.resolve_left ha), if_neg (r1.resolve_left ha)]
        rfl
    · refine ⟨cdI g m 1, ?_, Or.inr ⟨hpos 1 (by decide), cd_pos hg hm (by decide), lp_2a ((step 0 (by decide)).1 q2) ((step 1 (by decide)).2 r4)⟩⟩
      rw [if_neg r1, if_neg (q1.resolve_left r1), if_pos r2]
      rfl
  · refine ⟨cdI g m 0, ?_, Or.inr ⟨hpos 0 (by decide), cd_pos hg hm (by decide), lp_1a ((step 0 (by decide)).2 q4)⟩⟩
    rw [if_neg q1, if_pos q2]
/-- the class's world behind the first drum -/
def hlC (n h m : Nat) (v : Int64) (σ : hSt) : hSt := sndC 226 h m (nI 0) (nI (EC v h)) (dayC 226 n h m 0 (EC v h) (cpC 226 44 σ))
theorem hlC_2 {n h m : Nat} {v : Int64} {σ : hSt} : (hlC n h m v σ).2 = σ.2 := by
  unfold hlC
  rw [snd_P, dayC_P]
  rfl
theorem hlC_row {n h m k : Nat} {v : Int64} {σ : hSt} (hk : ¬ (226 ≤ k ∧ k < 230)) : (hlC n h m v σ).1 k = σ.1 k := by
  unfold hlC
  rw [snd_row (by omega) (by omega) (by omega), dayC_row (by omega) (by omega), cpC_row (by omega)]
/-- a loophole's begin, in the model, again and again -/
theorem hole_b {n d h m t li : Nat} {D : TxD} {σ τ : hSt} {v : Int64} (hD : TXok D) (hT : TC t D σ) (hM : TM li D τ) (hW0 : RW σ.1 44 (τ.1 36) n) (h120 : τ.1 36 120 = nI d) (hd : d < 2 ^ 30) (hv : earJ D d v) (hh : h < tH D) (hm : m < tM D) :
    ∃ a x, F_X10_isAble 44 (nI h) (nI m) σ = some a ∧ F_X10_isAnswer 44 (nI (tO D)) (nI h) (nI m) 0 σ = some x ∧ ∃ τ', TM li D τ' ∧ frM τ τ' ∧
      (((a = 0 ∨ ¬ x = 0) ∧ F_X12_beginsHole 0 (nI h) (nI m) τ = some (0, τ')) ∨
       (¬ a = 0 ∧ x = 0 ∧ n < 60 ∧ F_X12_beginsHole 0 (nI h) (nI m) τ = some (1, τ') ∧ RW (hlC n h m v σ).1 226 (τ'.1 37) (n + 1) ∧ τ'.1 0 55 = nI (tO D) ∧ (∀ g, g < tH D → τ'.1 35 g = hC v g ∧ ∀ b, b < 32 → bt (hC v g) b = true → b < tH D) ∧ τ'.1 41 0 = cdI h m 0)) := by
  have d1 := hD.1
  have d2 := hD.2.1
  have d4 := hD.2.2.2.1
  have hP : HC σ.2.2 := hT.1.1
  have hM1 : TM li D (cpS τ (nI (tO D)) (-1)) := TM_M hM rfl cpS_fr
  have e120 : (cpS τ (nI (tO D)) (-1)).1 37 120 = nI d := by rw [cpS_37, cpR_lo (by decide), h120]
  obtain ⟨τ2, z1, z2, z3, z4, z5, z6⟩ := fillsM_eq hD hM1 hd
  have hQ2 : HM τ2.2.2 := z2.1
  have e37 : τ2.1 37 = (cpS τ (nI (tO D)) (-1)).1 37 := z5 37 (by decide) (by decide) (by decide) (by decide)
  have e55 : τ2.1 0 55 = nI (tO D) := by rw [z4 55 (by decide)]; exact cpS_55
  have hW2 : RW σ.1 44 (τ2.1 37) n := by rw [e37, cpS_37]; exact RW_rowlo hW0 (fun j hj => cpR_lo hj)
  have hW3 : RW (cpC 226 44 σ).1 226 (τ2.1 37) n := copy_keep hW2
  have hear : ∀ g, g < tH D → τ2.1 35 g = hC v g ∧ ∀ b, b < 32 → bt (hC v g) b = true → b < tH D := fun g hg => by
    have := ear_hC d1 z6 (fun a b p q => hv a b p q) hg
    exact ⟨this.symm, by rw [this]; exact ear_lt z6 hg⟩
  have g2 : frM τ τ2 := frM_trans cpS_fr ⟨fun j a _ _ _ => z4 j a, fun k p1 p2 p3 p4 _ _ _ _ => z5 k p1 p2 p3 p4⟩
  obtain ⟨a, x, p1, p2, p3⟩ := law_both (h := h) (m := m) (c := 0) hW2 hQ2 (by omega) (by omega) d4 (by decide) e55
  refine ⟨a, x, p1, p2, ?_⟩
  unfold F_X12_beginsHole
  rw [copiesM hM]
  simp only [Option.bind_some]
  rw [rM_54 hM1.1, cG_t (show inb (120 : Int32) (kM 37).2 = true by rw [kM_37]; decide), show (120 : Int32).toNatClampNeg = 120 from rfl, e120, z1]
  simp only [Option.bind_some]
  rw [show F_X12_isLawful 0 (nI h) (nI m) 0 τ2 = F_X12_isLawful 0 (nI h) (nI m) (nI 0) τ2 from rfl]
  rcases p3 with ⟨q1, q2⟩ | ⟨q1, q2, q3, q4⟩
  · rw [q2]
    simp only [Option.bind_some, if_true]
    exact ⟨τ2, z2, g2, Or.inl ⟨q1, rfl⟩⟩
  · rw [q4]
    simp only [Option.bind_some, if_neg ne_10]
    have dm := drumsNow_eq (h := h) (m := m) (t := n) (d := nI 0) (τ := τ2) hQ2 ⟨z2.2.1.1, z2.2.1.2, z2.2.2.1.1, d1, z2.2.2.1.2.1, d2⟩ (by omega) (by omega) q3 hW2.2.2.1
    rw [show F_X12_drumsNow 0 (nI h) (nI m) 0 τ2 = F_X12_drumsNow 0 (nI h) (nI m) (nI 0) τ2 from rfl, cC_t dm, rM_61 (show HM (uA τ2 37 (rowDS n h m (nI 0) (τ2.1 35 h) (tH D) (τ2.1 37))).2.2 from hQ2), cG_t (show inb (0 : Int32) (kM 41).2 = true by rw [kM_41]; decide), show (0 : Int32).toNatClampNeg = 0 from rfl, codeM_0]
    have eE : τ2.1 35 h = nI (EC v h) := by rw [(hear h hh).1]; exact hC_EC
    have own : ∀ f, (uA τ2 37 f).1 37 = f := fun f => funext fun j => uA_own _ _ _ _
    have hk := day_keep (h := h) (m := m) (c := 0) (E := EC v h) (H := tH D) hW3 (by omega) (by omega) (by decide) EC_lt d1 (by rw [← hC_EC]; exact (hear h hh).2) q3
    unfold cL
    refine ⟨_, ?_, ?_, Or.inr ⟨q1, q2, q3, rfl, ?_, ?_, ?_, ?_⟩⟩
    · exact TM_M z2 rfl ⟨fun j _ _ _ _ => by rw [uI_ne _ _ (by omega), uA_oth' _ _ _ (by decide)], fun k p1 p2 p3 p4 p5 p6 p7 p8 => by rw [uI_row _ _ p8, uA_row _ _ p5]⟩
    · exact frM_trans g2 ⟨fun j _ _ _ _ => by rw [uI_ne _ _ (by omega), uA_oth' _ _ _ (by decide)], fun k p1 p2 p3 p4 p5 p6 p7 p8 => by rw [uI_row _ _ p8, uA_row _ _ p5]⟩
    · rw [uI_row _ _ (by decide), own, eE]
      exact hk
    · rw [uI_ne _ _ (by omega), uA_oth' _ _ _ (by decide)]
      exact e55
    · rw [uI_row _ _ (by decide), uA_row _ _ (by decide)]
      exact hear
    · rw [uI_I, if_pos ⟨rfl, rfl⟩]
theorem k225 : (kC 225).2 = 3 := nC_1_0 (c := 224) (by decide)
/-- what stands while none is found, and what when one is -/
def hlI (n h m t : Nat) (v : Int64) (D : TxD) (σ s : hSt) : Prop := TC t D s ∧ frC t σ s ∧ s.1 224 1 = 0 ∧ (∀ k, 226 ≤ k → k < 230 → s.1 k = (hlC n h m v σ).1 k) ∧ s.1 225 0 = cdI h m 0
def hlF (t li : Nat) (D : TxD) (σ τ s u : hSt) : Prop := TC t D s ∧ frC t σ s ∧ TM li D u ∧ frM τ u ∧ ∃ k, (k = 2 ∨ k = 3) ∧ s.1 224 1 = nI k ∧ u.1 0 62 = nI k ∧ ∀ i, i < k → s.1 225 i = u.1 41 i ∧ ¬ s.1 225 i < 0
/-- the class's world behind the second drum -/
def hl2 (n h m c : Nat) (v : Int64) (s : hSt) : hSt := sndC 230 h m (nI c) (nI (EC v h)) (dayC 230 n h m c (EC v h) (cpC 230 226 s))
theorem hl2_2 {n h m c : Nat} {v : Int64} {s : hSt} : (hl2 n h m c v s).2 = s.2 := by
  unfold hl2
  rw [snd_P, dayC_P]
  rfl
theorem hl2_row {n h m c k : Nat} {v : Int64} {s : hSt} (hk : ¬ (230 ≤ k ∧ k < 234)) : (hl2 n h m c v s).1 k = s.1 k := by
  unfold hl2
  rw [snd_row (by omega) (by omega) (by omega), dayC_row (by omega) (by omega), cpC_row (by omega)]
theorem sec_step {n d h g m t li h2 m2 c2 : Nat} {D : TxD} {σ τ s u : hSt} {v : Int64} (hD : TXok D) (ht : Rat t σ.2.2) (hT : TC t D σ) (hW0 : RW σ.1 44 (τ.1 36) n) (h120 : τ.1 36 120 = nI d) (hd : d < 2 ^ 30) (hv : earJ D d v) (hh : h < tH D) (hg : g < tH D) (hm : m < tM D) (hh2 : h2 < tH D) (hm2 : m2 < tM D) (hc2 : c2 < 2)
    (hA : F_X10_isAble 44 (nI h) (nI m) σ = some 1) (hX : F_X10_isAnswer 44 (nI (tO D)) (nI h) (nI m) 0 σ = some 0) (hs : hlI n h m t v D σ s) (hM : TM li D u) (hf : frM τ u) :
    (((hC v g) >>> (nI h &&& 31)) &&& (1 : Int32) = 0 → ∃ u', TM li D u' ∧ frM τ u' ∧ F_X12_findsHole_61b 0 (nI h) (nI g) (nI m) (nI h2) (nI m2) (nI c2) u = some (.inl (nI (c2 + 1), u'))) ∧
    (¬ ((hC v g) >>> (nI h &&& 31)) &&& (1 : Int32) = 0 → ∃ s' u', F_X1_seekSecond_65 224 t (nI g) (nI m) v (nI h2) (nI m2) (nI c2) (nI c2) s = some (.inl (nI (c2 + 1), s')) ∧
      ((hlI n h m t v D σ s' ∧ TM li D u' ∧ frM τ u' ∧ F_X12_findsHole_61b 0 (nI h) (nI g) (nI m) (nI h2) (nI m2) (nI c2) u = some (.inl (nI (c2 + 1), u'))) ∨ (hlF t li D σ τ s' u' ∧ F_X12_findsHole_61b 0 (nI h) (nI g) (nI m) (nI h2) (nI m2) (nI c2) u = some (.inr (.inr (.inr (1, u'))))))) := by
  have d1 := hD.1
  have d2 := hD.2.1
  have d4 := hD.2.2.2.1
  obtain ⟨s1, s2, s3, s4, s5⟩ := hs
  have hPs : HC s.2.2 := s1.1.1
  have hts : Rat t s.2.2 := by rw [s2.1]; exact ht
  have e36 : u.1 36 = τ.1 36 := hf.2 36 (by decide) (by decide) (by decide) (by decide) (by decide) (by decide) (by decide) (by decide)
  obtain ⟨a, x, p1, p2, u1, w1, w2, w3⟩ := hole_b (τ := u) (m := m) hD hT hM (by rw [e36]; exact hW0) (by rw [e36]; exact h120) hd hv hh hm
  have ea : a = 1 := Option.some.inj (p1.symm.trans hA)
  have ex : x = 0 := Option.some.inj (p2.symm.trans hX)
  subst ea ex
  rcases w3 with ⟨q, -⟩ | ⟨-, -, hn, b1, b2, b3, b4, b5⟩
  · exact absurd q (by simp)
  have hQ1 : HM u1.2.2 := w1.1
  have hWs : RW s.1 226 (u1.1 37) (n + 1) := RW_same b2 (fun k q1 q2 => s4 k q1 (by omega))
  obtain ⟨a, x, r1, r2, r3⟩ := law_both (h := h2) (m := m2) (c := c2) hWs hQ1 (by omega) (by omega) d4 hc2 b3
  have e182 : ∀ s, F_X1_seekSecond_182 224 t (nI g) (nI m) v (nI h2) (nI m2) (nI c2) s = some (.inl (nI (c2 + 1), s)) := fun s => by
    unfold F_X1_seekSecond_182 cL
    rw [nI_1]
  have e134 : ∀ s, F_X12_findsHole_134 0 (nI h) (nI g) (nI m) (nI h2) (nI m2) (nI c2) s = some (.inl (nI (c2 + 1), s)) := fun s => by
    unfold F_X12_findsHole_134 cL
    rw [nI_1]
  have f1 : frM τ u1 := frM_trans hf w2
  unfold F_X12_findsHole_61b F_X1_seekSecond_65
  rw [if_neg (show ¬ (2 : Int32) ≤ nI c2 from nI_ge (b := 2) hc2 (by decide)), cC_t b1, rC_1_2 hPs (c := 224) (by decide), r1]
  simp only [Option.bind_some]
  rw [s1.1.2.1.2.2.1, rC_1_2 hPs (c := 224) (by decide), r2]
  simp only [Option.bind_some]
  rcases r3 with ⟨q1, q2⟩ | ⟨q1, q2, q3, q4⟩
  · rw [q2]
    simp only [Option.bind_some, if_true]
    rw [e134]
    refine ⟨fun _ => ⟨u1, w1, f1, rfl⟩, fun _ => ⟨s, u1, ?_, Or.inl ⟨⟨s1, s2, s3, s4, s5⟩, w1, f1, rfl⟩⟩⟩
    by_cases ha : a = 0
    · rw [if_pos ha, e182]
    · rw [if_neg ha, if_neg (q1.resolve_left ha), e182]
  · rw [q4]
    simp only [Option.bind_some, if_neg ne_10]
    have dm := drumsNow_eq (h := h2) (m := m2) (t := n + 1) (d := nI c2) (τ := u1) hQ1 ⟨w1.2.1.1, w1.2.1.2, w1.2.2.1.1, d1, w1.2.2.1.2.1, d2⟩ (by omega) (by omega) q3 hWs.2.2.1
    have eE : u1.1 35 h2 = nI (EC v h2) := by rw [(b4 h2 hh2).1]; exact hC_EC
    rw [cC_t dm, eE]
    generalize hu2 : uA u1 37 (rowDS (n + 1) h2 m2 (nI c2) (nI (EC v h2)) (tH D) (u1.1 37)) = u2
    have u2P : u2.2 = u1.2 := by subst hu2; rfl
    have u2r : ∀ k, k ≠ 37 → u2.1 k = u1.1 k := fun k q => by subst hu2; exact uA_row _ _ q
    have u2o : u2.1 37 = rowDS (n + 1) h2 m2 (nI c2) (nI (EC v h2)) (tH D) (u1.1 37) := by subst hu2; exact funext fun j => uA_own _ _ _ _
    have hQ2 : HM u2.2.2 := by rw [u2P]; exact hQ1
    rw [rM_61 hQ2, cG_t (show inb (1 : Int32) (kM 41).2 = true by rw [kM_41]; decide), show (1 : Int32).toNatClampNeg = 1 from rfl, codeM_eq]
    unfold cL
    generalize hu3 : uI u2 41 1 (cdI h2 m2 c2) = u3
    have u3P : u3.2 = u1.2 := by subst hu3; exact u2P
    have u3r : ∀ k, k ≠ 37 → k ≠ 41 → u3.1 k = u1.1 k := fun k q r => by subst hu3; rw [uI_row _ _ r, u2r k q]
    have hQ3 : HM u3.2.2 := by rw [u3P]; exact hQ1
    have g3 : frM u1 u3 := ⟨fun j _ _ _ _ => by rw [u3r 0 (by decide) (by decide)], fun k p1 p2 p3 p4 p5 p6 p7 p8 => u3r k p5 p8⟩
    have hM3 : TM li D u3 := TM_M w1 u3P g3
    have h35 : u3.1 35 g = hC v g := by rw [u3r 35 (by decide) (by decide)]; exact (b4 g hg).1
    constructor
    · intro hb
      dsimp only
      rw [show (3 : Int32) = nI 3 from rfl, cC_t (ends_no (h := h) (g := g) (m := m) (k := 3) hQ3 (by omega) (by rw [h35]; exact hb)), if_pos rfl, e134]
      exact ⟨u3, hM3, frM_trans f1 g3, rfl⟩
    · intro hb
      have hcp : F_X10_copy 230 226 s = some (cpC 230 226 s) := copy_eq hPs (by decide) (by decide) (by omega)
      have hPc : HC (cpC 230 226 s).2.2 := hPs
      have hWc : RW (cpC 230 226 s).1 230 (u1.1 37) (n + 1) := copy_keep hWs
      have dk := drumByDay_eq (w := 230) (t := n + 1) (h := h2) (m := m2) (c := c2) (E := EC v h2) (σ := cpC 230 226 s) hPc (by decide) (by omega) (by omega) hc2 EC_lt q3 hWc.2.1
      have hk := day_keep (h := h2) (m := m2) (c := c2) (E := EC v h2) (H := tH D) hWc (by omega) (by omega) hc2 EC_lt d1 (by rw [← hC_EC]; exact (b4 h2 hh2).2) q3
      have hl2e : sndC 230 h2 m2 (nI c2) (nI (EC v h2)) (dayC 230 (n + 1) h2 m2 c2 (EC v h2) (cpC 230 226 s)) = hl2 (n + 1) h2 m2 c2 v s := rfl
      rw [hl2e] at dk hk
      rw [if_neg q1, if_pos q2, rC_1_3 hPs (c := 224) (by decide), rC_1_2 hPs (c := 224) (by decide), hcp]
      simp only [Option.bind_some]
      rw [rC_1_3 hPc (c := 224) (by decide), hearersOf_eq]
      simp only [Option.bind_some]
      rw [hC_EC, dk]
      simp only [Option.bind_some]
      generalize hs2 : hl2 (n + 1) h2 m2 c2 v s = x2 at hk ⊢
      have x2P : x2.2 = s.2 := by subst hs2; exact hl2_2
      have x2r : ∀ k, ¬ (230 ≤ k ∧ k < 234) → x2.1 k = s.1 k := fun k q => by subst hs2; exact hl2_row q
      have hPx : HC x2.2.2 := by rw [x2P]; exact hPs
      rw [rC_1_0 hPx (c := 224) (by decide), codeC_eq hc2]
      simp only [Option.bind_some]
      rw [cG_t (show inb (1 : Int32) (kC (224 + 1)).2 = true by rw [k225]; decide)]
      simp only [show (224 + 1 : Nat) = 225 from rfl]
      generalize hs3 : uI x2 225 1 (cdI h2 m2 c2) = x3
      have x3P : x3.2 = s.2 := by subst hs3; exact x2P
      have x3r : ∀ k, k ≠ 225 → x3.1 k = x2.1 k := fun k q => by subst hs3; exact uI_row _ _ q
      have hPy : HC x3.2.2 := by rw [x3P]; exact hPs
      have hW3 : RW x3.1 230 (u3.1 37) (n + 2) := by
        have : u3.1 37 = rowDS (n + 1) h2 m2 (nI c2) (nI (EC v h2)) (tH D) (u1.1 37) := by subst hu3; rw [uI_row _ _ (by decide)]; exact u2o
        rw [this]
        exact RW_same hk (fun k q1 q2 => x3r k (by omega))
      have ht2 := (Rat_ok ht).2
      have e8 : x3.1 t 8 = nI (tO D) := by rw [x3r t (by omega), x2r t (by omega)]; exact s1.1.2.1.2.2.1
      have e55 : u3.1 0 55 = nI (tO D) := by rw [u3r 0 (by decide) (by decide)]; exact b3
      obtain ⟨c, y1, y2⟩ := ends_both (tx := t) (h := h) (k := 3) hW3 hQ3 (show g < 6 by omega) (show m < 4 by omega) d4 (by decide) (by decide) e55 e8 (by rw [h35]; exact hb)
      rw [rC_1_0 hPy (c := 224) (by decide), rC_1_3 hPy (c := 224) (by decide), y1]
      simp only [Option.bind_some]
      rw [cG_t (show inb (2 : Int32) (kC (224 + 1)).2 = true by rw [k225]; decide), show (2 : Int32).toNatClampNeg = 2 from rfl]
      simp only [show (224 + 1 : Nat) = 225 from rfl]
      generalize hs4 : uI x3 225 2 c = x4
      have x4P : x4.2 = s.2 := by subst hs4; exact x3P
      have x4r : ∀ k, k ≠ 225 → x4.1 k = x3.1 k := fun k q => by subst hs4; exact uI_row _ _ q
      have hPz : HC x4.2.2 := by rw [x4P]; exact hPs
      have v2 : x4.1 225 2 = c := by subst hs4; rw [uI_I, if_pos ⟨rfl, rfl⟩]
      have v1 : x4.1 225 1 = cdI h2 m2 c2 := by subst hs4; rw [uI_ne _ _ (by omega)]; subst hs3; rw [uI_I, if_pos ⟨rfl, rfl⟩]
      have v0 : x4.1 225 0 = cdI h m 0 := by subst hs4; rw [uI_ne _ _ (by omega)]; subst hs3; rw [uI_ne _ _ (by omega), x2r 225 (by omega)]; exact s5
      rw [rC_1_0 hPz (c := 224) (by decide), cG_t (show inb (2 : Int32) (kC (224 + 1)).2 = true by rw [k225]; decide), show (224 + 1 : Nat) = 225 from rfl, v2]
      unfold F_X1_seekSecond_179 cL
      rw [show (3 : Int32) = nI 3 from rfl]
      have z1 : ∀ y, TC t D (uI x4 224 1 y) := fun y => TC_fr s1 (by rw [uI_2, x4P]) (fun k q1 q2 => by rw [uI_row _ _ (by omega), x4r k (by omega), x3r k (by omega), x2r k (by omega)])
      have z2 : ∀ y, frC t σ (uI x4 224 1 y) := fun y => frC_trans s2 ⟨by rw [uI_2, x4P], fun k _ _ q => by rw [uI_row _ _ (by omega), x4r k (by omega), x3r k (by omega), x2r k (by omega)]⟩
      rcases y2 with ⟨c1, c2'⟩ | ⟨c1, c2', c3⟩
      · refine ⟨uI x4 224 1 0, u3, ?_, Or.inl ⟨⟨z1 _, z2 _, ?_, ?_, ?_⟩, hM3, frM_trans f1 g3, ?_⟩⟩
        · rw [if_pos c1]
          exact e182 _
        · rw [uI_I, if_pos ⟨rfl, rfl⟩]
        · intro k q1 q2
          rw [uI_row _ _ (by omega), x4r k (by omega), x3r k (by omega), x2r k (by omega)]
          exact s4 k q1 q2
        · rw [uI_row _ _ (by decide)]
          exact v0
        · rw [cC_t c2', if_pos rfl, e134]
      · refine ⟨uI x4 224 1 (nI 3), uI (uI u3 41 (3 - 1) c) 0 62 (nI 3), ?_, Or.inr ⟨⟨z1 _, z2 _, ?_, ?_, 3, Or.inr rfl, ?_, ?_, ?_⟩, ?_⟩⟩
        · rw [if_neg c1]
          exact e182 _
        · exact TM_M hM3 rfl ⟨fun j _ _ _ q => by rw [uI_ne _ _ (by omega), uI_ne _ _ (by omega)], fun k p1 p2 p3 p4 p5 p6 p7 p8 => by rw [uI_row _ _ p1, uI_row _ _ p8]⟩
        · exact frM_trans f1 (frM_trans g3 ⟨fun j _ _ _ q => by rw [uI_ne _ _ (by omega), uI_ne _ _ (by omega)], fun k p1 p2 p3 p4 p5 p6 p7 p8 => by rw [uI_row _ _ p1, uI_row _ _ p8]⟩)
        · rw [uI_I, if_pos ⟨rfl, rfl⟩]
        · rw [uI_I, if_pos ⟨rfl, rfl⟩]
        · intro i hi
          have r0 : u3.1 41 0 = cdI h m 0 := by subst hu3; rw [uI_ne _ _ (by omega), u2r 41 (by decide)]; exact b5
          have r1 : u3.1 41 1 = cdI h2 m2 c2 := by subst hu3; rw [uI_I, if_pos ⟨rfl, rfl⟩]
          rw [uI_row _ _ (show (225 : Nat) ≠ 224 by decide), uI_row _ _ (show (41 : Nat) ≠ 0 by decide)]
          rcases (show i = 0 ∨ i = 1 ∨ i = 2 by omega) with q | q | q <;> subst q
          · rw [v0, uI_ne _ _ (by omega), r0]
            exact ⟨rfl, cd_pos (by omega) (by omega) (by decide)⟩
          · rw [v1, uI_ne _ _ (by omega), r1]
            exact ⟨rfl, cd_pos (by omega) (by omega) hc2⟩
          · rw [v2, uI_I, if_pos ⟨rfl, rfl⟩]
            exact ⟨rfl, c2'⟩
        · rw [cC_t c3, if_neg ne_10]
theorem hlF_ne {t li : Nat} {D : TxD} {σ τ s u : hSt} (h : hlF t li D σ τ s u) : ¬ s.1 224 1 = 0 := by
  obtain ⟨-, -, -, -, k, hk, e, -⟩ := h
  rw [e]
  rcases hk with q | q <;> subst q <;> decide
theorem sec_c {n d h g m t li h2 m2 : Nat} {D : TxD} {σ τ s u : hSt} {v : Int64} (hD : TXok D) (ht : Rat t σ.2.2) (hT : TC t D σ) (hW0 : RW σ.1 44 (τ.1 36) n) (h120 : τ.1 36 120 = nI d) (hd : d < 2 ^ 30) (hv : earJ D d v) (hh : h < tH D) (hg : g < tH D) (hm : m < tM D) (hh2 : h2 < tH D) (hm2 : m2 < tM D) (hA : F_X10_isAble 44 (nI h) (nI m) σ = some 1) (hX : F_X10_isAnswer 44 (nI (tO D)) (nI h) (nI m) 0 σ = some 0) (hs : hlI n h m t v D σ s) (hM : TM li D u) (hf : frM τ u) (hb : ¬ ((hC v g) >>> (nI h &&& 31)) &&& (1 : Int32) = 0) :
    ∃ s' u', F_X1_seekSecond_41 224 t (nI g) (nI m) v (nI h2) (nI m2) 0 s = some (.inl (nI (m2 + 1), s')) ∧
      ((hlI n h m t v D σ s' ∧ TM li D u' ∧ frM τ u' ∧ F_X12_findsHole_61 0 (nI h) (nI g) (nI m) (nI h2) (nI m2) 0 u = some (.inl (nI (m2 + 1), u'))) ∨ (hlF t li D σ τ s' u' ∧ F_X12_findsHole_61 0 (nI h) (nI g) (nI m) (nI h2) (nI m2) 0 u = some (.inr (.inr (1, u'))))) := by
  have e188 : ∀ s, F_X1_seekSecond_188 224 t (nI g) (nI m) v (nI h2) (nI m2) s = some (.inl (nI (m2 + 1), s)) := fun s => by
    unfold F_X1_seekSecond_188 cL
    rw [nI_1]
  unfold F_X1_seekSecond_41 F_X12_findsHole_61
  have main : ∃ x y, lp (S_X1_seekSecond_41 224 t (nI g) (nI m) v (nI h2) (nI m2)) fuel (0, s) = some x ∧ lp (S_X12_findsHole_61 0 (nI h) (nI g) (nI m) (nI h2) (nI m2)) fuel (0, u) = some y ∧ (fun (x : (Int32 × hSt) ⊕ ((Int32 × hSt) ⊕ (hSt))) (y : (Int32 × hSt) ⊕ ((Int32 × hSt) ⊕ (Int32 × hSt))) => ∃ s' u', x = .inl (nI (m2 + 1), s') ∧ ((hlI n h m t v D σ s' ∧ TM li D u' ∧ frM τ u' ∧ y = .inl (nI (m2 + 1), u')) ∨ (hlF t li D σ τ s' u' ∧ y = .inr (.inr (1, u'))))) x y := by
    refine lp_two2 2 (by rw [fuel_v]; decide) (fun i a c => a.1 = nI i ∧ c.1 = nI i ∧ hlI n h m t v D σ a.2 ∧ TM li D c.2 ∧ frM τ c.2) _ ⟨rfl, rfl, hs, hM, hf⟩ (fun i a c hi hac => ?_)
    obtain ⟨l8, s1⟩ := a
    obtain ⟨l8', u1⟩ := c
    obtain ⟨a1, a2, a3, a4, a5⟩ := hac
    dsimp only at a1 a2 a3 a4 a5
    subst a1 a2
    by_cases hlt : i < 2
    · obtain ⟨s', u', w1, w2⟩ := (sec_step (h2 := h2) (m2 := m2) (c2 := i) hD ht hT hW0 h120 hd hv hh hg hm hh2 hm2 hlt hA hX a3 a4 a5).2 hb
      have stp : S_X1_seekSecond_41 224 t (nI g) (nI m) v (nI h2) (nI m2) (nI i, s1) = some (.inl (nI (i + 1), s')) := by
        unfold S_X1_seekSecond_41 F_X1_seekSecond_41b
        dsimp only
        rw [if_neg (show ¬ (2 : Int32) ≤ nI i from nI_ge (b := 2) hlt (by decide)), if_pos a3.2.2.1]
        rcases (show i = 0 ∨ i = 1 by omega) with q | q <;> subst q
        · rw [if_neg (show ¬ nI 0 = 1 by decide)]
          exact w1
        · rw [if_pos (show nI 1 = 1 from rfl)]
          exact w1
      rcases w2 with ⟨x1, x2, x3, x4⟩ | ⟨x1, x2⟩
      · exact Or.inl ⟨_, _, hlt, stp, x4, rfl, rfl, x1, x2, x3⟩
      · refine Or.inr ⟨.inl (nI (m2 + 1), s'), .inr (.inr (1, u')), fun k => ?_, fun k => ?_, s', u', rfl, Or.inr ⟨x1, rfl⟩⟩
        · rw [lp_inl stp]
          refine lp_inr ?_
          unfold S_X1_seekSecond_41 F_X1_seekSecond_41b
          dsimp only
          rw [if_neg (hlF_ne x1), e188]
          split <;> rfl
        · exact lp_inr x2
    · have : i = 2 := by omega
      subst this
      refine Or.inr ⟨.inl (nI (m2 + 1), s1), .inl (nI (m2 + 1), u1), fun k => lp_inr ?_, fun k => lp_inr ?_, s1, u1, rfl, Or.inl ⟨a3, a4, a5, rfl⟩⟩
      · unfold S_X1_seekSecond_41 F_X1_seekSecond_41b
        dsimp only
        rw [if_pos (show (2 : Int32) ≤ nI 2 by decide), e188]
        rfl
      · unfold S_X12_findsHole_61 F_X12_findsHole_61b cL
        dsimp only
        rw [if_pos (show (2 : Int32) ≤ nI 2 by decide), nI_1]
  obtain ⟨x, y, g1, g2, s', u', g3, g4⟩ := main
  subst g3
  refine ⟨s', u', g1, ?_⟩
  rcases g4 with ⟨q1, q2, q3, q4⟩ | ⟨q1, q4⟩
  · subst q4
    exact Or.inl ⟨q1, q2, q3, g2⟩
  · subst q4
    exact Or.inr ⟨q1, g2⟩
theorem holeM_27 {li : Nat} {D : TxD} {u : hSt} (hM : TM li D u) {h g m : Int32} {h2 : Nat} (hh : h2 < 2 ^ 30) (hH : tH D ≤ 6) : S_X12_findsHole_27 0 h g m (nI h2, u) = if h2 < tH D then F_X12_findsHole_44 0 h g m (nI h2) 0 u else some (.inr (0, u)) := by
  unfold S_X12_findsHole_27 F_X12_findsHole_27b
  dsimp only
  rw [rM_24 hM.1, hM.2.1.1, cG_t (inb_nI (by rw [kM_11]; exact hM.2.1.2) (by decide)), cl_nI (by have := hM.2.1.2; omega), hM.2.2.1.1]
  by_cases q : h2 < tH D
  · rw [if_pos q, if_neg (nI_ge q (by omega))]
  · rw [if_neg q, if_pos (nI_le (by omega) (by omega))]
theorem holeM_44 {li : Nat} {D : TxD} {u : hSt} (hM : TM li D u) {h g m : Int32} {h2 m2 : Nat} (hh : m2 < 2 ^ 30) (hH : tM D ≤ 4) : S_X12_findsHole_44 0 h g m (nI h2) (nI m2, u) = if m2 < tM D then F_X12_findsHole_61 0 h g m (nI h2) (nI m2) 0 u else some (.inr (.inl (nI (h2 + 1), u))) := by
  unfold S_X12_findsHole_44 F_X12_findsHole_44b cL
  dsimp only
  rw [rM_27 hM.1, hM.2.1.1, cG_t (inb_nI (by rw [kM_14]; exact hM.2.1.2) (by decide)), cl_nI (by have := hM.2.1.2; omega), hM.2.2.1.2.1]
  by_cases q : m2 < tM D
  · rw [if_pos q, if_neg (nI_ge q (by omega))]
  · rw [if_neg q, if_pos (nI_le (by omega) (by omega)), nI_1]
theorem sec_m {n d h g m t li h2 : Nat} {D : TxD} {σ τ s u : hSt} {v : Int64} (hD : TXok D) (ht : Rat t σ.2.2) (hT : TC t D σ) (hW0 : RW σ.1 44 (τ.1 36) n) (h120 : τ.1 36 120 = nI d) (hd : d < 2 ^ 30) (hv : earJ D d v) (hh : h < tH D) (hg : g < tH D) (hm : m < tM D) (hh2 : h2 < tH D) (hA : F_X10_isAble 44 (nI h) (nI m) σ = some 1) (hX : F_X10_isAnswer 44 (nI (tO D)) (nI h) (nI m) 0 σ = some 0) (hs : hlI n h m t v D σ s) (hM : TM li D u) (hf : frM τ u) (hb : ¬ ((hC v g) >>> (nI h &&& 31)) &&& (1 : Int32) = 0) :
    ∃ s' u', F_X1_seekSecond_22 224 t (nI g) (nI m) v (nI h2) 0 s = some (.inl (nI (h2 + 1), s')) ∧
      ((hlI n h m t v D σ s' ∧ TM li D u' ∧ frM τ u' ∧ F_X12_findsHole_44 0 (nI h) (nI g) (nI m) (nI h2) 0 u = some (.inl (nI (h2 + 1), u'))) ∨ (hlF t li D σ τ s' u' ∧ F_X12_findsHole_44 0 (nI h) (nI g) (nI m) (nI h2) 0 u = some (.inr (1, u')))) := by
  have d2 := hD.2.1
  have e194 : ∀ s, F_X1_seekSecond_194 224 t (nI g) (nI m) v (nI h2) s = some (.inl (nI (h2 + 1), s)) := fun s => by
    unfold F_X1_seekSecond_194 cL
    rw [nI_1]
  unfold F_X1_seekSecond_22 F_X12_findsHole_44
  have main : ∃ x y, lp (S_X1_seekSecond_22 224 t (nI g) (nI m) v (nI h2)) fuel (0, s) = some x ∧ lp (S_X12_findsHole_44 0 (nI h) (nI g) (nI m) (nI h2)) fuel (0, u) = some y ∧ (fun (x : (Int32 × hSt) ⊕ (hSt)) (y : (Int32 × hSt) ⊕ (Int32 × hSt)) => ∃ s' u', x = .inl (nI (h2 + 1), s') ∧ ((hlI n h m t v D σ s' ∧ TM li D u' ∧ frM τ u' ∧ y = .inl (nI (h2 + 1), u')) ∨ (hlF t li D σ τ s' u' ∧ y = .inr (1, u')))) x y := by
    refine lp_two2 (tM D) (by rw [fuel_v]; omega) (fun i a c => a.1 = nI i ∧ c.1 = nI i ∧ hlI n h m t v D σ a.2 ∧ TM li D c.2 ∧ frM τ c.2) _ ⟨rfl, rfl, hs, hM, hf⟩ (fun i a c hi hac => ?_)
    obtain ⟨l8, s1⟩ := a
    obtain ⟨l8', u1⟩ := c
    obtain ⟨a1, a2, a3, a4, a5⟩ := hac
    dsimp only at a1 a2 a3 a4 a5
    subst a1 a2
    by_cases hlt : i < tM D
    · obtain ⟨s', u', w1, w2⟩ := sec_c (h2 := h2) (m2 := i) hD ht hT hW0 h120 hd hv hh hg hm hh2 hlt hA hX a3 a4 a5 hb
      have stp : S_X1_seekSecond_22 224 t (nI g) (nI m) v (nI h2) (nI i, s1) = some (.inl (nI (i + 1), s')) := by
        unfold S_X1_seekSecond_22 F_X1_seekSecond_22b
        dsimp only
        rw [TC_M _ a3.1, if_neg (nI_ge hlt (by omega)), if_pos a3.2.2.1]
        exact w1
      have stm := holeM_44 a4 (h := nI h) (g := nI g) (m := nI m) (h2 := h2) (m2 := i) (by omega) d2
      rw [if_pos hlt] at stm
      rcases w2 with ⟨x1, x2, x3, x4⟩ | ⟨x1, x2⟩
      · exact Or.inl ⟨_, _, hlt, stp, stm.trans x4, rfl, rfl, x1, x2, x3⟩
      · refine Or.inr ⟨.inl (nI (h2 + 1), s'), .inr (1, u'), fun k => ?_, fun k => lp_inr (stm.trans x2), s', u', rfl, Or.inr ⟨x1, rfl⟩⟩
        rw [lp_inl stp]
        refine lp_inr ?_
        unfold S_X1_seekSecond_22 F_X1_seekSecond_22b
        dsimp only
        rw [if_neg (hlF_ne x1), e194]
        split <;> rfl
    · have stm := holeM_44 a4 (h := nI h) (g := nI g) (m := nI m) (h2 := h2) (m2 := i) (by omega) d2
      rw [if_neg hlt] at stm
      refine Or.inr ⟨.inl (nI (h2 + 1), s1), .inl (nI (h2 + 1), u1), fun k => lp_inr ?_, fun k => lp_inr stm, s1, u1, rfl, Or.inl ⟨a3, a4, a5, rfl⟩⟩
      unfold S_X1_seekSecond_22 F_X1_seekSecond_22b
      dsimp only
      rw [TC_M _ a3.1, if_pos (nI_le (by omega) (by omega)), e194]
      rfl
  obtain ⟨x, y, g1, g2, s', u', g3, g4⟩ := main
  subst g3
  refine ⟨s', u', g1, ?_⟩
  rcases g4 with ⟨q1, q2, q3, q4⟩ | ⟨q1, q4⟩
  · subst q4
    exact Or.inl ⟨q1, q2, q3, g2⟩
  · subst q4
    exact Or.inr ⟨q1, g2⟩
theorem sec_h {n d h g m t li : Nat} {D : TxD} {σ τ s u : hSt} {v : Int64} (hD : TXok D) (ht : Rat t σ.2.2) (hT : TC t D σ) (hW0 : RW σ.1 44 (τ.1 36) n) (h120 : τ.1 36 120 = nI d) (hd : d < 2 ^ 30) (hv : earJ D d v) (hh : h < tH D) (hg : g < tH D) (hm : m < tM D) (hA : F_X10_isAble 44 (nI h) (nI m) σ = some 1) (hX : F_X10_isAnswer 44 (nI (tO D)) (nI h) (nI m) 0 σ = some 0) (hs : hlI n h m t v D σ s) (hM : TM li D u) (hf : frM τ u) (hb : ¬ ((hC v g) >>> (nI h &&& 31)) &&& (1 : Int32) = 0) :
    ∃ s' u', F_X1_seekSecond 224 t (nI g) (nI m) v s = some s' ∧
      ((hlI n h m t v D σ s' ∧ TM li D u' ∧ frM τ u' ∧ F_X12_findsHole_27 0 (nI h) (nI g) (nI m) 0 u = some (0, u')) ∨ (hlF t li D σ τ s' u' ∧ F_X12_findsHole_27 0 (nI h) (nI g) (nI m) 0 u = some (1, u'))) := by
  have d1 := hD.1
  have e200 : ∀ s, F_X1_seekSecond_200 s = some s := fun s => rfl
  unfold F_X1_seekSecond F_X1_seekSecond_3 F_X12_findsHole_27
  have main : ∃ x y, lp (S_X1_seekSecond_3 224 t (nI g) (nI m) v) fuel (0, s) = some x ∧ lp (S_X12_findsHole_27 0 (nI h) (nI g) (nI m)) fuel (0, u) = some y ∧ (fun (x : hSt) (y : Int32 × hSt) => ((hlI n h m t v D σ x ∧ TM li D y.2 ∧ frM τ y.2 ∧ y.1 = 0) ∨ (hlF t li D σ τ x y.2 ∧ y.1 = 1))) x y := by
    refine lp_two2 (tH D) (by rw [fuel_v]; omega) (fun i a c => a.1 = nI i ∧ c.1 = nI i ∧ hlI n h m t v D σ a.2 ∧ TM li D c.2 ∧ frM τ c.2) _ ⟨rfl, rfl, hs, hM, hf⟩ (fun i a c hi hac => ?_)
    obtain ⟨l8, s1⟩ := a
    obtain ⟨l8', u1⟩ := c
    obtain ⟨a1, a2, a3, a4, a5⟩ := hac
    dsimp only at a1 a2 a3 a4 a5
    subst a1 a2
    by_cases hlt : i < tH D
    · obtain ⟨s', u', w1, w2⟩ := sec_m (h2 := i) hD ht hT hW0 h120 hd hv hh hg hm hlt hA hX a3 a4 a5 hb
      have stp : S_X1_seekSecond_3 224 t (nI g) (nI m) v (nI i, s1) = some (.inl (nI (i + 1), s')) := by
        unfold S_X1_seekSecond_3 F_X1_seekSecond_3b
        dsimp only
        rw [a3.1.1.2.1.1, if_neg (nI_ge hlt (by omega)), if_pos a3.2.2.1]
        exact w1
      have stm := holeM_27 a4 (h := nI h) (g := nI g) (m := nI m) (h2 := i) (by omega) d1
      rw [if_pos hlt] at stm
      rcases w2 with ⟨x1, x2, x3, x4⟩ | ⟨x1, x2⟩
      · exact Or.inl ⟨_, _, hlt, stp, stm.trans x4, rfl, rfl, x1, x2, x3⟩
      · refine Or.inr ⟨s', (1, u'), fun k => ?_, fun k => lp_inr (stm.trans x2), Or.inr ⟨x1, rfl⟩⟩
        rw [lp_inl stp]
        refine lp_inr ?_
        unfold S_X1_seekSecond_3 F_X1_seekSecond_3b
        dsimp only
        rw [if_neg (hlF_ne x1), e200]
        split <;> rfl
    · have stm := holeM_27 a4 (h := nI h) (g := nI g) (m := nI m) (h2 := i) (by omega) d1
      rw [if_neg hlt] at stm
      refine Or.inr ⟨s1, (0, u1), fun k => lp_inr ?_, fun k => lp_inr stm, Or.inl ⟨a3, a4, a5, rfl⟩⟩
      unfold S_X1_seekSecond_3 F_X1_seekSecond_3b
      dsimp only
      rw [a3.1.1.2.1.1, if_pos (nI_le (by omega) (by omega)), e200]
      rfl
  obtain ⟨x, ⟨y1, y2⟩, g1, g2, g4⟩ := main
  refine ⟨x, y2, g1, ?_⟩
  dsimp only at g4
  rcases g4 with ⟨q1, q2, q3, q4⟩ | ⟨q1, q4⟩
  · subst q4
    exact Or.inl ⟨q1, q2, q3, g2⟩
  · subst q4
    exact Or.inr ⟨q1, g2⟩
/-- nothing heard: the model walks to the end and finds none -/
theorem sec_no {n d h g m t li : Nat} {D : TxD} {σ τ s u : hSt} {v : Int64} (hD : TXok D) (ht : Rat t σ.2.2) (hT : TC t D σ) (hW0 : RW σ.1 44 (τ.1 36) n) (h120 : τ.1 36 120 = nI d) (hd : d < 2 ^ 30) (hv : earJ D d v) (hh : h < tH D) (hg : g < tH D) (hm : m < tM D) (hA : F_X10_isAble 44 (nI h) (nI m) σ = some 1) (hX : F_X10_isAnswer 44 (nI (tO D)) (nI h) (nI m) 0 σ = some 0) (hs : hlI n h m t v D σ s) (hM : TM li D u) (hf : frM τ u) (hb : ((hC v g) >>> (nI h &&& 31)) &&& (1 : Int32) = 0) :
    ∃ u', TM li D u' ∧ frM τ u' ∧ F_X12_findsHole_27 0 (nI h) (nI g) (nI m) 0 u = some (0, u') := by
  have d1 := hD.1
  have d2 := hD.2.1
  have L1 : ∀ h2 m2 u, h2 < tH D → m2 < tM D → TM li D u → frM τ u → ∃ u', TM li D u' ∧ frM τ u' ∧ F_X12_findsHole_61 0 (nI h) (nI g) (nI m) (nI h2) (nI m2) 0 u = some (.inl (nI (m2 + 1), u')) := fun h2 m2 u hh2 hm2 hM hf => by
    unfold F_X12_findsHole_61
    obtain ⟨x, w1, u', w2, w3, w4⟩ := lp_go (s := S_X12_findsHole_61 0 (nI h) (nI g) (nI m) (nI h2) (nI m2)) (v := (0, u)) 2 (by rw [fuel_v]; decide) (fun i a => a.1 = nI i ∧ TM li D a.2 ∧ frM τ a.2) (fun x => ∃ u', TM li D u' ∧ frM τ u' ∧ x = .inl (nI (m2 + 1), u')) ⟨rfl, hM, hf⟩ (fun i a hi ha => by
      obtain ⟨l8, u1⟩ := a
      obtain ⟨a1, a2, a3⟩ := ha
      dsimp only at a1 a2 a3
      subst a1
      by_cases hlt : i < 2
      · obtain ⟨u', x1, x2, x3⟩ := (sec_step (h2 := h2) (m2 := m2) (c2 := i) hD ht hT hW0 h120 hd hv hh hg hm hh2 hm2 hlt hA hX hs a2 a3).1 hb
        exact Or.inl ⟨_, hlt, x3, rfl, x1, x2⟩
      · have : i = 2 := by omega
        subst this
        refine Or.inr ⟨.inl (nI (m2 + 1), u1), ?_, u1, a2, a3, rfl⟩
        unfold S_X12_findsHole_61 F_X12_findsHole_61b cL
        dsimp only
        rw [if_pos (show (2 : Int32) ≤ nI 2 by decide), nI_1])
    exact ⟨u', w2, w3, by rw [w1, w4]⟩
  have L2 : ∀ h2 u, h2 < tH D → TM li D u → frM τ u → ∃ u', TM li D u' ∧ frM τ u' ∧ F_X12_findsHole_44 0 (nI h) (nI g) (nI m) (nI h2) 0 u = some (.inl (nI (h2 + 1), u')) := fun h2 u hh2 hM hf => by
    unfold F_X12_findsHole_44
    obtain ⟨x, w1, u', w2, w3, w4⟩ := lp_go (s := S_X12_findsHole_44 0 (nI h) (nI g) (nI m) (nI h2)) (v := (0, u)) (tM D) (by rw [fuel_v]; omega) (fun i a => a.1 = nI i ∧ TM li D a.2 ∧ frM τ a.2) (fun x => ∃ u', TM li D u' ∧ frM τ u' ∧ x = .inl (nI (h2 + 1), u')) ⟨rfl, hM, hf⟩ (fun i a hi ha => by
      obtain ⟨l8, u1⟩ := a
      obtain ⟨a1, a2, a3⟩ := ha
      dsimp only at a1 a2 a3
      subst a1
      have stm := holeM_44 a2 (h := nI h) (g := nI g) (m := nI m) (h2 := h2) (m2 := i) (by omega) d2
      by_cases hlt : i < tM D
      · obtain ⟨u', x1, x2, x3⟩ := L1 h2 i u1 hh2 hlt a2 a3
        rw [if_pos hlt, x3] at stm
        exact Or.inl ⟨_, hlt, stm, rfl, x1, x2⟩
      · rw [if_neg hlt] at stm
        exact Or.inr ⟨_, stm, u1, a2, a3, rfl⟩)
    exact ⟨u', w2, w3, by rw [w1, w4]⟩
  unfold F_X12_findsHole_27
  obtain ⟨x, w1, u', w2, w3, w4⟩ := lp_go (s := S_X12_findsHole_27 0 (nI h) (nI g) (nI m)) (v := (0, u)) (tH D) (by rw [fuel_v]; omega) (fun i a => a.1 = nI i ∧ TM li D a.2 ∧ frM τ a.2) (fun x => ∃ u', TM li D u' ∧ frM τ u' ∧ x = (0, u')) ⟨rfl, hM, hf⟩ (fun i a hi ha => by
    obtain ⟨l8, u1⟩ := a
    obtain ⟨a1, a2, a3⟩ := ha
    dsimp only at a1 a2 a3
    subst a1
    have stm := holeM_27 a2 (h := nI h) (g := nI g) (m := nI m) (h2 := i) (by omega) d1
    by_cases hlt : i < tH D
    · obtain ⟨u', x1, x2, x3⟩ := L2 i u1 hlt a2 a3
      rw [if_pos hlt, x3] at stm
      exact Or.inl ⟨_, hlt, stm, rfl, x1, x2⟩
    · rw [if_neg hlt] at stm
      exact Or.inr ⟨_, stm, u1, a2, a3, rfl⟩)
  exact ⟨u', w2, w3, by rw [w1, w4]⟩
/-- the search, in both -/
theorem seek_both {b t li h g m : Nat} {D : TxD} {σ τ : hSt} (hD : TXok D) (ht : Rat t σ.2.2) (hT : TC t D σ) (hM : TM li D τ) (hR : Rst (tH D) (tM D) b σ τ) (hb : b < 2 ^ 30) (hh : h < tH D) (hg : g < tH D) (hm : m < tM D) :
    ∃ s u, F_X1_seek 224 t 44 (nI h) (nI g) (nI m) σ = some s ∧
      ((TC t D s ∧ frC t σ s ∧ TM li D u ∧ frM τ u ∧ s.1 224 1 = 0 ∧ F_X12_findsHole 0 (nI h) (nI g) (nI m) τ = some (0, u)) ∨ (hlF t li D σ τ s u ∧ F_X12_findsHole 0 (nI h) (nI g) (nI m) τ = some (1, u))) := by
  have d1 := hD.1
  have d2 := hD.2.1
  have d4 := hD.2.2.2.1
  obtain ⟨ht1, ht2⟩ := Rat_ok ht
  obtain ⟨n, d, hW, h120, hdb, hRH⟩ := hR.2.2.1
  have f0 : frC t σ (uI σ 224 1 0) := ⟨rfl, fun k _ _ q => uI_row _ _ (by omega)⟩
  have hT0 : TC t D (uI σ 224 1 0) := TC_fr hT rfl (fun k a b => uI_row _ _ (by omega))
  obtain ⟨v, σ1, y1, y2, y3, y4, y5⟩ := heardOn_eq hD ht1 hT0 (show d < 2 ^ 30 by omega)
  have f1 : frC t σ σ1 := frC_trans f0 (frm_frC y3 y4)
  have hP1 : HC σ1.2.2 := y2.1.1
  have ht' : Rat t σ1.2.2 := by rw [f1.1]; exact ht
  have hW1 : RW σ1.1 44 (τ.1 36) n := RW_same hW (fun k q1 q2 => f1.2 k (by omega) (by omega) (by omega))
  have v0 : σ1.1 224 1 = 0 := by rw [(y4 224 (by omega)).1, uI_I, if_pos ⟨rfl, rfl⟩]
  unfold F_X1_seek
  have e0 : (uI σ 224 1 0).1 44 0 = nI d := by rw [uI_row _ _ (by decide)]; exact hW.1.1.trans h120
  unfold cL
  dsimp only
  rw [e0, cC_t y1, hearersOf_eq]
  simp only [Option.bind_some]
  have e66 : ∀ s, F_X1_seek_66 s = some s := fun s => rfl
  unfold F_X12_findsHole
  obtain ⟨a, x, p1, p2, u1, w1, w2, w3⟩ := hole_b (σ := σ1) (τ := τ) (h := h) (m := m) hD y2 hM hW1 h120 (by omega) y5 hh hm
  have hbw : F_X1_seek_34 224 t 44 (nI h) (nI g) (nI m) v 0 σ1 = some σ1 := by
    unfold F_X1_seek_34
    rw [if_pos rfl, e66]
  have w30 : F_X1_seek_34 224 t 44 (nI h) (nI g) (nI m) v 1 σ1 = (if a = 0 then some σ1 else if x = 0 then
      (F_X10_copy 226 44 σ1).bind fun σ7 => cR (σ7.2.2 224 2) (okr kC NC 10) fun z8 => (F_X11_hearersOf v (nI h) σ7).bind fun v10 => (F_X10_drumByDay z8 (nI h) (nI m) (0 : Int32) v10 σ7).bind fun σ12 =>
      cR (σ12.2.2 224 0) (okr kC NC 101) fun z13 => (F_X1_codeOf (nI h) (nI m) (0 : Int32) σ12).bind fun v15 => cG (inb (0 : Int32) (kC z13).2) <| cL (uI σ12 z13 (0 : Int32).toNatClampNeg v15) fun σ17 =>
      cR (σ17.2.2 224 0) (okr kC NC 101) fun z18 => cR (σ17.2.2 224 2) (okr kC NC 10) fun z19 => (F_X1_lastDrum t z19 (nI g) (nI m) σ17).bind fun v21 =>
      cG (inb (1 : Int32) (kC z18).2) <| cL (uI σ17 z18 (1 : Int32).toNatClampNeg v21) fun σ23 => cR (σ23.2.2 224 0) (okr kC NC 101) fun z24 => cG (inb (1 : Int32) (kC z24).2) <|
      if (σ23.1 z24 (1 : Int32).toNatClampNeg) = (-1 : Int32) then (F_X1_seekSecond 224 t (nI g) (nI m) v σ23).bind fun σ27 => some (σ27) else cL (uI σ23 224 1 (2 : Int32)) fun σ28 => some (σ28) else some σ1) := by
    unfold F_X1_seek_34
    rw [if_neg ne_10, p1]
    simp only [Option.bind_some]
    by_cases ha : a = 0
    · rw [if_pos ha, if_pos ha, e66]
    · rw [if_neg ha, if_neg ha, y2.1.2.1.2.2.1, p2]
      simp only [Option.bind_some]
      by_cases hx : x = 0
      · rw [if_pos hx, if_pos hx, rC_1_2 hP1 (c := 224) (by decide)]
      · rw [if_neg hx, if_neg hx, e66]
  rcases w3 with ⟨q, q2⟩ | ⟨qa, qx, hn, b1, b2, b3, b4, b5⟩
  · refine ⟨σ1, u1, ?_, Or.inl ⟨y2, f1, w1, w2, v0, ?_⟩⟩
    · rw [hbw, w30]
      split
      · rfl
      · by_cases ha : a = 0
        · rw [if_pos ha]
        · rw [if_neg ha, if_neg (q.resolve_left ha)]
    · rw [cC_t q2, if_pos rfl]
  · have ea : a = 1 := by
      rw [ableC_eq hW1 (by omega) (by omega)] at p1
      have := Option.some.inj p1
      rw [if_pos hn] at this
      by_cases g : τ.1 36 (4 * h + m) = 1
      · rw [if_pos g] at this
        exact this.symm
      · rw [if_neg g] at this
        exact absurd this.symm qa
    subst ea qx
    have hQ1 : HM u1.2.2 := w1.1
    rw [cC_t b1, if_neg ne_10]
    have hP7 : HC (cpC 226 44 σ1).2.2 := hP1
    have hcp : F_X10_copy 226 44 σ1 = some (cpC 226 44 σ1) := copy_eq hP1 (by decide) (by decide) (by omega)
    have hWc : RW (cpC 226 44 σ1).1 226 (τ.1 36) n := copy_keep hW1
    have dk : F_X10_drumByDay (224 + 2) (nI h) (nI m) (0 : Int32) (nI (EC v h)) (cpC 226 44 σ1) = some (hlC n h m v σ1) := drumByDay_eq (w := 226) (t := n) (h := h) (m := m) (c := 0) (E := EC v h) (σ := cpC 226 44 σ1) hP7 (by decide) (by omega) (by omega) (by decide) EC_lt hn hWc.2.1
    obtain ⟨x2, hs2⟩ : ∃ x2, x2 = hlC n h m v σ1 := ⟨_, rfl⟩
    have x2P : x2.2 = σ1.2 := by subst hs2; exact hlC_2
    have x2r : ∀ k, ¬ (226 ≤ k ∧ k < 230) → x2.1 k = σ1.1 k := fun k q => by subst hs2; exact hlC_row q
    have hPx : HC x2.2.2 := by rw [x2P]; exact hP1
    obtain ⟨x3, hs3⟩ : ∃ x3, x3 = uI x2 225 0 (cdI h m 0) := ⟨_, rfl⟩
    have x3P : x3.2 = σ1.2 := by subst hs3; exact x2P
    have x3r : ∀ k, k ≠ 225 → x3.1 k = x2.1 k := fun k q => by subst hs3; exact uI_row _ _ q
    have hPy : HC x3.2.2 := by rw [x3P]; exact hP1
    rw [← hs2] at b2 dk
    have hW3 : RW x3.1 226 (u1.1 37) (n + 1) := RW_same b2 (fun k q1 q2 => x3r k (by omega))
    have e8 : x3.1 t 8 = nI (tO D) := by rw [x3r t (by omega), x2r t (by omega)]; exact y2.1.2.1.2.2.1
    have T3 : TC t D x3 := TC_fr y2 x3P (fun k q1 q2 => by rw [x3r k (by omega), x2r k (by omega)])
    have F3 : frC t σ1 x3 := ⟨by rw [x3P], fun k _ _ q => by rw [x3r k (by omega), x2r k (by omega)]⟩
    have v3 : x3.1 224 1 = 0 := by rw [x3r 224 (by decide), x2r 224 (by omega)]; exact v0
    have c0 : x3.1 225 0 = cdI h m 0 := by subst hs3; rw [uI_I, if_pos ⟨rfl, rfl⟩]
    have I3 : hlI n h m t v D σ1 x3 := ⟨T3, F3, v3, fun k q1 q2 => by rw [x3r k (by omega), hs2], c0⟩
    have h35 : u1.1 35 g = hC v g := (b4 g hg).1
    by_cases hb : ((hC v g) >>> (nI h &&& 31)) &&& (1 : Int32) = 0
    · rw [if_pos hb, hbw, show (2 : Int32) = nI 2 from rfl, cC_t (ends_no (h := h) (g := g) (m := m) (k := 2) hQ1 (by omega) (by rw [h35]; exact hb)), if_pos rfl]
      obtain ⟨u', g1, g2, g3⟩ := sec_no hD ht' y2 hW1 h120 (show d < 2 ^ 30 by omega) y5 hh hg hm p1 p2 I3 w1 w2 hb
      exact ⟨σ1, u', rfl, Or.inl ⟨y2, f1, g1, g2, v0, g3⟩⟩
    · obtain ⟨c, z1, z2⟩ := ends_both (tx := t) (h := h) (k := 2) hW3 hQ1 (show g < 6 by omega) (show m < 4 by omega) d4 (by decide) (by decide) b3 e8 (by rw [h35]; exact hb)
      rw [if_neg hb, w30, if_neg ne_10, if_pos rfl, hcp]
      simp only [Option.bind_some]
      rw [rC_1_2 hP7 (c := 224) (by decide), hearersOf_eq]
      simp only [Option.bind_some]
      rw [show hC v h = nI (EC v h) from hC_EC, dk]
      simp only [Option.bind_some]
      rw [rC_1_0 hPx (c := 224) (by decide), show F_X1_codeOf (nI h) (nI m) 0 x2 = some (cdI h m 0) from codeC_eq (c := 0) (by decide)]
      simp only [Option.bind_some]
      rw [cG_t (show inb (0 : Int32) (kC (224 + 1)).2 = true by rw [k225]; decide), show (0 : Int32).toNatClampNeg = 0 from rfl]
      simp only [show (224 + 1 : Nat) = 225 from rfl]
      unfold cL
      dsimp only
      rw [← hs3, rC_1_0 hPy (c := 224) (by decide), rC_1_2 hPy (c := 224) (by decide), show (224 + 2 : Nat) = 226 from rfl, z1]
      simp only [Option.bind_some]
      rw [cG_t (show inb (1 : Int32) (kC (224 + 1)).2 = true by rw [k225]; decide), show (1 : Int32).toNatClampNeg = 1 from rfl]
      simp only [show (224 + 1 : Nat) = 225 from rfl]
      obtain ⟨x4, hs4⟩ : ∃ x4, x4 = uI x3 225 1 c := ⟨_, rfl⟩
      have x4P : x4.2 = σ1.2 := by subst hs4; exact x3P
      have x4r : ∀ k, k ≠ 225 → x4.1 k = x3.1 k := fun k q => by subst hs4; exact uI_row _ _ q
      have hPz : HC x4.2.2 := by rw [x4P]; exact hP1
      have v1 : x4.1 225 1 = c := by subst hs4; rw [uI_I, if_pos ⟨rfl, rfl⟩]
      have v0' : x4.1 225 0 = cdI h m 0 := by subst hs4; rw [uI_ne _ _ (by omega)]; exact c0
      rw [← hs4, rC_1_0 hPz (c := 224) (by decide), cG_t (show inb (1 : Int32) (kC (224 + 1)).2 = true by rw [k225]; decide), show (224 + 1 : Nat) = 225 from rfl, v1]
      have T4 : TC t D x4 := TC_fr T3 (by rw [x4P, x3P]) (fun k q1 q2 => x4r k (by omega))
      have F4 : frC t σ1 x4 := frC_trans F3 ⟨by rw [x4P, x3P], fun k _ _ q => x4r k (by omega)⟩
      rcases z2 with ⟨c1, c2'⟩ | ⟨c1, c2', c3⟩
      · have I4 : hlI n h m t v D σ1 x4 := ⟨T4, F4, by rw [x4r 224 (by decide)]; exact v3, fun k q1 q2 => by rw [x4r k (by omega), x3r k (by omega), hs2], v0'⟩
        obtain ⟨s', u', g1, g2⟩ := sec_h hD ht' y2 hW1 h120 (show d < 2 ^ 30 by omega) y5 hh hg hm p1 p2 I4 w1 w2 hb
        rw [if_pos c1, g1, show (2 : Int32) = nI 2 from rfl, cC_t c2', if_pos rfl]
        refine ⟨s', u', rfl, ?_⟩
        rcases g2 with ⟨k1, k2, k3, k4⟩ | ⟨⟨k1, k2, k3, k4, k5⟩, k6⟩
        · exact Or.inl ⟨k1.1, frC_trans f1 k1.2.1, k2, k3, k1.2.2.1, k4⟩
        · exact Or.inr ⟨⟨k1, frC_trans f1 k2, k3, k4, k5⟩, k6⟩
      · rw [if_neg c1, show (2 : Int32) = nI 2 from rfl, cC_t c3, if_neg ne_10]
        refine ⟨uI x4 224 1 (nI 2), uI (uI u1 41 (2 - 1) c) 0 62 (nI 2), rfl, Or.inr ⟨⟨?_, ?_, ?_, ?_, 2, Or.inl rfl, ?_, ?_, ?_⟩, rfl⟩⟩
        · exact TC_fr T4 rfl (fun k q1 q2 => uI_row _ _ (by omega))
        · exact frC_trans f1 (frC_trans F4 ⟨rfl, fun k _ _ q => uI_row _ _ (by omega)⟩)
        · exact TM_M w1 rfl ⟨fun j _ _ _ q => by rw [uI_ne _ _ (by omega), uI_ne _ _ (by omega)], fun k p1 p2 p3 p4 p5 p6 p7 p8 => by rw [uI_row _ _ p1, uI_row _ _ p8]⟩
        · exact frM_trans w2 ⟨fun j _ _ _ q => by rw [uI_ne _ _ (by omega), uI_ne _ _ (by omega)], fun k p1 p2 p3 p4 p5 p6 p7 p8 => by rw [uI_row _ _ p1, uI_row _ _ p8]⟩
        · rw [uI_I, if_pos ⟨rfl, rfl⟩]
        · rw [uI_I, if_pos ⟨rfl, rfl⟩]
        · intro i hi
          rw [uI_row _ _ (show (225 : Nat) ≠ 224 by decide), uI_row _ _ (show (41 : Nat) ≠ 0 by decide)]
          rcases (show i = 0 ∨ i = 1 by omega) with q | q <;> subst q
          · rw [v0', uI_ne _ _ (by omega), b5]
            exact ⟨rfl, cd_pos (by omega) (by omega) (by decide)⟩
          · rw [v1, uI_I, if_pos ⟨rfl, rfl⟩]
            exact ⟨rfl, c2'⟩
theorem canHole_eq {b t li : Nat} {D : TxD} {σ τ : hSt} {x y z : Int32} (hD : TXok D) (ht : Rat t σ.2.2) (hT : TC t D σ) (hM : TM li D τ) (hR : Rst (tH D) (tM D) b σ τ) (hb : b < 2 ^ 30) :
    (F_X12_canHole 0 x y z τ = some 0 ∧ F_X11_loophole 0 x y z σ = some (-1, σ)) ∨
    (∃ h g m s u, F_X12_canHole 0 x y z τ = some 1 ∧ x = nI h ∧ y = nI g ∧ z = nI m ∧
      ((TC t D s ∧ frC t σ s ∧ TM li D u ∧ frM τ u ∧ F_X12_findsHole 0 x y z τ = some (0, u) ∧ F_X11_loophole 0 x y z σ = some (-2, s)) ∨ (hlF t li D σ τ s u ∧ F_X12_findsHole 0 x y z τ = some (1, u) ∧ F_X11_loophole 0 x y z σ = some (s.1 224 1, s)))) := by
  have d1 := hD.1
  have d2 := hD.2.1
  have hP : HC σ.2.2 := hT.1.1
  have c41 : F_X11_loophole_41 σ = some (-1, σ) := rfl
  have m47 : F_X12_canHole_47 τ = some 0 := rfl
  have m48 : F_X12_canHole_48 1 τ = some 1 := rfl
  unfold F_X11_loophole F_X12_canHole
  rcases hill_eq (x := x) hD ht hT.1 hM with ⟨h, hh, e, q1, q2⟩ | ⟨q1, q2⟩
  · subst e
    rcases hill_eq (x := y) hD ht hT.1 hM with ⟨g, hg, e, q3, q4⟩ | ⟨q3, q4⟩
    · subst e
      rw [q1, q2, q3, q4]
      simp only [Option.bind_some, if_neg ne_10]
      by_cases hxy : nI h = nI g
      · rw [if_pos hxy, if_pos hxy]
        exact Or.inl ⟨m47, c41⟩
      rw [if_neg hxy, if_neg hxy]
      rcases news_eq (x := z) hD ht hT.1 hM with ⟨m, hm, e, q5, q6⟩ | ⟨q5, q6⟩
      · subst e
        rw [q5, q6]
        simp only [Option.bind_some, if_neg ne_10]
        obtain ⟨n, d, hW, -⟩ := hR.2.2.1
        rw [rC_11_5' hP, knowsC_eq (by omega) (by omega), rM_53 hM.1, show (4 : Int32) = nI 4 from rfl, pk_mul, nI_add, cG_t (inb_nI (by rw [kM_36]; omega) (by decide)), cl_nI (n := 4 * h + m) (by omega), (hW.1.2.2.2 h m (by omega) (by omega)).1]
        simp only [Option.bind_some]
        by_cases hk : bt (σ.1 44 1) (6 * m + h) = true
        · simp only [if_pos hk, if_neg ne_10]
          rw [if_pos trivial, m48, rC_11_12' hP, Rat_c ht]
          obtain ⟨s, u, g1, g2⟩ := seek_both hD ht hT hM hR hb hh hg hm
          refine Or.inr ⟨h, g, m, s, u, rfl, rfl, rfl, rfl, ?_⟩
          rw [rC_11_5' hP, g1]
          simp only [Option.bind_some]
          rcases g2 with ⟨k1, k2, k3, k4, k5, k6⟩ | ⟨k1, k6⟩
          · refine Or.inl ⟨k1, k2, k3, k4, k6, ?_⟩
            rw [rC_11_12' k1.1.1, k5, if_pos rfl]
            rfl
          · refine Or.inr ⟨k1, k6, ?_⟩
            rw [rC_11_12' k1.1.1.1, if_neg (hlF_ne k1), rC_11_12' k1.1.1.1]
            rfl
        · simp only [if_neg hk, if_true]
          exact Or.inl ⟨by rw [if_neg (by decide)]; exact m47, c41⟩
      · rw [q5, q6]
        simp only [Option.bind_some, if_true]
        exact Or.inl ⟨m47, c41⟩
    · rw [q1, q2, q3, q4]
      simp only [Option.bind_some, if_neg ne_10, if_true]
      exact Or.inl ⟨m47, c41⟩
  · rw [q1, q2]
    simp only [Option.bind_some, if_true]
    exact Or.inl ⟨m47, c41⟩
theorem loophole_eq {b : Nat} {σ τ : hSt} {x y z : Int32} (hb : b < 2 ^ 30) (h : Rr b σ τ) : ∃ v σ' τ', F_X11_loophole 0 x y z σ = some (v, σ') ∧ F_X12_loophole 0 x y z τ = some (v, τ') ∧ Rr b σ' τ' := by
  have h00 := h
  obtain ⟨t, li, D, ht, hD, hT, hM, hR⟩ := h
  unfold F_X12_loophole
  rcases canHole_eq (x := x) (y := y) (z := z) hD ht hT hM hR hb with ⟨q1, q2⟩ | ⟨h, g, m, s, u, q1, -, -, -, q2⟩
  · rw [q1, q2]
    exact ⟨-1, σ, τ, rfl, rfl, h00⟩
  · rw [q1]
    simp only [Option.bind_some, if_neg ne_10]
    rcases q2 with ⟨k1, k2, k3, k4, k5, k6⟩ | ⟨⟨k1, k2, k3, k4, k, hk, e1, e2, e3⟩, k5, k6⟩
    · rw [cC_t k5, k6, if_pos rfl]
      exact ⟨-2, s, u, rfl, rfl, Rr_ro ht hD hR k1 k3 k2 k4⟩
    · rw [cC_t k5, k6, if_neg ne_10, e1, e2]
      exact ⟨nI k, s, u, rfl, rfl, Rr_ro ht hD hR k1 k3 k2 k4⟩
theorem loopholeAt_eq {b : Nat} {σ τ : hSt} {x y z w : Int32} (hb : b < 2 ^ 30) (h : Rr b σ τ) : ∃ v σ' τ', F_X11_loopholeAt 0 x y z w σ = some (v, σ') ∧ F_X12_loopholeAt 0 x y z w τ = some (v, τ') ∧ Rr b σ' τ' := by
  have h00 := h
  obtain ⟨t, li, D, ht, hD, hT, hM, hR⟩ := h
  have m15 : F_X12_loopholeAt_15 τ = some (-1, τ) := rfl
  unfold F_X12_loopholeAt F_X11_loopholeAt
  by_cases hw : 0 ≤ w
  · rw [if_pos hw, if_pos hw]
    rcases canHole_eq (x := x) (y := y) (z := z) hD ht hT hM hR hb with ⟨q1, q2⟩ | ⟨h, g, m, s, u, q1, -, -, -, q2⟩
    · rw [q1, cC_t q2]
      exact ⟨-1, σ, τ, rfl, rfl, h00⟩
    · rw [q1]
      simp only [Option.bind_some, if_neg ne_10]
      rcases q2 with ⟨k1, k2, k3, k4, k5, k6⟩ | ⟨⟨k1, k2, k3, k4, k, hk, e1, e2, e3⟩, k5, k6⟩
      · rw [cC_t k5, cC_t k6, if_pos rfl]
        exact ⟨-2, s, u, rfl, rfl, Rr_ro ht hD hR k1 k3 k2 k4⟩
      · have hRr := Rr_ro ht hD hR k1 k3 k2 k4
        rw [cC_t k5, cC_t k6, if_neg ne_10, e1, e2]
        rw [if_pos (show (0 : Int32) ≤ nI k from Int32.not_lt.mp (nI_pos (by omega)))]
        obtain ⟨j, hj, e⟩ := nI_of (Int32.not_lt.mpr hw)
        subst e
        by_cases hkj : k ≤ j
        · rw [if_pos (nI_le hkj hj), if_pos (nI_le hkj hj)]
          exact ⟨-1, s, u, rfl, rfl, hRr⟩
        · rw [if_neg (nI_ge (by omega) (by omega)), if_neg (nI_ge (by omega) (by omega)), if_neg (show ¬ (3 : Int32) ≤ nI j from nI_ge (b := 3) (by omega) (by decide)), rC_11_12' k1.1.1, rC_1_0 k1.1.1 (c := 224) (by decide), cG_t (show inb (nI j) (kC (224 + 1)).2 = true by rw [k225]; exact inb_nI (by omega) (by decide)), rM_61 k3.1, cG_t (inb_nI (by rw [kM_41]; omega) (by decide)), cl_nI (by omega), show (224 + 1 : Nat) = 225 from rfl, (e3 j (by omega)).1]
          exact ⟨_, s, u, rfl, rfl, hRr⟩
  · rw [if_neg hw, if_neg hw]
    refine ⟨-1, σ, τ, rfl, ?_, h00⟩
    rcases canHole_eq (x := x) (y := y) (z := z) hD ht hT hM hR hb with ⟨q1, q2⟩ | ⟨h, g, m, s, u, q1, -⟩
    · rw [q1]
      exact m15
    · rw [q1]
      exact m15
