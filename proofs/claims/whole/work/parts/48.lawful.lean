/-! ===== PURE 13: lawful by the order, in both; the drums of a day by the rule, on the row ===== -/
def lawP (r : Nat → Int32) (t how h m : Nat) (d : Int32) : Prop := r (4 * h + m) = 1 ∧ t < 60 ∧ ¬ ansP r t how h m d
theorem lawM_eq {h m t how : Nat} {d : Int32} {τ : hSt} (hP : HM τ.2.2) (hh : h < 6) (hm : m < 4) (ht : t ≤ 60) (e1 : τ.1 37 121 = nI t) (e2 : τ.1 0 55 = nI how) (hw : how < 4) :
    (lawP (τ.1 37) t how h m d → F_X12_isLawful 0 (nI h) (nI m) d τ = some 1) ∧ (¬ lawP (τ.1 37) t how h m d → F_X12_isLawful 0 (nI h) (nI m) d τ = some 0) := by
  obtain ⟨n1, n2⟩ := ansM_eq (d := d) hP hh hm ht e1 e2 hw
  have f0 : F_X12_isLawful_35 τ = some 0 := rfl
  have f1 : F_X12_isLawful_36 1 τ = some 1 := rfl
  unfold F_X12_isLawful
  rw [knowsM_eq hP hh hm]
  simp only [Option.bind_some]
  by_cases g1 : τ.1 37 (4 * h + m) = 1
  · rw [if_pos g1, if_neg (by decide), rM_54 hP, cG_t (show inb (121 : Int32) (kM 37).2 = true by rw [kM_37]; decide), show (121 : Int32).toNatClampNeg = 121 from rfl, e1, show (60 : Int32) = nI 60 from rfl]
    by_cases g2 : t < 60
    · rw [if_neg (nI_ge g2 (by decide))]
      by_cases g3 : ansP (τ.1 37) t how h m d
      · rw [n1 g3]
        simp only [Option.bind_some]
        rw [if_neg (by decide)]
        exact ⟨fun q => absurd g3 q.2.2, fun _ => f0⟩
      · rw [n2 g3]
        simp only [Option.bind_some]
        rw [if_pos trivial]
        exact ⟨fun _ => f1, fun q => absurd ⟨g1, g2, g3⟩ q⟩
    · rw [if_pos (nI_le (by omega) (by omega))]
      exact ⟨fun q => absurd q.2.1 g2, fun _ => f0⟩
  · rw [if_neg g1, if_pos rfl]
    exact ⟨fun q => absurd q.1 g1, fun _ => f0⟩
theorem ableC_eq {w h m t : Nat} {σ : hSt} {r : Nat → Int32} (hW : RW σ.1 w r t) (hh : h < 6) (hm : m < 4) :
    F_X10_isAble w (nI h) (nI m) σ = some (if t < 60 then (if r (4 * h + m) = 1 then 1 else 0) else 0) := by
  have f0 : F_X10_isAble_22 σ = some 0 := rfl
  have f1 : F_X10_isAble_23 1 σ = some 1 := rfl
  have h7 := hW.2.1
  have ht := hW.2.2.2.1
  have kk := (hW.1.2.2.2 h m hh hm).1
  unfold F_X10_isAble
  rw [h7, show (60 : Int32) = nI 60 from rfl]
  by_cases g2 : t < 60
  · rw [if_neg (nI_ge g2 (by decide)), if_pos g2, knowsC_eq hh hm]
    simp only [Option.bind_some]
    by_cases g : bt (σ.1 w 1) (6 * m + h) = true
    · rw [if_pos g] at kk ⊢
      rw [if_neg (by decide), if_pos kk, f1]
    · rw [if_neg g] at kk ⊢
      rw [if_pos rfl, if_neg (by rw [kk]; decide), f0]
  · rw [if_pos (nI_le (by omega) (by omega)), if_neg g2, f0]
/-- one (hill, news) of a day by the rule -/
noncomputable def dStep (H how : Nat) (e : Nat → Int32) (h m : Nat) (p : (Nat → Int32) × Nat) : (Nat → Int32) × Nat :=
  @ite _ (lawP p.1 p.2 how h m 0) (Classical.propDecidable _) (rowDS p.2 h m 0 (e h) H p.1, p.2 + 1) p
noncomputable def dIn (H how : Nat) (e : Nat → Int32) (h : Nat) (p : (Nat → Int32) × Nat) : Nat → (Nat → Int32) × Nat
  | 0 => p
  | m + 1 => dStep H how e h m (dIn H how e h p m)
noncomputable def dOut (H M how : Nat) (e : Nat → Int32) (sil : Int32) (p : (Nat → Int32) × Nat) : Nat → (Nat → Int32) × Nat
  | 0 => p
  | h + 1 => if nI h = sil then dOut H M how e sil p h else dIn H how e h (dOut H M how e sil p h) M
theorem dStep_go {H how h m : Nat} {e : Nat → Int32} {p : (Nat → Int32) × Nat} (q : lawP p.1 p.2 how h m 0) : dStep H how e h m p = (rowDS p.2 h m 0 (e h) H p.1, p.2 + 1) := if_pos q
theorem dStep_no {H how h m : Nat} {e : Nat → Int32} {p : (Nat → Int32) × Nat} (q : ¬ lawP p.1 p.2 how h m 0) : dStep H how e h m p = p := if_neg q
/-- the model's rows: the count of the day's drums -/
def RMt (p : (Nat → Int32) × Nat) : Prop := p.1 121 = nI p.2 ∧ p.2 ≤ 60
theorem dStep_RMt {H how h m : Nat} {e : Nat → Int32} {p : (Nat → Int32) × Nat} (hm : m < 4) (hH : H ≤ 6) (q : RMt p) : RMt (dStep H how e h m p) := by
  by_cases g : lawP p.1 p.2 how h m 0
  · rw [dStep_go g]
    refine ⟨?_, g.2.1⟩
    show rowDS p.2 h m 0 (e h) H p.1 121 = _
    rw [rowDS_hi hm hH (by decide) (by decide)]
    exact rowD_new.2.2.2.2
  · rw [dStep_no g]; exact q
theorem dIn_RMt {H how h : Nat} {e : Nat → Int32} {p : (Nat → Int32) × Nat} (hH : H ≤ 6) (q : RMt p) : ∀ m, m ≤ 4 → RMt (dIn H how e h p m)
  | 0, _ => q
  | m + 1, hm => dStep_RMt (by omega) hH (dIn_RMt hH q m (by omega))
theorem dOut_RMt {H M how : Nat} {e : Nat → Int32} {sil : Int32} {p : (Nat → Int32) × Nat} (hH : H ≤ 6) (hM : M ≤ 4) (q : RMt p) : ∀ h, RMt (dOut H M how e sil p h)
  | 0 => q
  | h + 1 => by
    unfold dOut
    split
    · exact dOut_RMt hH hM q h
    · exact dIn_RMt hH (dOut_RMt hH hM q h) M hM
theorem dStep_120 {H how h m : Nat} {e : Nat → Int32} {p : (Nat → Int32) × Nat} (hm : m < 4) (hH : H ≤ 6) : (dStep H how e h m p).1 120 = p.1 120 := by
  by_cases g : lawP p.1 p.2 how h m 0
  · rw [dStep_go g]
    show rowDS p.2 h m 0 (e h) H p.1 120 = _
    rw [rowDS_hi hm hH (by decide) (by decide), rowD_lo (by decide) (by decide)]
  · rw [dStep_no g]
theorem dIn_120 {H how h : Nat} {e : Nat → Int32} {p : (Nat → Int32) × Nat} (hH : H ≤ 6) : ∀ m, m ≤ 4 → (dIn H how e h p m).1 120 = p.1 120
  | 0, _ => rfl
  | m + 1, hm => (dStep_120 (by omega) hH).trans (dIn_120 hH m (by omega))
theorem dOut_120 {H M how : Nat} {e : Nat → Int32} {sil : Int32} {p : (Nat → Int32) × Nat} (hH : H ≤ 6) (hM : M ≤ 4) : ∀ h, (dOut H M how e sil p h).1 120 = p.1 120
  | 0 => rfl
  | h + 1 => by
    unfold dOut
    split
    · exact dOut_120 hH hM h
    · exact (dIn_120 hH M hM).trans (dOut_120 hH hM h)
