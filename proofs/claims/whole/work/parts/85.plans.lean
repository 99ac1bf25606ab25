/-! ===== PURE 50: soonest, all ===== -/
theorem rowQ_fun {enc : Option Nat → Int32} {P : Nat → Nat → Prop} {r : Nat → Int32} (h : rowQ enc P r) : ∃ c : Nat → Option Nat, ∀ k, k < 64 → mn (P k) (c k) ∧ r k = enc (c k) := by
  have h' : ∀ k, ∃ o, k < 64 → mn (P k) o ∧ r k = enc o := fun k => by
    by_cases q : k < 64
    · obtain ⟨o, h1⟩ := h k q
      exact ⟨o, fun _ => h1⟩
    · exact ⟨none, fun r => absurd r q⟩
  exact ⟨fun k => Classical.choose (h' k), fun k => Classical.choose_spec (h' k)⟩
theorem cnd_hi {how H k n : Nat} {e : Nat → Int32} {c : Nat → Option Nat} {pr : Nat → Nat → Prop} (hH : H ≤ 6) (he : ∀ h, h < H → ∀ b, b < 32 → bt (e h) b = true → b < H) (h1 : 2 ^ H ≤ k) (h2 : k < 64) : ¬ cnd how H e c pr k n := by
  have p64 : (2 : Nat) ^ H ≤ 64 := Nat.pow_le_pow_right (n := 2) (by decide) hH
  rintro ⟨K, S, n0, -, q2, -, -, -, -, q7, -⟩
  obtain ⟨kn, r1, r2⟩ := then_lt (S := S) hH he q2
  rw [r2] at q7
  have := (nI_eq (by omega) (by omega)).mp q7
  omega
/-- how the counts go on -/
theorem next_c {how H B : Nat} {e : Nat → Int32} {c c' : Nat → Option Nat} (hH : H ≤ 6) (he : ∀ h, h < H → ∀ b, b < 32 → bt (e h) b = true → b < H) (hB : ∀ k n, k < 64 → c k = some n → n ≤ B) (h : ∀ k, k < 64 → mn (cnd how H e c (fun _ _ => True) k) (c' k)) :
    (∀ k n, k < 64 → c' k = some n → n ≤ B + 6) ∧ (∀ k, 2 ^ H ≤ k → k < 64 → c' k = none) := by
  have p64 : (2 : Nat) ^ H ≤ 64 := Nat.pow_le_pow_right (n := 2) (by decide) hH
  constructor
  · intro k n hk q
    have := h k hk
    rw [q] at this
    obtain ⟨K, S, n0, -, q2, q3, q4, -, -, -, q8⟩ := this.1
    have := hB K n0 (by omega) q4
    have := (pc_eq S (by omega)).2.1
    omega
  · intro k h1 h2
    cases q : c' k with
    | none => rfl
    | some n =>
      have := h k h2
      rw [q] at this
      exact absurd this.1 (cnd_hi hH he h1 h2)
/-- reached: one that knows all that is wanted -/
def rchd (c : Nat → Option Nat) (wanted : Int32) : Prop := ∃ k, k < 64 ∧ c k ≠ none ∧ nI k &&& wanted = wanted
theorem isRM_eq {c : Nat → Option Nat} {w : Int32} {τ : hSt} (hQ : HM τ.2.2) (hc : ∀ k, k < 64 → τ.1 39 k = encM (c k)) (hB : ∀ k n, k < 64 → c k = some n → n < 2 ^ 31) :
    (rchd c w → F_X12_isReached 0 w τ = some 1) ∧ (¬ rchd c w → F_X12_isReached 0 w τ = some 0) := by
  unfold F_X12_isReached F_X12_isReached_2
  obtain ⟨x, g1, g2⟩ := lp_go (s := S_X12_isReached_2 0 w τ) (v := 0) 64 (by rw [fuel_v]; decide)
    (fun i v => v = nI i ∧ ∀ k, k < i → ¬ (c k ≠ none ∧ nI k &&& w = w))
    (fun x => (rchd c w → x = 1) ∧ (¬ rchd c w → x = 0))
    ⟨rfl, fun k q => absurd q (by omega)⟩ (fun i v hi hv => by
      obtain ⟨a1, a2⟩ := hv
      subst a1
      have e26 : F_X12_isReached_26 0 w (nI i) τ = some (.inl (nI (i + 1))) := by
        unfold F_X12_isReached_26 cL
        rw [nI_1]
      unfold S_X12_isReached_2 F_X12_isReached_2b
      by_cases hlt : i < 64
      · rw [if_neg (show ¬ (64 : Int32) ≤ nI i from nI_ge (b := 64) hlt (by decide)), rM_59 hQ, cG_t (inb_nI (by rw [kM_39]; omega) (by decide)), cl_nI (by omega), hc i hlt, e26]
        have more : ¬ (c i ≠ none ∧ nI i &&& w = w) → ∀ k, k < i + 1 → ¬ (c k ≠ none ∧ nI k &&& w = w) := fun q k hk => by
          by_cases r : k = i
          · rw [r]; exact q
          · exact a2 k (by omega)
        cases hci : c i with
        | none =>
          left
          rw [if_pos (show encM none < 0 by decide)]
          exact ⟨_, hlt, rfl, rfl, more (fun q => q.1 hci)⟩
        | some n =>
          rw [if_neg (show ¬ encM (some n) < 0 from nI_pos (hB i n hlt hci))]
          by_cases q : nI i &&& w = w
          · right
            rw [if_pos q]
            exact ⟨1, rfl, fun _ => rfl, fun r => absurd ⟨i, hlt, by rw [hci]; exact Option.some_ne_none _, q⟩ r⟩
          · left
            rw [if_neg q]
            exact ⟨_, hlt, rfl, rfl, more (fun r => q r.2)⟩
      · right
        have : i = 64 := by omega
        subst this
        rw [if_pos (show (64 : Int32) ≤ nI 64 by decide)]
        exact ⟨0, rfl, fun ⟨k, h1, h2⟩ => absurd h2 (a2 k h1), fun _ => rfl⟩)
  exact ⟨fun q => by rw [g1, g2.1 q], fun q => by rw [g1, g2.2 q]⟩
theorem isRC_eq {H : Nat} {c : Nat → Option Nat} {w : Int32} {l : Int64} {s : hSt} (hH : H ≤ 6) (hz : ∀ k, 2 ^ H ≤ k → k < 64 → c k = none) (hl : ∀ k, k < 64 → (l.toBitVec.getLsbD k = true ↔ c k ≠ none)) :
    (rchd c w → F_X3_isReached l w (nI (2 ^ H)) s = some 1) ∧ (¬ rchd c w → F_X3_isReached l w (nI (2 ^ H)) s = some 0) := by
  have p64 : (2 : Nat) ^ H ≤ 64 := Nat.pow_le_pow_right (n := 2) (by decide) hH
  unfold F_X3_isReached F_X3_isReached_3
  obtain ⟨x, g1, g2⟩ := lp_go (s := S_X3_isReached_3 l w (nI (2 ^ H)) s) (v := 0) (2 ^ H) (by rw [fuel_v]; omega)
    (fun i v => v = nI i ∧ ∀ k, k < i → ¬ (c k ≠ none ∧ nI k &&& w = w))
    (fun x => (rchd c w → x = 1) ∧ (¬ rchd c w → x = 0))
    ⟨rfl, fun k q => absurd q (by omega)⟩ (fun i v hi hv => by
      obtain ⟨a1, a2⟩ := hv
      subst a1
      have e30 : F_X3_isReached_30 l w (nI (2 ^ H)) (nI i) s = some (.inl (nI (i + 1))) := by
        unfold F_X3_isReached_30 cL
        rw [nI_1]
      unfold S_X3_isReached_3 F_X3_isReached_3b
      by_cases hlt : i < 2 ^ H
      · rw [if_neg (nI_ge hlt (by omega)), e30]
        have more : ¬ (c i ≠ none ∧ nI i &&& w = w) → ∀ k, k < i + 1 → ¬ (c k ≠ none ∧ nI k &&& w = w) := fun q k hk => by
          by_cases r : k = i
          · rw [r]; exact q
          · exact a2 k (by omega)
        by_cases hb : l.toBitVec.getLsbD i = true
        · rw [if_neg (fun q => by rw [(ask64 (by omega)).mp q] at hb; cases hb)]
          by_cases q : nI i &&& w = w
          · right
            rw [if_pos q]
            exact ⟨1, rfl, fun _ => rfl, fun r => absurd ⟨i, by omega, (hl i (by omega)).mp hb, q⟩ r⟩
          · left
            rw [if_neg q]
            exact ⟨_, hlt, rfl, rfl, more (fun r => q r.2)⟩
        · left
          rw [if_pos ((ask64 (by omega)).mpr (by simpa using hb))]
          exact ⟨_, hlt, rfl, rfl, more (fun q => hb ((hl i (by omega)).mpr q.1))⟩
      · right
        rw [if_pos (nI_le (by omega) (by omega))]
        refine ⟨0, rfl, fun ⟨k, h1, h2⟩ => ?_, fun _ => rfl⟩
        rcases Nat.lt_or_ge k (2 ^ H) with r | r
        · exact absurd h2 (a2 k (by omega))
        · exact absurd (hz k r h1) h2.1)
  exact ⟨fun q => by rw [g1, g2.1 q], fun q => by rw [g1, g2.2 q]⟩
/-- who knows it at the start -/
theorem row0 : ∀ m, m < 4 → ((6 : Int32) * nI m) &&& 31 = nI (6 * m) := by decide +kernel
theorem shr63 {x : Int32} {m i : Nat} (hm : m < 4) (hi : i < 32) : bt ((x >>> (((6 : Int32) * nI m) &&& 31)) &&& 63) i = (decide (i < 6) && bt x (6 * m + i)) := by
  rw [bt_and, bt_63 i hi]
  by_cases h : i < 6
  · have e : ((6 : Int32) * nI m) &&& 31 = nI (6 * m) &&& 31 := by rw [row0 m hm]; revert m; decide +kernel
    rw [e, bt_shr (by omega) (by omega)]
    simp [h]
  · simp [h]
theorem start_set {H m : Nat} {I : Nat → Nat → Int32} {w n : Nat} {r : Nat → Int32} (hW : RW I w r n) (hR : RH H r) (hm : m < 4) (hH : H ≤ 6) : ∃ K, K < 2 ^ H ∧ (I w 1 >>> (((6 : Int32) * nI m) &&& 31)) &&& 63 = nI K ∧ ∀ h, h < 6 → (bt (nI K) h = true ↔ r (4 * h + m) = 1) := by
  have b := fun (i : Nat) (hi : i < 32) => shr63 (x := I w 1) hm hi
  obtain ⟨K, h1, h2⟩ := lt2_of (x := (I w 1 >>> (((6 : Int32) * nI m) &&& 31)) &&& 63) hH (fun i a c => by
    rw [b i c]
    by_cases q : i < 6
    · by_cases z : bt (I w 1) (6 * m + i) = true
      · have := (RW_known hW q hm).mpr z
        rw [(hR i m a q hm).1] at this
        exact absurd this (by decide)
      · simp [z]
    · simp [q])
  refine ⟨K, h1, h2, fun h hh => ?_⟩
  rw [← h2, b h (by omega), RW_known hW hh hm]
  simp [hh]
theorem setbit : ∀ S, S < 64 → ∀ h, h < 6 → ∀ b, b < 32 → bt (nI S ||| ((1 : Int32) <<< (nI h &&& 31))) b = (bt (nI S) b || decide (b = h)) := fun S _ h hh b hb => by rw [bt_or, bt_pow (by omega) hb]
theorem starts_eq {li m K : Nat} {D : TxD} {τ : hSt} (hD : TXok D) (hM : TM li D τ) (hm : m < 4) (hK : K < 2 ^ tH D) (hr : ∀ h, h < 6 → (bt (nI K) h = true ↔ τ.1 36 (4 * h + m) = 1)) :
    ∃ g, F_X12_startsPlan 0 (nI m) τ = some (uA τ 39 g) ∧ ∀ k, k < 64 → g k = encM (if k = K then some 0 else none) := by
  have d1 := hD.1
  have p64 : (2 : Nat) ^ tH D ≤ 64 := Nat.pow_le_pow_right (n := 2) (by decide) d1
  have L45 : ∃ x, F_X12_startsPlan_45 0 (nI K) 0 τ = some x ∧ ∃ g, x = uA τ 39 g ∧ ∀ k, k < 64 → g k = encM (if k = K then some 0 else none) := by
    unfold F_X12_startsPlan_45
    refine lp_go 64 (by rw [fuel_v]; decide) (fun i w => ∃ g, w = (nI i, uA τ 39 g) ∧ ∀ k, k < i → g k = -1) _ ⟨τ.1 39, by rw [uA_self]; rfl, fun k q => absurd q (by omega)⟩ (fun i w hi hw => ?_)
    obtain ⟨g, a1, a2⟩ := hw
    subst a1
    have hQ' : HM (uA τ 39 g).2.2 := hM.1
    unfold S_X12_startsPlan_45 F_X12_startsPlan_45b cL
    dsimp only
    by_cases hlt : i < 64
    · left
      rw [if_neg (show ¬ (64 : Int32) ≤ nI i from nI_ge (b := 64) hlt (by decide)), rM_59 hQ', cG_t (inb_nI (by rw [kM_39]; omega) (by decide)), cl_nI (by omega), uI_as, uA_uA, nI_1, show (uA τ 39 g).1 39 = g from funext fun j => uA_own _ _ _ _]
      refine ⟨_, hlt, rfl, _, rfl, fun k hk => ?_⟩
      by_cases q : k = i
      · rw [q, upd_eq]
      · rw [upd_ne q]
        exact a2 k (by omega)
    · right
      have : i = 64 := by omega
      subst this
      rw [if_pos (show (64 : Int32) ≤ nI 64 by decide), rM_59 hQ', cG_t (inb_nI (by rw [kM_39]; omega) (by decide)), cl_nI (by omega), uI_as, uA_uA, show (uA τ 39 g).1 39 = g from funext fun j => uA_own _ _ _ _]
      refine ⟨_, rfl, _, rfl, fun k hk => ?_⟩
      by_cases q : k = K
      · rw [q, upd_eq, if_pos rfl]
        rfl
      · rw [upd_ne q, if_neg q]
        exact a2 k hk
  obtain ⟨x, x1, g, x2, x3⟩ := L45
  refine ⟨g, ?_, x3⟩
  subst x2
  unfold F_X12_startsPlan F_X12_startsPlan_4
  refine lp_eq (tH D) (by rw [fuel_v]; omega) (fun i v => ∃ S, v = (nI S, nI i) ∧ S < 64 ∧ ∀ h, h < 6 → (bt (nI S) h = true ↔ h < i ∧ bt (nI K) h = true)) ⟨0, rfl, by decide, fun h _ => ⟨fun q => absurd q (inS_0 h), fun q => absurd q.1 (by omega)⟩⟩ (fun i v hi hv => ?_)
  obtain ⟨S, a1, a2, a3⟩ := hv
  subst a1
  unfold S_X12_startsPlan_4 F_X12_startsPlan_4b
  dsimp only
  rw [rM_24 hM.1, hM.2.1.1, cG_t (inb_nI (by rw [kM_11]; exact hM.2.1.2) (by decide)), cl_nI (by have := hM.2.1.2; omega), hM.2.2.1.1]
  by_cases hlt : i < tH D
  · left
    have e37 : ∀ y, F_X12_startsPlan_37 0 (nI m) y (nI i) τ = some (.inl (y, nI (i + 1))) := fun y => by
      unfold F_X12_startsPlan_37 cL
      rw [nI_1]
    rw [if_neg (nI_ge hlt (by omega)), rM_53 hM.1, show (4 : Int32) = nI 4 from rfl, pk_mul, nI_add, cG_t (inb_nI (by rw [kM_36]; omega) (by decide)), cl_nI (n := 4 * i + m) (by omega)]
    by_cases q : τ.1 36 (4 * i + m) = 1
    · rw [if_pos q]
      unfold cL
      dsimp only
      rw [e37]
      obtain ⟨S', s1, s2⟩ := lt64_of (x := nI S ||| ((1 : Int32) <<< (nI i &&& 31))) (fun b b1 b2 => by
        rw [setbit S a2 i (by omega) b b2, and63 S a2 b b2 b1]
        simp; omega)
      rw [s2]
      refine ⟨_, hlt, rfl, S', rfl, s1, fun h hh => ?_⟩
      rw [← s2, setbit S a2 i (by omega) h (by omega), Bool.or_eq_true, decide_eq_true_eq, a3 h hh]
      constructor
      · rintro (⟨r1, r2⟩ | r)
        · exact ⟨by omega, r2⟩
        · exact ⟨by omega, by rw [r]; exact (hr i (by omega)).mpr q⟩
      · rintro ⟨r1, r2⟩
        by_cases r : h = i
        · exact Or.inr r
        · exact Or.inl ⟨by omega, r2⟩
    · rw [if_neg q, e37]
      refine ⟨_, hlt, rfl, S, rfl, a2, fun h hh => ?_⟩
      rw [a3 h hh]
      constructor
      · rintro ⟨r1, r2⟩
        exact ⟨by omega, r2⟩
      · rintro ⟨r1, r2⟩
        by_cases r : h = i
        · exact absurd ((hr i (by omega)).mp (r ▸ r2)) q
        · exact ⟨by omega, r2⟩
  · right
    have hSK : nI S = nI K := bt_ext6 (fun b b1 b2 => and63 S a2 b b2 b1) (fun b b1 b2 => and63 K (by omega) b b2 b1) (fun b hb => by
      rw [Bool.eq_iff_iff, a3 b hb]
      exact ⟨fun z => z.2, fun z => ⟨by have := inS_H _ d1 K hK b hb z; omega, z⟩⟩)
    rw [if_pos (nI_le (by omega) (by omega)), hSK, x1]
    rfl
theorem sets_eq : ∀ H, H ≤ 6 → (if (64 : Int32) < ((1 : Int32) <<< (nI H &&& 31)) then (64 : Int32) else ((1 : Int32) <<< (nI H &&& 31))) = nI (2 ^ H) := by decide +kernel
theorem all_eq : ∀ H, H ≤ 6 → ((1 : Int32) <<< (nI H &&& 31)) - 1 = nI (2 ^ H - 1) := by decide +kernel
def c0K (K : Nat) : Nat → Option Nat := fun k => if k = K then some 0 else none
theorem c0K_y {K : Nat} : c0K K K = some 0 := if_pos rfl
theorem c0K_n {K k : Nat} (h : k ≠ K) : c0K K k = none := if_neg h
def cLo (c : Nat → Option Nat) : Nat → Option Nat := fun k => if k < 64 then c k else none
theorem cLo_y {c : Nat → Option Nat} {k : Nat} (h : k < 64) : cLo c k = c k := if_pos h
theorem cLo_s {c : Nat → Option Nat} {k n : Nat} (h : cLo c k = some n) : k < 64 ∧ c k = some n := by
  by_cases q : k < 64
  · exact ⟨q, (cLo_y (c := c) q).symm.trans h⟩
  · unfold cLo at h
    rw [if_neg q] at h
    cases h
theorem cnd_Lo {how H k n : Nat} {e : Nat → Int32} {c : Nat → Option Nat} {pr : Nat → Nat → Prop} (hH : H ≤ 6) : cnd how H e (cLo c) pr k n ↔ cnd how H e c pr k n := by
  have p64 : (2 : Nat) ^ H ≤ 64 := Nat.pow_le_pow_right (n := 2) (by decide) hH
  constructor
  · rintro ⟨K', S', n0, q1, q2, q3, q4, q5⟩
    exact ⟨K', S', n0, q1, q2, q3, (cLo_s q4).2, q5⟩
  · rintro ⟨K', S', n0, q1, q2, q3, q4, q5⟩
    exact ⟨K', S', n0, q1, q2, q3, by rw [cLo_y (by omega)]; exact q4, q5⟩
/-- the fewest days to a set, in both -/
theorem days_both {b t li m : Nat} {D : TxD} {σ τ : hSt} {w : Int32} (hD : TXok D) (ht : Rat t σ.2.2) (hT : TC t D σ) (hM : TM li D τ) (hR : Rst (tH D) (tM D) b σ τ) (hb : b + 300 < 2 ^ 30) (hm : m < tM D) :
    ∃ v s u, F_X3_fewestDays 219 t 44 (nI m) w σ = some (v, s) ∧ F_X12_daysTo 0 (nI m) w τ = some (v, u) ∧ TC t D s ∧ frC t σ s ∧ TM li D u ∧ frM τ u := by
  have d1 := hD.1
  have d2 := hD.2.1
  have p64 : (2 : Nat) ^ tH D ≤ 64 := Nat.pow_le_pow_right (n := 2) (by decide) d1
  obtain ⟨ht1, ht2⟩ := Rat_ok ht
  obtain ⟨n, d, hW, h120, hdb, hRH⟩ := hR.2.2.1
  obtain ⟨K, k1, k2, k3⟩ := start_set (m := m) hW hRH (by omega) d1
  obtain ⟨g, g1, g2⟩ := starts_eq (m := m) hD hM (by omega) k1 k3
  have e44 : σ.1 44 0 = nI d := hW.1.1.trans h120
  have hM1 : TM li D (uA τ 39 g) := TM_M hM rfl ⟨fun j _ _ _ _ => by rw [uA_row _ _ (show (0 : Nat) ≠ 39 by decide)], fun k p1 p2 p3 p4 p5 p6 p7 p8 => uA_row _ _ p6⟩
  have f1 : frM τ (uA τ 39 g) := ⟨fun j _ _ _ _ => by rw [uA_row _ _ (show (0 : Nat) ≠ 39 by decide)], fun k p1 p2 p3 p4 p5 p6 p7 p8 => uA_row _ _ p6⟩
  unfold F_X3_fewestDays F_X12_daysTo F_X3_fewestDays_28 F_X12_daysTo_7 F_X11_rowOf
  rw [hT.1.2.1.1, sets_eq _ d1, k2, g1]
  simp only [Option.bind_some]
  unfold cL
  dsimp only
  have main : ∃ x y, lp (S_X3_fewestDays_28 219 t 44 w (nI (2 ^ tH D))) fuel ((1 : Int64) <<< ((nI K).toInt64 &&& 63), 0, σ) = some x ∧ lp (S_X12_daysTo_7 0 w) fuel (0, uA τ 39 g) = some y ∧ (fun (x y : Int32 × hSt) => x.1 = y.1 ∧ TC t D x.2 ∧ frC t σ x.2 ∧ TM li D y.2 ∧ frM τ y.2) x y := by
    refine lp_two2 60 (by rw [fuel_v]; decide)
      (fun i a y => ∃ c : Nat → Option Nat, a.2.1 = nI i ∧ y.1 = nI i ∧ TC t D a.2.2 ∧ frC t σ a.2.2 ∧ TM li D y.2 ∧ frM τ y.2 ∧ (∀ k, k < 64 → (a.1.toBitVec.getLsbD k = true ↔ c k ≠ none)) ∧ (∀ k, k < 64 → y.2.1 39 k = encM (c k)) ∧ (∀ k n, k < 64 → c k = some n → n ≤ 6 * i) ∧ (∀ k, 2 ^ tH D ≤ k → k < 64 → c k = none))
      _ ⟨c0K K, rfl, rfl, hT, frC_rfl, hM1, f1, fun k hk => ?_, fun k hk => ?_, fun k n hk q => ?_, fun k q1 q2 => ?_⟩ (fun i a y hi hay => ?_)
    · rw [one64 K (by omega), pw64 K (by omega) k hk, decide_eq_true_eq]
      by_cases q : k = K
      · rw [q, c0K_y]; simp
      · rw [c0K_n q]; simp [q]
    · show (uA τ 39 g).1 39 k = _
      rw [uA_own]
      exact g2 k hk
    · by_cases r : k = K
      · rw [r, c0K_y] at q
        have := Option.some.inj q
        omega
      · rw [c0K_n r] at q; cases q
    · exact c0K_n (by omega)
    · obtain ⟨l, l8, s⟩ := a
      obtain ⟨l8', u⟩ := y
      obtain ⟨c, a1, a2, a3, a4, a5, a6, a7, a8, a9, a10⟩ := hay
      dsimp only at a1 a2 a3 a4 a5 a6 a7 a8 a9 a10
      subst a1 a2
      have hPs : HC s.2.2 := a3.1.1
      have hts : Rat t s.2.2 := by rw [a4.1]; exact ht
      have s44 : s.1 44 0 = nI d := by rw [a4.2 44 (by omega) (by omega) (by omega)]; exact e44
      have u120 : u.1 36 120 = nI d := by rw [a6.2 36 (by decide) (by decide) (by decide) (by decide) (by decide) (by decide) (by decide) (by decide)]; exact h120
      obtain ⟨w1, w2⟩ := isRC_eq (w := w) (s := s) d1 a10 a7
      obtain ⟨m1, m2⟩ := isRM_eq (w := w) a5.1 a8 (fun k n hk q => by have := a9 k n hk q; omega)
      have f99 : ∀ x z, F_X3_fewestDays_99 x z = some (x, z) := fun _ _ => rfl
      have day : ∃ (s' u' : hSt) (l' : Int64) (c' : Nat → Option Nat), F_X3_setDay 219 t ((s.1 44 0 + nI i) + 1) s = some s' ∧ F_X3_reachedNext 219 l (nI (2 ^ tH D)) s' = some l' ∧ F_X12_planDay 0 ((u.1 36 120 + 1) + nI i) u = some u' ∧ TC t D s' ∧ frC t σ s' ∧ TM li D u' ∧ frM τ u' ∧ (∀ k, k < 64 → (l'.toBitVec.getLsbD k = true ↔ c' k ≠ none)) ∧ (∀ k, k < 64 → u'.1 39 k = encM (c' k)) ∧ (∀ k n, k < 64 → c' k = some n → n ≤ 6 * (i + 1)) ∧ (∀ k, 2 ^ tH D ≤ k → k < 64 → c' k = none) := by
        have e1 : (s.1 44 0 + nI i) + 1 = nI (d + i + 1) := by rw [s44, nI_add, nI_1]
        have e2 : (u.1 36 120 + 1) + nI i = nI (d + i + 1) := by rw [u120, nI_1, nI_add]; exact congrArg nI (by omega)
        rw [e1, e2]
        obtain ⟨s', v, x1, x2, x3, x4, x5, x6⟩ := setDay_eq (s := s) hD ht1 ht2 a3 (show d + i + 1 < 2 ^ 30 by omega)
        have hv := earJ_lt hD x5
        obtain ⟨l', y1, y2⟩ := reached_eq (s := s') x2.1.1 d1 hv x6 a10 a7
        obtain ⟨u', z1, z2, z3, -, z4⟩ := planDay_eq (B := 6 * i) (c := cLo c) hD a5 (show d + i + 1 < 2 ^ 30 by omega) x5 (fun k hk => by rw [cLo_y hk]; exact a8 k hk) (fun k n q => a9 k n (cLo_s q).1 (cLo_s q).2) (by omega)
        obtain ⟨c', hc'⟩ := rowQ_fun (rowQ_congr z4 (fun k n _ => cnd_Lo d1))
        obtain ⟨b1, b2⟩ := next_c (B := 6 * i) d1 hv a9 (fun k hk => (hc' k hk).1)
        refine ⟨s', u', l', c', x1, y1, z1, x2, frC_trans a4 ⟨x3, fun k q1 q2 q3 => x4 k q1 (by omega) (by omega)⟩, z2, frM_trans a6 z3, fun k hk => ?_, fun k hk => (hc' k hk).2, fun k n hk q => by have := b1 k n hk q; omega, b2⟩
        rw [y2 k hk]
        have := (hc' k hk).1
        cases q : c' k with
        | none => rw [q] at this; exact ⟨fun ⟨n, r⟩ => absurd r (this n), fun r => absurd rfl r⟩
        | some n => rw [q] at this; exact ⟨fun _ => Option.some_ne_none _, fun _ => ⟨n, this.1⟩⟩
      by_cases hr : rchd c w
      · right
        refine ⟨(nI i, s), (nI i, u), fun k => lp_inr ?_, fun k => lp_inr ?_, rfl, a3, a4, a5, a6⟩
        · unfold S_X3_fewestDays_28 F_X3_fewestDays_28b
          dsimp only
          rw [w1 hr, Option.bind_some, if_neg ne_10, Option.bind_some, if_neg ne_10, f99]
          by_cases q : i < 60
          · rw [if_neg (show ¬ (60 : Int32) ≤ nI i from nI_ge (b := 60) q (by decide))]
          · have : i = 60 := by omega
            subst this
            rw [if_pos (show (60 : Int32) ≤ nI 60 by decide)]
            rfl
        · unfold S_X12_daysTo_7 F_X12_daysTo_7b
          dsimp only
          rw [if_neg (show ¬ (60 : Int32) < nI i from nI_nlt (a := 60) hi (by decide)), m1 hr, Option.bind_some, if_neg ne_10]
      · obtain ⟨s', u', l', c', x1, x2, x3, x4, x5, x6, x7, x8, x9, x10, x11⟩ := day
        have stm : S_X12_daysTo_7 0 w (nI i, u) = some (.inl (nI (i + 1), u')) := by
          unfold S_X12_daysTo_7 F_X12_daysTo_7b
          dsimp only
          rw [if_neg (show ¬ (60 : Int32) < nI i from nI_nlt (a := 60) hi (by decide)), m2 hr, Option.bind_some, if_pos rfl, rM_53 a5.1, cG_t (show inb (120 : Int32) (kM 36).2 = true by rw [kM_36]; decide), show (120 : Int32).toNatClampNeg = 120 from rfl, x3, Option.bind_some]
          unfold cL
          rw [nI_1]
        by_cases q : i < 60
        · left
          refine ⟨(l', nI (i + 1), s'), _, q, ?_, stm, c', rfl, rfl, x4, x5, x6, x7, x8, x9, x10, x11⟩
          unfold S_X3_fewestDays_28 F_X3_fewestDays_28b
          dsimp only
          rw [if_neg (show ¬ (60 : Int32) ≤ nI i from nI_ge (b := 60) q (by decide)), w2 hr, Option.bind_some, if_pos rfl, x1, Option.bind_some, x2, Option.bind_some]
          unfold cL
          rw [nI_1]
        · right
          have : i = 60 := by omega
          subst this
          refine ⟨(-2, s), (-2, u'), fun k => lp_inr ?_, fun k => ?_, rfl, a3, a4, x6, x7⟩
          · unfold S_X3_fewestDays_28 F_X3_fewestDays_28b
            dsimp only
            rw [if_pos (show (60 : Int32) ≤ nI 60 by decide), w2 hr, Option.bind_some, if_pos rfl, f99]
            rfl
          · rw [lp_inl stm]
            refine lp_inr ?_
            unfold S_X12_daysTo_7 F_X12_daysTo_7b
            dsimp only
            rw [if_pos (show (60 : Int32) < nI (60 + 1) by decide)]
  obtain ⟨⟨x1, x2⟩, ⟨y1, y2⟩, q1, q2, q3, q4, q5, q6, q7⟩ := main
  dsimp only at q3 q4 q5 q6 q7
  subst q3
  exact ⟨x1, x2, y2, q1, q2, q4, q5, q6, q7⟩
theorem soonest_eq {b : Nat} {σ τ : hSt} {x y : Int32} (hb : b + 300 < 2 ^ 30) (h : Rr b σ τ) : ∃ v σ' τ', F_X11_soonest 0 x y σ = some (v, σ') ∧ F_X12_soonest 0 x y τ = some (v, τ') ∧ Rr b σ' τ' := by
  have h00 := h
  obtain ⟨t, li, D, ht, hD, hT, hM, hR⟩ := h
  have hP : HC σ.2.2 := hT.1.1
  have c16 : F_X11_soonest_16 σ = some (-1, σ) := rfl
  have m27 : F_X12_soonest_27 τ = some (-1, τ) := rfl
  unfold F_X11_soonest F_X12_soonest
  rcases news_eq (x := x) hD ht hT.1 hM with ⟨m, hm, e, q1, q2⟩ | ⟨q1, q2⟩
  · subst e
    rw [q1, q2]
    simp only [Option.bind_some, if_neg ne_10]
    rcases hill_eq (x := y) hD ht hT.1 hM with ⟨a, ha, e, q3, q4⟩ | ⟨q3, q4⟩
    · subst e
      rw [q3, q4]
      simp only [Option.bind_some, if_neg ne_10]
      obtain ⟨v, s, u, w1, w2, w3, w4, w5, w6⟩ := days_both (w := (1 : Int32) <<< (nI a &&& 31)) hD ht hT hM hR hb hm
      rw [rC_11_11' hP, Rat_c ht, rC_11_5' hP, cC_t w1, cC_t w2]
      exact ⟨v, s, u, rfl, rfl, Rr_ro ht hD hR w3 w5 w4 w6⟩
    · rw [q3, q4]
      simp only [Option.bind_some, if_true]
      exact ⟨-1, σ, τ, c16, m27, h00⟩
  · rw [q1, q2]
    simp only [Option.bind_some, if_true]
    exact ⟨-1, σ, τ, c16, m27, h00⟩
theorem allC_eq {t : Nat} {D : TxD} {σ : hSt} (hT : TC t D σ) : F_X7_allHills t σ = some (((1 : Int32) <<< (nI (tH D) &&& 31)) - 1) := by
  unfold F_X7_allHills
  rw [hT.1.2.1.1]
theorem all_ans {b : Nat} {σ τ : hSt} {x : Int32} (hb : b + 300 < 2 ^ 30) (h : Rr b σ τ) : ∃ v σ' τ', F_X11_all 0 x σ = some (v, σ') ∧ F_X12_all 0 x τ = some (v, τ') ∧ Rr b σ' τ' := by
  have h00 := h
  obtain ⟨t, li, D, ht, hD, hT, hM, hR⟩ := h
  have hP : HC σ.2.2 := hT.1.1
  have c35 : F_X11_all_35 (-1) σ = some (-1, σ) := rfl
  have m30 : F_X12_all_30 (-1) τ = some (-1, τ) := rfl
  unfold F_X11_all F_X12_all
  rcases news_eq (x := x) hD ht hT.1 hM with ⟨m, hm, e, q1, q2⟩ | ⟨q1, q2⟩
  · subst e
    rw [q1, q2]
    simp only [Option.bind_some, if_neg ne_10]
    obtain ⟨v, s, u, w1, w2, w3, w4, w5, w6⟩ := days_both (w := ((1 : Int32) <<< (nI (tH D) &&& 31)) - 1) hD ht hT hM hR hb hm
    rw [rC_11_11' hP, Rat_c ht, rC_11_5' hP, Rat_c ht, allC_eq hT, Option.bind_some, cC_t w1, rM_24 hM.1, hM.2.1.1, cG_t (inb_nI (by rw [kM_11]; exact hM.2.1.2) (by decide)), cl_nI (by have := hM.2.1.2; omega), hM.2.2.1.1, cC_t w2]
    exact ⟨v, s, u, rfl, rfl, Rr_ro ht hD hR w3 w5 w4 w6⟩
  · rw [q1, q2]
    simp only [Option.bind_some, if_true]
    exact ⟨-1, σ, τ, c35, m30, h00⟩
