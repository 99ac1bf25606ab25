/-! ===== PURE 40: drummed, clashes, sure ===== -/
theorem unp : ∀ e, e < 64 → ∀ c, c < 2 → ∀ b, b < 4 → ∀ a, a < 6 → (nI (e * 128 + c * 64 + b * 8 + a) &&& (7 : Int32)) = nI a ∧ ((nI (e * 128 + c * 64 + b * 8 + a) >>> ((3 : Int32) &&& 31)) &&& (7 : Int32)) = nI b ∧ ((nI (e * 128 + c * 64 + b * 8 + a) >>> ((6 : Int32) &&& 31)) &&& (1 : Int32)) = nI c ∧ ((nI (e * 128 + c * 64 + b * 8 + a) >>> ((7 : Int32) &&& 31)) &&& (63 : Int32)) = nI e := by decide +kernel
theorem drummed_ans {b : Nat} {σ τ : hSt} {x y : Int32} (h : Rr b σ τ) : ∃ v, F_X11_drummed 0 x y σ = some v ∧ F_X12_drummed 0 x y τ = some v := by
  obtain ⟨t, li, D, ht, hD, hC, hM, hR⟩ := h
  have hP : HC σ.2.2 := hC.1.1
  have hQ : HM τ.2.2 := hM.1
  obtain ⟨n, d, hW, -⟩ := hR.2.2.1
  have hn : n ≤ 60 := hW.2.2.2.1
  have n0 : F_X12_drummed_43 τ = some (-1) := rfl
  have c0 : F_X11_drummed_21 σ = some (-1) := rfl
  unfold F_X11_drummed F_X12_drummed
  rw [rM_53 hQ, cG_t (show inb (121 : Int32) (kM 36).2 = true by rw [kM_36]; decide), show (121 : Int32).toNatClampNeg = 121 from rfl, hW.2.2.1, rC_11_5' hP, hW.2.1]
  rcases inM_n (x := x) (n := n) (τ := τ) (by omega) with ⟨i, hi, e, q⟩ | ⟨q, q2⟩
  · subst e
    obtain ⟨a, c, f, g, a1, a2, a3, a4, a5, a6, a7, a8, a9⟩ := hW.2.2.2.2.1 i hi
    obtain ⟨u1, u2, u3, u4⟩ := unp g a4 f a3 c a2 a a1
    rw [q, if_neg (nI_pos (by omega)), if_neg (nI_ge hi (by omega)), if_pos (show nI i < (60 : Int32) from nI_lt (b := 60) (by omega) (by decide)), rC_11_5' hP, rC_10_11 hP (c := 44) (by decide), cG_t (inb_nI (by rw [nC_10_11 (by decide)]; omega) (by rw [nC_10_11 (by decide)]; decide)), cl_nI (by omega)]
    unfold cL
    dsimp only
    rw [a9, u1, u2, u3, u4]
    simp only [Option.bind_some, if_neg ne_10]
    rcases inM_le (x := y) (n := 3) (τ := τ) (by decide) with ⟨j, hj, e, r⟩ | ⟨r, r2⟩
    · subst e
      have hix : (130 : Int32) + (4 : Int32) * nI i + nI j = nI (130 + 4 * i + j) := by
        rw [show (4 : Int32) = nI 4 from rfl, show (130 : Int32) = nI 130 from rfl, pk_mul, nI_add, nI_add]
      rw [show (3 : Int32) = nI 3 from rfl, r]
      simp only [Option.bind_some, if_neg ne_10]
      rw [rM_53 hQ, hix, cG_t (inb_nI (by rw [kM_36]; omega) (by decide)), cl_nI (by omega)]
      have f44 : ∀ v, F_X12_drummed_44 v τ = some v := fun _ => rfl
      rw [f44]
      rcases (show j = 0 ∨ j = 1 ∨ j = 2 ∨ j = 3 by omega) with z | z | z | z <;> subst z
      · rw [if_pos (show nI 0 = 0 from rfl)]
        exact ⟨_, rfl, by rw [Nat.add_zero, a5]⟩
      · rw [if_neg (show ¬ nI 1 = 0 by decide), if_pos (show nI 1 = 1 from rfl)]
        exact ⟨_, rfl, by rw [a6]⟩
      · rw [if_neg (show ¬ nI 2 = 0 by decide), if_neg (show ¬ nI 2 = 1 by decide), if_pos (show nI 2 = 2 from rfl)]
        exact ⟨_, rfl, by rw [a7]⟩
      · rw [if_neg (show ¬ nI 3 = 0 by decide), if_neg (show ¬ nI 3 = 1 by decide), if_neg (show ¬ nI 3 = 2 by decide), if_pos rfl]
        exact ⟨_, rfl, by rw [a8]⟩
    · have hne : ∀ j, j ≤ 3 → ¬ y = nI j := fun j hj e => by
        subst e
        rcases r2 with z | z
        · exact nI_pos (by omega) z
        · exact nI_nlt hj (by decide) z
      rw [show (3 : Int32) = nI 3 from rfl, r]
      simp only [Option.bind_some, if_true]
      rw [if_neg (show ¬ y = 0 from hne 0 (by decide)), if_neg (show ¬ y = 1 from hne 1 (by decide)), if_neg (show ¬ y = 2 from hne 2 (by decide)), if_neg (hne 3 (by decide)), n0]
      exact ⟨-1, rfl, rfl⟩
  · rw [q]
    simp only [Option.bind_some, if_true]
    refine ⟨-1, ?_, n0⟩
    by_cases hx : x < 0
    · rw [if_pos hx, c0]
    · rw [if_neg hx, if_pos (q2.resolve_left hx), c0]
theorem row_bt {x : Int32} {m i : Nat} (hm : m < 4) (hi : i < 32) : bt ((x >>> (((6 : Int32) * nI m) &&& 31)) &&& (63 : Int32)) i = (decide (i < 6) && bt x (6 * m + i)) := by
  rw [bt_and, bt_63 i hi, show (6 : Int32) = nI 6 from rfl, pk_mul]
  by_cases h6 : i < 6
  · rw [bt_shr (by omega) (by omega)]
    simp [h6]
  · simp [h6]
theorem bits0 {a b : Bool} (h : (((if a then 1 else 0) ||| (if b then 2 else 0) : Int32)) = 0) : a = false ∧ b = false := by revert h; cases a <;> cases b <;> decide
theorem clashes_ans {b : Nat} {σ τ : hSt} {x : Int32} (h : Rr b σ τ) : ∃ v, F_X11_clashes 0 x σ = some v ∧ F_X12_clashes 0 x τ = some v := by
  obtain ⟨t, li, D, ht, hD, hC, hM, hR⟩ := h
  have hP : HC σ.2.2 := hC.1.1
  have hQ : HM τ.2.2 := hM.1
  have d1 : tH D ≤ 6 := hD.1
  have d2 : tM D ≤ 4 := hD.2.1
  obtain ⟨n, d, hW, -, -, hRH⟩ := hR.2.2.1
  unfold F_X11_clashes F_X12_clashes
  rcases news_eq (x := x) hD ht hC.1 hM with ⟨m, hm, e, q1, q2⟩ | ⟨q1, q2⟩
  · subst e
    rw [q1, q2]
    simp only [Option.bind_some, if_neg ne_10]
    rw [rC_11_5' hP]
    have e1 : F_X10_clashing 44 σ = some (σ.1 44 5 &&& σ.1 44 6) := rfl
    have e2 : ∀ v, F_X11_rowOf v (nI m) σ = some ((v >>> (((6 : Int32) * nI m) &&& 31)) &&& (63 : Int32)) := fun _ => rfl
    have e3 : ∀ v, F_X11_clashes_23 v σ = some v := fun _ => rfl
    rw [e1]
    simp only [Option.bind_some]
    rw [e2]
    simp only [Option.bind_some]
    rw [e3]
    refine ⟨_, rfl, ?_⟩
    unfold F_X12_clashes_14
    obtain ⟨y, g1, g2⟩ := lp_go (s := S_X12_clashes_14 0 (nI m) τ) (tH D) (by rw [fuel_v]; omega) (fun h v => v.2 = nI h ∧ ∀ i, i < 32 → bt v.1 i = (decide (i < h) && (bt (σ.1 44 5) (6 * m + i) && bt (σ.1 44 6) (6 * m + i))))
      (fun z => ∀ i, i < 32 → bt z i = (decide (i < tH D) && (bt (σ.1 44 5) (6 * m + i) && bt (σ.1 44 6) (6 * m + i)))) (v := (0, 0)) ⟨rfl, fun i hi => by rw [bt_0]; simp⟩ (fun h v hh hv => by
        obtain ⟨l2, l3⟩ := v
        obtain ⟨v1, v2⟩ := hv
        dsimp only at v1 v2
        subst v1
        unfold S_X12_clashes_14 F_X12_clashes_14b
        dsimp only
        rw [rM_24 hQ, hM.2.1.1, cG_t (inb_nI (by rw [kM_11]; exact hM.2.1.2) (by decide)), cl_nI (by have := hM.2.1.2; omega), hM.2.2.1.1]
        by_cases hlt : h < tH D
        · left
          have hix : (96 : Int32) + (4 : Int32) * nI h + nI m = nI (96 + (4 * h + m)) := by
            rw [show (4 : Int32) = nI 4 from rfl, show (96 : Int32) = nI 96 from rfl, pk_mul, nI_add, nI_add, Nat.add_assoc]
          have r3 := (hW.1.2.2.2 h m (by omega) (by omega)).2.2.1
          rw [if_neg (nI_ge hlt (by omega)), rM_53 hQ, hix, cG_t (inb_nI (by rw [kM_36]; omega) (by decide)), cl_nI (by omega), r3]
          unfold F_X12_clashes_50 cL
          by_cases hb : (bt (σ.1 44 5) (6 * m + h) && bt (σ.1 44 6) (6 * m + h)) = true
          · rw [if_pos ((bits3 _ _).mpr hb)]
            refine ⟨_, hlt, rfl, nI_1 h, fun i hi => ?_⟩
            dsimp only
            rw [bt_or, bt_pow (by omega) hi, v2 i hi]
            by_cases q : i = h
            · subst q; simp [hb]
            · have e : decide (i < h + 1) = decide (i < h) := decide_eq_decide.mpr (by omega)
              simp [q, e]
          · rw [if_neg (fun q => hb ((bits3 _ _).mp q))]
            refine ⟨_, hlt, rfl, nI_1 h, fun i hi => ?_⟩
            dsimp only
            rw [v2 i hi]
            by_cases q : i = h
            · subst q
              have hb : (bt (σ.1 44 5) (6 * m + i) && bt (σ.1 44 6) (6 * m + i)) = false := by simpa using hb
              rw [hb]; simp
            · have e : decide (i < h + 1) = decide (i < h) := decide_eq_decide.mpr (by omega)
              rw [e]
        · right
          have : h = tH D := by omega
          subst this
          rw [if_pos (nI_le (Nat.le_refl _) (by omega))]
          exact ⟨_, rfl, v2⟩)
    rw [g1]
    congr 1
    apply bt_ext
    intro i hi
    rw [g2 i hi, row_bt (by omega) hi, bt_and]
    by_cases h6 : i < 6
    · by_cases hH : i < tH D
      · simp [h6, hH]
      · have r3 := (hW.1.2.2.2 i m h6 (by omega)).2.2.1
        rw [(hRH i m (by omega) h6 (by omega)).2] at r3
        obtain ⟨z1, z2⟩ := bits0 r3.symm
        simp [z1, z2]
    · have : ¬ i < tH D := by omega
      simp [h6, this]
  · rw [q1, q2]
    simp only [Option.bind_some, if_true]
    exact ⟨-1, rfl, rfl⟩
/-! sure -/
theorem inM_1 {x : Int32} {τ : hSt} : F_X12_in x 1 9 τ = some (if x < 1 then 0 else if 9 < x then 0 else 1) := by
  have f0 : F_X12_in_14 τ = some 0 := rfl
  have f1 : F_X12_in_15 1 τ = some 1 := rfl
  unfold F_X12_in
  split
  · exact f0
  · split
    · exact f0
    · exact f1
theorem inM_x {x z : Int32} {τ : hSt} : F_X12_in x 0 z τ = some (if x < 0 then 0 else if z < x then 0 else 1) := by
  have f0 : F_X12_in_14 τ = some 0 := rfl
  have f1 : F_X12_in_15 1 τ = some 1 := rfl
  unfold F_X12_in
  split
  · exact f0
  · split
    · exact f0
    · exact f1
theorem sure_ans {σ τ : hSt} {x y z w : Int32} : ∃ v, F_X11_sure 0 x y z w σ = some v ∧ F_X12_sure 0 x y z w τ = some v := by
  have n0 : F_X12_sure_40 τ = some (-1) := rfl
  have c0 : F_X11_sure_43 σ = some (-1) := rfl
  unfold F_X11_sure F_X12_sure F_X11_sure_e F_X12_sure_e
  rw [inM_1]
  simp only [Option.bind_some]
  by_cases a1 : y < 1
  · rw [if_pos a1, if_pos a1, if_pos rfl]; exact ⟨-1, c0, n0⟩
  rw [if_neg a1, if_neg a1]
  by_cases a2 : 9 < y
  · rw [if_pos a2, if_pos a2, if_pos rfl]; exact ⟨-1, c0, n0⟩
  rw [if_neg a2, if_neg a2, if_neg ne_10, inM_x]
  simp only [Option.bind_some]
  by_cases b1 : x < 0
  · have : (if w < 1 then F_X11_sure_43 σ else if 9 < w then F_X11_sure_43 σ else if x < 0 then F_X11_sure_43 σ else if y < x then F_X11_sure_43 σ else if z < 0 then F_X11_sure_43 σ else if z ≤ w then F_X11_sure_54 x y z w 1 1 1 σ else F_X11_sure_43 σ) = some (-1) := by
      rw [if_pos b1, c0, ite_self, ite_self]
    rw [this, if_pos b1, if_pos rfl]; exact ⟨-1, rfl, n0⟩
  rw [if_neg b1, if_neg b1]
  by_cases b2 : y < x
  · have : (if w < 1 then F_X11_sure_43 σ else if 9 < w then F_X11_sure_43 σ else if y < x then F_X11_sure_43 σ else if z < 0 then F_X11_sure_43 σ else if z ≤ w then F_X11_sure_54 x y z w 1 1 1 σ else F_X11_sure_43 σ) = some (-1) := by
      rw [if_pos b2, c0, ite_self, ite_self]
    rw [this, if_pos b2, if_pos rfl]; exact ⟨-1, rfl, n0⟩
  rw [if_neg b2, if_neg b2, if_neg ne_10, inM_1]
  simp only [Option.bind_some]
  by_cases e1 : w < 1
  · rw [if_pos e1, if_pos e1, if_pos rfl]; exact ⟨-1, c0, n0⟩
  rw [if_neg e1, if_neg e1]
  by_cases e2 : 9 < w
  · rw [if_pos e2, if_pos e2, if_pos rfl]; exact ⟨-1, c0, n0⟩
  rw [if_neg e2, if_neg e2, if_neg ne_10, inM_x]
  simp only [Option.bind_some]
  by_cases g1 : z < 0
  · rw [if_pos g1, if_pos g1, if_pos rfl]; exact ⟨-1, c0, n0⟩
  rw [if_neg g1, if_neg g1]
  by_cases g2 : w < z
  · rw [if_neg (Int32.not_le.mpr g2), if_pos g2, if_pos rfl]; exact ⟨-1, c0, n0⟩
  rw [if_pos (Int32.not_lt.mp g2), if_neg g2, if_neg ne_10]
  unfold F_X11_sure_54 F_X12_sure_51
  obtain ⟨u, v, h1, h2, h3⟩ := lp_two (s := S_X11_sure_54 x y z w σ) (s' := S_X12_sure_51 x y z w τ) 18 (by rw [fuel_v]; decide) (fun i a c => a.1 = c.2.1 ∧ a.2.1 = c.1 ∧ a.2.2 = nI (i + 1) ∧ c.2.2 = nI (i + 1)) (fun u v => u = v) (v := (1, 1, 1)) (w := (1, 1, 1)) ⟨rfl, rfl, rfl, rfl⟩ (fun i a c hi hac => by
    obtain ⟨p, q, r⟩ := a
    obtain ⟨p', q', r'⟩ := c
    obtain ⟨k1, k2, k3, k4⟩ := hac
    dsimp only at k1 k2 k3 k4
    subst k1 k2 k3 k4
    unfold S_X11_sure_54 F_X11_sure_54b S_X12_sure_51 F_X12_sure_51b cL
    dsimp only
    by_cases hlt : i < 18
    · rw [if_neg (show ¬ (18 : Int32) < nI (i + 1) from nI_nlt (a := 18) (by omega) (by decide)), if_neg (show ¬ (19 : Int32) ≤ nI (i + 1) from nI_ge (b := 19) (by omega) (by decide)), Int64.mul_comm (w.toInt64) _, Int64.mul_comm (z.toInt64) _]
      by_cases hl : (lg_cmp ((p * y.toInt64 - q * x.toInt64) * w.toInt64) (p * y.toInt64 * z.toInt64)) < 0
      · left
        rw [if_pos hl, if_pos hl]
        exact ⟨_, _, hlt, rfl, rfl, rfl, rfl, nI_1 _, nI_1 _⟩
      · right
        rw [if_neg hl, if_neg hl]
        exact ⟨_, _, rfl, rfl, rfl⟩
    · right
      have : i = 18 := by omega
      subst this
      rw [if_pos (show (18 : Int32) < nI (18 + 1) by decide), if_pos (show (19 : Int32) ≤ nI (18 + 1) by decide)]
      exact ⟨_, _, rfl, rfl, rfl⟩)
  exact ⟨u, h1, by rw [h2, h3]⟩
