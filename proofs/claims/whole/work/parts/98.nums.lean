/-! ===== PURE 63: faults of the meaning and numbers, in both ===== -/
theorem tkP_30 {n j : Nat} {b : Nat → Nat} (hn : n ≤ 2000) : tkP n b j < 2 ^ 30 := by
  have := tkP_le (n := n) (b := b) j
  omega
/-- how the fault of the meaning goes on -/
def wN' (w f : Nat) : Nat := if w = 0 then f else w
theorem both_mean {n t k w wp f : Nat} {b : Nat → Nat} {σ τ : hSt} (hn : n ≤ 2000) (h : RdR n b t (k + 1) w wp σ τ) (hf0 : f ≠ 0) (hf : f < 6) (hK : KK n b k ≠ 0) (hw : w ≠ 0 → wp < tkP n b k ∨ (wp = tkP n b k ∧ w = f)) :
    ∃ σ' τ' w' wp', F_X4_mean 37 (nI f) (nI k) σ = some σ' ∧ F_X12_wrong 0 (nI f) (nI k) τ = some τ' ∧ frKC σ σ' ∧ frKM τ τ' ∧ RdR n b t (k + 1) w' wp' σ' τ' ∧ w' ≠ 0 ∧ (wp' < tkP n b k ∨ (wp' = tkP n b k ∧ w' = f)) := by
  obtain ⟨a1, a2, a3, a4, a5, a6⟩ := h
  have hk := a1.2.2.2.2.2.1
  obtain ⟨σ', g1, g2, g3, g4, g5⟩ := meanC (f := f) a1 (show k ≤ 400 by omega) a3 a5
  obtain ⟨c, c1, c2⟩ := a2.2.1
  have hkc : k < c := Nat.lt_of_succ_lt (cov c1 hk a2.2.2.1)
  obtain ⟨τ', p1, p2, p3, p4, p5⟩ := wrongM (f := f) (wp := wp) a2 c2 hkc c1.1 a4 a5 (fun q => ⟨(a6 q).2.1, hw q⟩) (tkP_30 hn)
  by_cases q : w = 0
  · obtain ⟨x1, x2⟩ := g4 q
    obtain ⟨y1, y2⟩ := p4 q
    exact ⟨σ', τ', f, tkP n b k, g1, p1, g2, p2, ⟨g3, p3, x1, y1, hf, fun _ => ⟨x2, y2, tkP_lt hK⟩⟩, hf0, Or.inr ⟨rfl, rfl⟩⟩
  · have x := g5 q
    have y := p5 q
    subst x y
    exact ⟨_, _, w, wp, g1, p1, g2, p2, ⟨a1, a2, a3, a4, a5, a6⟩, q, hw q⟩
theorem numD_C {n t f j : Nat} {b : Nat → Nat} {x y : Int32} {s : hSt} (h : DdC n b t f j s) : F_X4_takeNumber 37 x y s = some (0, s) := by
  unfold F_X4_takeNumber
  rw [show F_X4_take 37 (3 : Int32) s = some (0, s) from takeD h]
  show (if s.1 37 5 = 0 then _ else _) = _
  rw [h.2.2.2.2.1.1, if_neg (show ¬ nI f = 0 by rcases h.2.2.2.2.1.2 with e | e <;> subst e <;> decide)]
  rfl
theorem numD_M {n f j : Nat} {b : Nat → Nat} {x y : Int32} {s : hSt} (h : DdM n b f j s) : F_X12_bounded 0 x y s = some (x, s) := by
  unfold F_X12_bounded F_X12_bounded_15
  rw [if_pos (DdM_pos h).2.2, mfailD h, Option.bind_some]
theorem both_num {n t k w wp lo hi : Nat} {b : Nat → Nat} {σ τ : hSt} (hn : n ≤ 2000) (hb : ∀ i, b i < 256) (h : RdR n b t k w wp σ τ) (hlo : lo < 10000) (hhi : hi < 10000) :
    ∃ x y σ' τ', F_X4_takeNumber 37 (nI lo) (nI hi) σ = some (x, σ') ∧ F_X12_bounded 0 (nI lo) (nI hi) τ = some (y, τ') ∧ frKC σ σ' ∧ frKM τ τ' ∧
      ((∃ m w' wp', KK n b k = 3 ∧ m < 10000 ∧ x = nI m ∧ y = nI m ∧ RdR n b t (k + 1) w' wp' σ' τ' ∧ ((lo ≤ m ∧ m ≤ hi ∧ w' = w ∧ wp' = wp) ∨ w' ≠ 0) ∧ (w' = 0 → w = 0)) ∨ DdR n b t σ' τ') := by
  have hk := h.1.2.2.2.2.2.1
  have e11 := h.2.1.2.2.2.1
  have e13 := h.2.1.2.2.2.2.2
  obtain ⟨v, σ1, g1, g2, g3⟩ := takeA (w := 3) h.1 hb (by decide)
  unfold F_X4_takeNumber F_X12_bounded
  rw [show F_X4_take 37 (3 : Int32) σ = F_X4_take 37 (nI 3) σ from rfl, cC_t g1, e13, if_neg (show ¬ (0 : Int32) < 0 by decide), show F_X12_is 0 (2 : Int32) τ = F_X12_is 0 (nI (mkK 3)) τ from rfl, isA h.2.1 (by decide), Option.bind_some]
  unfold cL
  dsimp only
  have f35 : ∀ x z, F_X4_takeNumber_35 x z = some (x, z) := fun _ _ => rfl
  by_cases k3 : KK n b k = 3
  · obtain ⟨m, m1, m2, m3⟩ := VV_3 k3
    have t5 := ((LvM_tok h.2.1).2.2.1 k3).1
    rw [if_pos k3, if_neg ne_10, rM_7 h.2.1.1, e11, cG_t (inb_nI (by rw [kM_5]; omega) (by decide)), cl_nI (by omega), t5, m2]
    have e51 : ∀ x z, F_X12_bounded_51 0 x z = (F_X12_goesOn 0 z).bind fun σ4 => some (x, σ4) := fun _ _ => rfl
    have ltm : ∀ q, q < 10000 → (nI m < nI q ↔ m < q) := fun q hq => ge_lt m q (by omega) (by omega)
    rcases g3 with ⟨a1, a2, a3, a4⟩ | ⟨a1, a2, a3⟩
    · have x5 : v.toInt32 = nI m := by rw [a3, m3]; exact i64_32 m m1
      rw [x5, a4.2.2.2.2.2.2, if_pos rfl]
      by_cases inr : lo ≤ m ∧ m ≤ hi
      · obtain ⟨τ1, p1, p2, p3⟩ := goA h.2.1 (by rw [k3]; decide)
        rw [if_neg (fun z => by have := (ltm lo hlo).mp z; omega), if_pos (nI_le inr.2 (by omega)), if_neg (fun z => by have := (ltm lo hlo).mp z; omega), if_pos (nI_le inr.2 (by omega)), f35, e51, p1, Option.bind_some]
        refine ⟨_, _, σ1, τ1, rfl, rfl, frKC_T g2, frKM_N p2, ?_⟩
        rcases p3 with ⟨q1, q2⟩ | ⟨q1, q2⟩
        · exact Or.inl ⟨m, w, wp, k3, m1, rfl, rfl, RdR_b h a4 q2 g2 p2 (by rw [k3]; decide), Or.inl ⟨inr.1, inr.2, rfl, rfl⟩, id⟩
        · omega
      · -- out of bounds: the model says so before it goes on
        obtain ⟨b1, b2, b3, b4, b5, b6⟩ := id h
        obtain ⟨c, c1, c2⟩ := b2.2.1
        obtain ⟨τ1, p1, p2, p3, p4, p5⟩ := wrongM (f := 5) (wp := wp) b2 c2 (cov c1 hk b2.2.2.1) c1.1 b4 b5 (fun q => ⟨(b6 q).2.1, Or.inl (b6 q).2.2⟩) (tkP_30 hn)
        obtain ⟨τ2, q1, q2, q3⟩ := goA p3 (by rw [k3]; decide)
        have e42 : F_X12_bounded_42 0 (nI m) τ = some (nI m, τ2) := by
          unfold F_X12_bounded_42
          rw [e11, show F_X12_wrong 0 (5 : Int32) (nI k) τ = F_X12_wrong 0 (nI 5) (nI k) τ from rfl, p1, Option.bind_some, e51, q1, Option.bind_some]
        have s7 : σ1.1 37 7 = nI w := by rw [g2.2.1 7 (by decide) (by decide) (by decide)]; exact b3
        obtain ⟨σ2, r1, r2, r3, r4, r5⟩ := meanC (f := 5) a4 (show k ≤ 400 by omega) s7 b5
        have e24 : F_X4_takeNumber_24 37 (nI m) σ1 = some (nI m, σ2) := by
          unfold F_X4_takeNumber_24
          rw [a4.2.2.2.2.1, nI_pred, show F_X4_mean 37 (5 : Int32) (nI k) σ1 = F_X4_mean 37 (nI 5) (nI k) σ1 from rfl, r1, Option.bind_some, f35]
        have vC : (if nI m < nI lo then F_X4_takeNumber_24 37 (nI m) σ1 else if nI m ≤ nI hi then F_X4_takeNumber_35 (nI m) σ1 else F_X4_takeNumber_24 37 (nI m) σ1) = some (nI m, σ2) := by
          by_cases z : m < lo
          · rw [if_pos (nI_lt z (by omega)), e24]
          · rw [if_neg (fun y => z ((ltm lo hlo).mp y)), if_neg (nI_ge (by omega) (by omega)), e24]
        have vM : (if nI m < nI lo then F_X12_bounded_42 0 (nI m) τ else if nI m ≤ nI hi then F_X12_bounded_51 0 (nI m) τ else F_X12_bounded_42 0 (nI m) τ) = some (nI m, τ2) := by
          by_cases z : m < lo
          · rw [if_pos (nI_lt z (by omega)), e42]
          · rw [if_neg (fun y => z ((ltm lo hlo).mp y)), if_neg (nI_ge (by omega) (by omega)), e42]
        rw [vC, vM]
        refine ⟨_, _, σ2, τ2, rfl, rfl, frKC_trans (frKC_T g2) r2, frKM_trans p2 (frKM_N q2), ?_⟩
        rcases q3 with ⟨y1, y2⟩ | ⟨y1, y2⟩
        · left
          by_cases q : w = 0
          · obtain ⟨x1, x2⟩ := r4 q
            obtain ⟨z1, z2⟩ := p4 q
            refine ⟨m, 5, tkP n b k, k3, m1, rfl, rfl, ⟨r3, y2, x1, ?_, by decide, fun _ => ⟨x2, ?_, tkP_lt (by rw [k3]; decide)⟩⟩, Or.inr (by decide), fun z => by omega⟩
            · rw [q2.2.1 15 (by decide) (by decide) (by decide)]; exact z1
            · rw [q2.2.1 16 (by decide) (by decide) (by decide)]; exact z2
          · have x := r5 q
            have z := p5 q
            subst x z
            refine ⟨m, w, wp, k3, m1, rfl, rfl, RdR_b h r3 y2 g2 q2 (by rw [k3]; decide), Or.inr q, id⟩
        · omega
    · have k400 : k = 400 := by
        by_cases z : k < 400
        · exact absurd ⟨k3, z⟩ a1
        · omega
      rw [if_pos k3] at a3
      have cl : (if σ1.1 37 5 = 0 then if v.toInt32 < nI lo then F_X4_takeNumber_24 37 v.toInt32 σ1 else if v.toInt32 ≤ nI hi then F_X4_takeNumber_35 v.toInt32 σ1 else F_X4_takeNumber_24 37 v.toInt32 σ1 else F_X4_takeNumber_35 v.toInt32 σ1) = some (v.toInt32, σ1) := by
        rw [a3.2.2.2.2.1.1, if_neg (by decide), f35]
      rw [cl]
      have fin : ∀ z, LvM n b k z → frKM τ z → ∃ z', F_X12_bounded_51 0 (nI m) z = some (nI m, z') ∧ frKM τ z' ∧ DdM n b 2 k z' := fun z hz fz => by
        obtain ⟨z', q1, q2, q3⟩ := goA hz (by rw [k3]; decide)
        refine ⟨z', by rw [e51, q1, Option.bind_some], frKM_trans fz (frKM_N q2), ?_⟩
        rcases q3 with ⟨y1, y2⟩ | ⟨y1, y2⟩
        · omega
        · exact y2
      obtain ⟨b1, b2, b3, b4, b5, b6⟩ := id h
      obtain ⟨c, c1, c2⟩ := b2.2.1
      obtain ⟨τ1, p1, p2, p3, p4, p5⟩ := wrongM (f := 5) (wp := wp) b2 c2 (cov c1 hk b2.2.2.1) c1.1 b4 b5 (fun q => ⟨(b6 q).2.1, Or.inl (b6 q).2.2⟩) (tkP_30 hn)
      have e42 : F_X12_bounded_42 0 (nI m) τ = F_X12_bounded_51 0 (nI m) τ1 := by
        unfold F_X12_bounded_42
        rw [e11, show F_X12_wrong 0 (5 : Int32) (nI k) τ = F_X12_wrong 0 (nI 5) (nI k) τ from rfl, p1, Option.bind_some]
      obtain ⟨za, za1, za2, za3⟩ := fin τ b2 frKM_rfl
      obtain ⟨zb, zb1, zb2, zb3⟩ := fin τ1 p3 p2
      rw [e42, za1, zb1]
      by_cases z : nI m < nI lo
      · rw [if_pos z]
        exact ⟨_, _, σ1, zb, rfl, rfl, frKC_T g2, zb2, Or.inr ⟨2, k, a3, zb3⟩⟩
      · rw [if_neg z]
        by_cases y : nI m ≤ nI hi
        · rw [if_pos y]
          exact ⟨_, _, σ1, za, rfl, rfl, frKC_T g2, za2, Or.inr ⟨2, k, a3, za3⟩⟩
        · rw [if_neg y]
          exact ⟨_, _, σ1, zb, rfl, rfl, frKC_T g2, zb2, Or.inr ⟨2, k, a3, zb3⟩⟩
  · rw [if_neg k3, if_pos rfl]
    rcases g3 with ⟨a1, -⟩ | ⟨a1, a2, a3⟩
    · exact absurd a1 k3
    · rw [if_neg k3] at a3
      obtain ⟨τ1, p1, p2, p3⟩ := mfailA (f := 1) h.2.1 (Or.inl rfl)
      have cl : (if σ1.1 37 5 = 0 then if v.toInt32 < nI lo then F_X4_takeNumber_24 37 v.toInt32 σ1 else if v.toInt32 ≤ nI hi then F_X4_takeNumber_35 v.toInt32 σ1 else F_X4_takeNumber_24 37 v.toInt32 σ1 else F_X4_takeNumber_35 v.toInt32 σ1) = some (v.toInt32, σ1) := by
        rw [a3.2.2.2.2.1.1, if_neg (by decide), f35]
      rw [cl]
      unfold F_X12_bounded_15
      rw [show F_X12_fail 0 (1 : Int32) τ = F_X12_fail 0 (nI 1) τ from rfl, p1, Option.bind_some]
      exact ⟨_, _, σ1, τ1, rfl, rfl, frKC_T g2, frKM_N p3, Or.inr ⟨1, k, a3, p2⟩⟩
