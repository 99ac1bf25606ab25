/-! ===== PURE 57: products and sums in the class ===== -/
theorem prodC {n t m : Nat} {b : Nat → Nat} {fS : Nat → Int32 → hSt → Option hSt} (hb : ∀ i, b i < 256) (hm : m ≤ 6) (IH : m < 6 → SumH n b t (m + 1) fS) {k L : Nat} {s : hSt} (h : LvC n b t k s) (hL : L ≤ k) (e : s.1 (t + 4) 2 = nI L) :
    ∃ s', F_X4_parseProduct fS 37 (nI m) s = some s' ∧ outE n b t k L m (2 + 2 * (6 - m)) (flr true) (fun w => isS w) (fun K => ¬ isS K) s s' := by
  have hk : k ≤ 400 := h.2.2.2.2.2.1
  have ht := h.2.2.1
  obtain ⟨t1, t2, t3⟩ := t_ok ht
  have f67 : ∀ z, F_X4_parseProduct_67 fS z = some z := fun _ => rfl
  unfold F_X4_parseProduct F_X4_parseProduct_7
  obtain ⟨s1, g1, g2, g3, g4⟩ := unitC (m := m) hb hm IH h hL e
  rw [g1, Option.bind_some]
  have lawF : ∀ {α : Type} (z : hSt) (hz : HC z.2.2) (hz2 : z.2.2 37 3 = some t) (f : Nat → Option α), (cR (z.2.2 37 3) (okr kC NC 7) fun z18 => cR (z.2.2 z18 5) (okr kC NC 0) fun z19 => f z19) = f (t + 4) := fun z hz hz2 f => by
    rw [r37 hz2 ht, rC_7_5 hz t1]
  refine lp_go 401 (by rw [fuel_v]; decide)
    (fun i w => ∃ s1, w = (nI i, s1) ∧ frX t s s1 ∧ (∃ L', L' ≤ 401 ∧ s1.1 (t + 4) 2 = nI L') ∧
      ((∃ k' os os1 pend, k + i < k' ∧ LvC n b t k' s1 ∧ s1.1 (t + 4) 2 = nI (L + os.length) ∧ os.length ≤ k' - k ∧ (∀ j, j < L → s1.1 (t + 5) j = s.1 (t + 5) j) ∧ cOps (s1.1 (t + 5)) L os ∧ opsOk (2 + 2 * (6 - m)) os 0 1 ∧ (fun _ => True) (KK n b k') ∧ os = os1 ++ pend.map em ∧ (∀ w, w ∈ pend → (fun w => isS w) w) ∧
        ∀ W C, flr true W → Rm (KK n b) (VV n b) true k m W C = Rm (KK n b) (VV n b) false k' m (pend ++ W) (C ++ os1)) ∨
       (∃ f j, DdC n b t f j s1 ∧ ∀ W C, flr true W → Rm (KK n b) (VV n b) true k m W C = .inr (f, j))))
    (fun x => outE n b t k L m (2 + 2 * (6 - m)) (flr true) (fun w => isS w) (fun K => ¬ isS K) s x) ⟨s1, rfl, g2, g3, ?_⟩ (fun i w hi hw => ?_)
  · rcases g4 with ⟨k', os, os1, pend, a1, a2, a3, a4, a5, a6, a7, a8, a9, a10, a11⟩ | ⟨f, j, a1, a2⟩
    · exact Or.inl ⟨k', os, os1, pend, a1, a2, a3, a4, a5, a6, opsOk_mono (by omega) os 0 1 a7, a8, a9, fun w hw => absurd (a10 w hw) id, fun W C hW => a11 W C (trivial)⟩
    · exact Or.inr ⟨f, j, a1, fun W C hW => a2 W C (trivial)⟩
  · obtain ⟨s1, a0, b1, b2, b3⟩ := hw
    subst a0
    unfold S_X4_parseProduct_7 F_X4_parseProduct_7b
    dsimp only
    rcases b3 with ⟨k', os, os1, pend, a1, a2, a3, a4, a5, a6, a7, a8, a9, a10, a11⟩ | ⟨f, j, a1, a2⟩
    · have hk' : k' ≤ 400 := a2.2.2.2.2.2.1
      have hK := KK_lt (n := n) hb k'
      have cmp := KK_cmp hK
      rw [if_neg (show ¬ (401 : Int32) ≤ nI i from nI_ge (b := 401) (by omega) (by decide)), kindA a2, Option.bind_some, Option.bind_some]
      by_cases op : isS (KK n b k')
      · left
        have v32 : (if nI (KK n b k') = (42 : Int32) then F_X4_parseProduct_32 fS 37 (nI m) (nI i) s1 else if nI (KK n b k') = (47 : Int32) then F_X4_parseProduct_32 fS 37 (nI m) (nI i) s1 else (F_X4_parseProduct_67 fS s1).map (fun x => .inr x)) = F_X4_parseProduct_32 fS 37 (nI m) (nI i) s1 := by
          rcases op with z | z
          · rw [if_pos (show nI (KK n b k') = (42 : Int32) from congrArg nI z)]
          · rw [if_neg (show ¬ nI (KK n b k') = (42 : Int32) from fun y => by have := (cmp 42 (by decide)).mp y; omega), if_pos (show nI (KK n b k') = (47 : Int32) from congrArg nI z)]
        rw [v32]
        unfold F_X4_parseProduct_32
        rw [kindA a2, Option.bind_some]
        have n41 : ¬ (KK n b k' = 41 ∧ 0 < m) := fun z => by rcases op with y | y <;> omega
        have dS : decide (isS (KK n b k')) = true := by
          rcases op with y | y <;> rw [y] <;> decide
        have pp : ∀ W, flr true W → pop true (pend ++ W) = (W, pend.map em) := fun W hW => pop_app hW pend (fun w hw => by
          have := a10 w hw
          rintro (z | z)
          · subst z; revert this; decide
          · rcases z.2 with y | y <;> subst y <;> revert this <;> decide)
        have RA : ∀ W C, flr true W → Rm (KK n b) (VV n b) true k m W C = if k' = 400 then .inr (2, k') else Rm (KK n b) (VV n b) true (k' + 1) m (KK n b k' :: W) (C ++ os) := fun W C hW => by
          rw [a11 W C hW, Rm_A hk', if_neg n41, if_pos (Or.inl op), dS, pp W hW]
          show (if k' = 400 then _ else Rm (KK n b) (VV n b) true (k' + 1) m (KK n b k' :: W) (C ++ os1 ++ pend.map em)) = _
          rw [List.append_assoc, ← a9]
        obtain ⟨v, s2, c1, c2, c3⟩ := takeA (w := KK n b k') a2 hb hK
        rw [cC_t c1]
        have e2 : s2.1 (t + 4) 2 = nI (L + os.length) := by rw [c2.2.2 (t + 4) (by omega)]; exact a3
        rcases c3 with ⟨d1, d2, d3, d4⟩ | ⟨d1, d2, d3⟩
        · obtain ⟨s3, p1, p2, p3, p4⟩ := unitC (m := m) hb hm IH d4 (by omega) e2
          rw [p1, Option.bind_some]
          rcases p4 with ⟨k2, ou, ou1, pu, q1, q2, q3, q4, q5, q6, q7, q8, q9, q10, q11⟩ | ⟨f, j, q1, q2⟩
          · have hk2 : k2 ≤ 400 := q2.2.2.2.2.2.1
            obtain ⟨s4, r1, r2, r3, r4, r5, r6⟩ := putC (x := -nI (KK n b k')) q2 (show L + os.length + ou.length ≤ 400 by omega) q3
            obtain ⟨em1, em2, em3⟩ := enc_em (KK n b k') (Or.inl op)
            rw [lawF s3 q2.1 q2.2.1, cC_t r1]
            unfold cL
            rw [nI_1]
            refine ⟨_, by omega, rfl, s4, rfl, frX_trans b1 (frX_trans (frX_T ht c2) (frX_trans p2 r2)), ⟨_, by omega, r4⟩, Or.inl ⟨k2, os ++ ou ++ [em (KK n b k')], os ++ ou1, pu ++ [KK n b k'], by omega, r3, ?_, ?_, fun j hj => ?_, ?_, ?_, q8, ?_, fun w hw => ?_, fun W C hW => ?_⟩⟩
            · rw [r4, List.length_append, List.length_append, List.length_singleton]
              exact congrArg nI (by omega)
            · rw [List.length_append, List.length_append, List.length_singleton]
              omega
            · rw [r6 j (by omega), q5 j (by omega), c2.2.2 (t + 5) (by omega)]
              exact a5 j hj
            · refine (cOps_app _ _ _).mpr ⟨(cOps_app _ _ _).mpr ⟨?_, ?_⟩, ?_⟩
              · refine cOps_congr os L (fun j p r => ?_) a6
                rw [r6 j (by omega), q5 j (by omega), c2.2.2 (t + 5) (by omega)]
              · exact cOps_congr ou _ (fun j p r => r6 j (by omega)) q6
              · rw [List.length_append]
                refine ⟨?_, fun z => by omega, fun z => by omega, trivial⟩
                rw [show L + (os.length + ou.length) = L + os.length + ou.length by omega, r5, em1]
            · refine opsOk_append _ _ 0 2 1 (opsOk_append _ _ 0 1 2 a7 (opsOk_sh (b := 1) (by omega) ou 0 1 q7)) ?_
              show opsOk _ (em (KK n b k') :: []) 2 1
              unfold opsOk
              rw [if_neg (by omega)]
              exact ⟨em3, by omega, rfl⟩
            · rw [q9, List.map_append]
              simp only [List.append_assoc]
              rfl
            · rcases List.mem_append.mp hw with z | z
              · exact absurd (q10 w z) id
              · have : w = KK n b k' := by simpa using z
                rw [this]
                exact op
            · rw [RA W C hW, if_neg (by omega), q11 _ _ (trivial)]
              rw [List.append_assoc, List.append_assoc]
              rfl
          · obtain ⟨v', s4, r1, r2, r3, r4⟩ := putD (x := -nI (KK n b k')) q1 p3
            rw [lawF s3 q1.1 q1.2.1, cC_t r1]
            unfold cL
            rw [nI_1]
            refine ⟨_, by omega, rfl, s4, rfl, frX_trans b1 (frX_trans (frX_T ht c2) (frX_trans p2 r2)), r4, Or.inr ⟨f, j, r3, fun W C hW => ?_⟩⟩
            rw [RA W C hW, if_neg (by omega)]
            exact q2 _ _ (trivial)
        · have q400 : k' = 400 := by
            by_cases z : k' < 400
            · exact absurd ⟨rfl, z⟩ d1
            · omega
          rw [if_pos rfl] at d3
          rw [unitD d3, Option.bind_some]
          obtain ⟨v', s4, r1, r2, r3, r4⟩ := putD (x := -nI (KK n b k')) d3 ⟨_, by omega, e2⟩
          rw [lawF s2 d3.1 d3.2.1, cC_t r1]
          unfold cL
          rw [nI_1]
          refine ⟨_, by omega, rfl, s4, rfl, frX_trans b1 (frX_trans (frX_T ht c2) r2), r4, Or.inr ⟨2, k', r3, fun W C hW => ?_⟩⟩
          rw [RA W C hW, if_pos q400]
      · right
        rw [if_neg (show ¬ nI (KK n b k') = (42 : Int32) from fun y => op (Or.inl ((cmp 42 (by decide)).mp y))), if_neg (show ¬ nI (KK n b k') = (47 : Int32) from fun y => op (Or.inr ((cmp 47 (by decide)).mp y))), f67]
        exact ⟨s1, rfl, b1, b2, Or.inl ⟨k', os, os1, pend, by omega, a2, a3, a4, a5, a6, a7, op, a9, a10, a11⟩⟩
    · right
      have fin : outE n b t k L m (2 + 2 * (6 - m)) (flr true) (fun w => isS w) (fun K => ¬ isS K) s s1 := ⟨b1, b2, Or.inr ⟨f, j, a1, a2⟩⟩
      rw [kindD a1, Option.bind_some, Option.bind_some, if_neg (show ¬ (1 : Int32) = 42 by decide), if_neg (show ¬ (1 : Int32) = 47 by decide), f67]
      refine ⟨s1, ?_, fin⟩
      split <;> rfl
theorem sumC {n t m : Nat} {b : Nat → Nat} {fS : Nat → Int32 → hSt → Option hSt} (hb : ∀ i, b i < 256) (hm : m ≤ 6) (IH : m < 6 → SumH n b t (m + 1) fS) {k L : Nat} {s : hSt} (h : LvC n b t k s) (hL : L ≤ k) (e : s.1 (t + 4) 2 = nI L) :
    ∃ s', F_X4_parseSum fS 37 (nI m) s = some s' ∧ outE n b t k L m (3 + 2 * (6 - m)) (flr false) (fun w => isS w ∨ isW w) (fun K => ¬ isS K ∧ ¬ isW K) s s' := by
  have hk : k ≤ 400 := h.2.2.2.2.2.1
  have ht := h.2.2.1
  obtain ⟨t1, t2, t3⟩ := t_ok ht
  have f67 : ∀ z, F_X4_parseSum_67 fS z = some z := fun _ => rfl
  unfold F_X4_parseSum F_X4_parseSum_7
  obtain ⟨s1, g1, g2, g3, g4⟩ := prodC (m := m) hb hm IH h hL e
  rw [g1, Option.bind_some]
  have lawF : ∀ {α : Type} (z : hSt) (hz : HC z.2.2) (hz2 : z.2.2 37 3 = some t) (f : Nat → Option α), (cR (z.2.2 37 3) (okr kC NC 7) fun z18 => cR (z.2.2 z18 5) (okr kC NC 0) fun z19 => f z19) = f (t + 4) := fun z hz hz2 f => by
    rw [r37 hz2 ht, rC_7_5 hz t1]
  refine lp_go 401 (by rw [fuel_v]; decide)
    (fun i w => ∃ s1, w = (nI i, s1) ∧ frX t s s1 ∧ (∃ L', L' ≤ 401 ∧ s1.1 (t + 4) 2 = nI L') ∧
      ((∃ k' os os1 pend, k + i < k' ∧ LvC n b t k' s1 ∧ s1.1 (t + 4) 2 = nI (L + os.length) ∧ os.length ≤ k' - k ∧ (∀ j, j < L → s1.1 (t + 5) j = s.1 (t + 5) j) ∧ cOps (s1.1 (t + 5)) L os ∧ opsOk (3 + 2 * (6 - m)) os 0 1 ∧ (fun K => ¬ isS K) (KK n b k') ∧ os = os1 ++ pend.map em ∧ (∀ w, w ∈ pend → (fun w => isS w ∨ isW w) w) ∧
        ∀ W C, flr false W → Rm (KK n b) (VV n b) true k m W C = Rm (KK n b) (VV n b) false k' m (pend ++ W) (C ++ os1)) ∨
       (∃ f j, DdC n b t f j s1 ∧ ∀ W C, flr false W → Rm (KK n b) (VV n b) true k m W C = .inr (f, j))))
    (fun x => outE n b t k L m (3 + 2 * (6 - m)) (flr false) (fun w => isS w ∨ isW w) (fun K => ¬ isS K ∧ ¬ isW K) s x) ⟨s1, rfl, g2, g3, ?_⟩ (fun i w hi hw => ?_)
  · rcases g4 with ⟨k', os, os1, pend, a1, a2, a3, a4, a5, a6, a7, a8, a9, a10, a11⟩ | ⟨f, j, a1, a2⟩
    · exact Or.inl ⟨k', os, os1, pend, a1, a2, a3, a4, a5, a6, opsOk_mono (by omega) os 0 1 a7, a8, a9, fun w hw => Or.inl (a10 w hw), fun W C hW => a11 W C (fun w W' q => (hW w W' q).elim Or.inl (fun z => absurd z.1 (by decide)))⟩
    · exact Or.inr ⟨f, j, a1, fun W C hW => a2 W C (fun w W' q => (hW w W' q).elim Or.inl (fun z => absurd z.1 (by decide)))⟩
  · obtain ⟨s1, a0, b1, b2, b3⟩ := hw
    subst a0
    unfold S_X4_parseSum_7 F_X4_parseSum_7b
    dsimp only
    rcases b3 with ⟨k', os, os1, pend, a1, a2, a3, a4, a5, a6, a7, a8, a9, a10, a11⟩ | ⟨f, j, a1, a2⟩
    · have hk' : k' ≤ 400 := a2.2.2.2.2.2.1
      have hK := KK_lt (n := n) hb k'
      have cmp := KK_cmp hK
      rw [if_neg (show ¬ (401 : Int32) ≤ nI i from nI_ge (b := 401) (by omega) (by decide)), kindA a2, Option.bind_some, Option.bind_some]
      by_cases op : isW (KK n b k')
      · left
        have v32 : (if nI (KK n b k') = (43 : Int32) then F_X4_parseSum_32 fS 37 (nI m) (nI i) s1 else if nI (KK n b k') = (45 : Int32) then F_X4_parseSum_32 fS 37 (nI m) (nI i) s1 else (F_X4_parseSum_67 fS s1).map (fun x => .inr x)) = F_X4_parseSum_32 fS 37 (nI m) (nI i) s1 := by
          rcases op with z | z
          · rw [if_pos (show nI (KK n b k') = (43 : Int32) from congrArg nI z)]
          · rw [if_neg (show ¬ nI (KK n b k') = (43 : Int32) from fun y => by have := (cmp 43 (by decide)).mp y; omega), if_pos (show nI (KK n b k') = (45 : Int32) from congrArg nI z)]
        rw [v32]
        unfold F_X4_parseSum_32
        rw [kindA a2, Option.bind_some]
        have n41 : ¬ (KK n b k' = 41 ∧ 0 < m) := fun z => by rcases op with y | y <;> omega
        have dS : decide (isS (KK n b k')) = false := by
          rcases op with y | y <;> rw [y] <;> decide
        have pp : ∀ W, flr false W → pop false (pend ++ W) = (W, pend.map em) := fun W hW => pop_app hW pend (fun w hw => by
          have := a10 w hw
          rintro (z | z)
          · subst z; revert this; decide
          · exact absurd z.1 (by decide))
        have RA : ∀ W C, flr false W → Rm (KK n b) (VV n b) true k m W C = if k' = 400 then .inr (2, k') else Rm (KK n b) (VV n b) true (k' + 1) m (KK n b k' :: W) (C ++ os) := fun W C hW => by
          rw [a11 W C hW, Rm_A hk', if_neg n41, if_pos (Or.inr op), dS, pp W hW]
          show (if k' = 400 then _ else Rm (KK n b) (VV n b) true (k' + 1) m (KK n b k' :: W) (C ++ os1 ++ pend.map em)) = _
          rw [List.append_assoc, ← a9]
        obtain ⟨v, s2, c1, c2, c3⟩ := takeA (w := KK n b k') a2 hb hK
        rw [cC_t c1]
        have e2 : s2.1 (t + 4) 2 = nI (L + os.length) := by rw [c2.2.2 (t + 4) (by omega)]; exact a3
        rcases c3 with ⟨d1, d2, d3, d4⟩ | ⟨d1, d2, d3⟩
        · obtain ⟨s3, p1, p2, p3, p4⟩ := prodC (m := m) hb hm IH d4 (by omega) e2
          rw [p1, Option.bind_some]
          rcases p4 with ⟨k2, ou, ou1, pu, q1, q2, q3, q4, q5, q6, q7, q8, q9, q10, q11⟩ | ⟨f, j, q1, q2⟩
          · have hk2 : k2 ≤ 400 := q2.2.2.2.2.2.1
            obtain ⟨s4, r1, r2, r3, r4, r5, r6⟩ := putC (x := -nI (KK n b k')) q2 (show L + os.length + ou.length ≤ 400 by omega) q3
            obtain ⟨em1, em2, em3⟩ := enc_em (KK n b k') (Or.inr op)
            rw [lawF s3 q2.1 q2.2.1, cC_t r1]
            unfold cL
            rw [nI_1]
            refine ⟨_, by omega, rfl, s4, rfl, frX_trans b1 (frX_trans (frX_T ht c2) (frX_trans p2 r2)), ⟨_, by omega, r4⟩, Or.inl ⟨k2, os ++ ou ++ [em (KK n b k')], os ++ ou1, pu ++ [KK n b k'], by omega, r3, ?_, ?_, fun j hj => ?_, ?_, ?_, q8, ?_, fun w hw => ?_, fun W C hW => ?_⟩⟩
            · rw [r4, List.length_append, List.length_append, List.length_singleton]
              exact congrArg nI (by omega)
            · rw [List.length_append, List.length_append, List.length_singleton]
              omega
            · rw [r6 j (by omega), q5 j (by omega), c2.2.2 (t + 5) (by omega)]
              exact a5 j hj
            · refine (cOps_app _ _ _).mpr ⟨(cOps_app _ _ _).mpr ⟨?_, ?_⟩, ?_⟩
              · refine cOps_congr os L (fun j p r => ?_) a6
                rw [r6 j (by omega), q5 j (by omega), c2.2.2 (t + 5) (by omega)]
              · exact cOps_congr ou _ (fun j p r => r6 j (by omega)) q6
              · rw [List.length_append]
                refine ⟨?_, fun z => by omega, fun z => by omega, trivial⟩
                rw [show L + (os.length + ou.length) = L + os.length + ou.length by omega, r5, em1]
            · refine opsOk_append _ _ 0 2 1 (opsOk_append _ _ 0 1 2 a7 (opsOk_sh (b := 1) (by omega) ou 0 1 q7)) ?_
              show opsOk _ (em (KK n b k') :: []) 2 1
              unfold opsOk
              rw [if_neg (by omega)]
              exact ⟨em3, by omega, rfl⟩
            · rw [q9, List.map_append]
              simp only [List.append_assoc]
              rfl
            · rcases List.mem_append.mp hw with z | z
              · exact Or.inl (q10 w z)
              · have : w = KK n b k' := by simpa using z
                rw [this]
                exact Or.inr op
            · rw [RA W C hW, if_neg (by omega), q11 _ _ (fun w W' q => Or.inr ⟨rfl, (List.cons.inj q).1 ▸ op⟩)]
              rw [List.append_assoc, List.append_assoc]
              rfl
          · obtain ⟨v', s4, r1, r2, r3, r4⟩ := putD (x := -nI (KK n b k')) q1 p3
            rw [lawF s3 q1.1 q1.2.1, cC_t r1]
            unfold cL
            rw [nI_1]
            refine ⟨_, by omega, rfl, s4, rfl, frX_trans b1 (frX_trans (frX_T ht c2) (frX_trans p2 r2)), r4, Or.inr ⟨f, j, r3, fun W C hW => ?_⟩⟩
            rw [RA W C hW, if_neg (by omega)]
            exact q2 _ _ (fun w W' q => Or.inr ⟨rfl, (List.cons.inj q).1 ▸ op⟩)
        · have q400 : k' = 400 := by
            by_cases z : k' < 400
            · exact absurd ⟨rfl, z⟩ d1
            · omega
          rw [if_pos rfl] at d3
          rw [prodD d3, Option.bind_some]
          obtain ⟨v', s4, r1, r2, r3, r4⟩ := putD (x := -nI (KK n b k')) d3 ⟨_, by omega, e2⟩
          rw [lawF s2 d3.1 d3.2.1, cC_t r1]
          unfold cL
          rw [nI_1]
          refine ⟨_, by omega, rfl, s4, rfl, frX_trans b1 (frX_trans (frX_T ht c2) r2), r4, Or.inr ⟨2, k', r3, fun W C hW => ?_⟩⟩
          rw [RA W C hW, if_pos q400]
      · right
        rw [if_neg (show ¬ nI (KK n b k') = (43 : Int32) from fun y => op (Or.inl ((cmp 43 (by decide)).mp y))), if_neg (show ¬ nI (KK n b k') = (45 : Int32) from fun y => op (Or.inr ((cmp 45 (by decide)).mp y))), f67]
        exact ⟨s1, rfl, b1, b2, Or.inl ⟨k', os, os1, pend, by omega, a2, a3, a4, a5, a6, a7, ⟨a8, op⟩, a9, a10, a11⟩⟩
    · right
      have fin : outE n b t k L m (3 + 2 * (6 - m)) (flr false) (fun w => isS w ∨ isW w) (fun K => ¬ isS K ∧ ¬ isW K) s s1 := ⟨b1, b2, Or.inr ⟨f, j, a1, a2⟩⟩
      rw [kindD a1, Option.bind_some, Option.bind_some, if_neg (show ¬ (1 : Int32) = 43 by decide), if_neg (show ¬ (1 : Int32) = 45 by decide), f67]
      refine ⟨s1, ?_, fin⟩
      split <;> rfl
/-- the whole of it, to the depth that is asked -/
theorem FS_ok {n t : Nat} {b : Nat → Nat} (hb : ∀ i, b i < 256) : ∀ e m, m + e = 8 → m ≤ 6 → SumH n b t m (FS e)
  | 0, m, h1, h2 => by omega
  | 1, m, h1, h2 => by omega
  | e + 2, m, h1, h2 => by
    refine ⟨fun k L s h hL hl => ?_, fun f j s h => ?_⟩
    · exact sumC hb h2 (fun h6 => FS_ok hb (e + 1) (m + 1) (by omega) (by omega)) h hL hl
    · exact sumD h
