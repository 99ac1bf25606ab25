/-! ===== PURE 56: terms in the class, against the machine ===== -/
theorem cOps_app {C : Nat → Int32} : ∀ (os ps : Ops) (a : Nat), cOps C a (os ++ ps) ↔ cOps C a os ∧ cOps C (a + os.length) ps
  | [], ps, a => ⟨fun h => ⟨trivial, h⟩, fun h => h.2⟩
  | o :: os, ps, a => by
    have ih := cOps_app (C := C) os ps (a + 1)
    have e : a + (o :: os).length = a + 1 + os.length := by rw [List.length_cons]; omega
    rw [e]
    show (C a = encO o ∧ _ ∧ _ ∧ cOps C (a + 1) (os ++ ps)) ↔ (C a = encO o ∧ _ ∧ _ ∧ cOps C (a + 1) os) ∧ _
    rw [ih]
    constructor
    · rintro ⟨h1, h2, h3, h4, h5⟩
      exact ⟨⟨h1, h2, h3, h4⟩, h5⟩
    · rintro ⟨⟨h1, h2, h3, h4⟩, h5⟩
      exact ⟨h1, h2, h3, h4, h5⟩
theorem cOps_congr {C C' : Nat → Int32} : ∀ (os : Ops) (a : Nat), (∀ j, a ≤ j → j < a + os.length → C' j = C j) → cOps C a os → cOps C' a os
  | [], _, _, _ => trivial
  | o :: os, a, h, q => by
    have q : C a = encO o ∧ _ ∧ _ ∧ cOps C (a + 1) os := q
    rw [List.length_cons] at h
    exact ⟨(h a (Nat.le_refl _) (by omega)).trans q.1, q.2.1, q.2.2.1, cOps_congr os (a + 1) (fun j p r => h j (by omega) (by omega)) q.2.2.2⟩
/-- how the reading of a piece of a term ends -/
def outE (n : Nat) (b : Nat → Nat) (t k L d u : Nat) (flo : List Nat → Prop) (pk tl : Nat → Prop) (s s' : hSt) : Prop :=
  frX t s s' ∧ (∃ L', L' ≤ 401 ∧ s'.1 (t + 4) 2 = nI L') ∧
  ((∃ k' os os1 pend, k < k' ∧ LvC n b t k' s' ∧ s'.1 (t + 4) 2 = nI (L + os.length) ∧ os.length ≤ k' - k ∧ (∀ j, j < L → s'.1 (t + 5) j = s.1 (t + 5) j) ∧ cOps (s'.1 (t + 5)) L os ∧ opsOk u os 0 1 ∧ tl (KK n b k') ∧ os = os1 ++ pend.map em ∧ (∀ w, w ∈ pend → pk w) ∧
      ∀ W C, flo W → Rm (KK n b) (VV n b) true k d W C = Rm (KK n b) (VV n b) false k' d (pend ++ W) (C ++ os1)) ∨
   (∃ f j, DdC n b t f j s' ∧ ∀ W C, flo W → Rm (KK n b) (VV n b) true k d W C = .inr (f, j)))
/-- what is asked of the terms within -/
def SumH (n : Nat) (b : Nat → Nat) (t m : Nat) (fS : Nat → Int32 → hSt → Option hSt) : Prop :=
  (∀ k L s, LvC n b t k s → L ≤ k → s.1 (t + 4) 2 = nI L → ∃ s', fS 37 (nI m) s = some s' ∧ outE n b t k L m (3 + 2 * (6 - m)) (flr false) (fun w => isS w ∨ isW w) (fun K => ¬ isS K ∧ ¬ isW K) s s') ∧
  (∀ f j s, DdC n b t f j s → fS 37 (nI m) s = some s)
theorem tkV_3 {n p : Nat} {b : Nat → Nat} (h : tkK n b p = 3) (hp : p ≤ n) : ∃ v, v < 10000 ∧ tkV n b p = Int64.ofNat v := by
  unfold tkK at h
  unfold tkV
  by_cases q : n ≤ p
  · rw [if_pos q] at h; cases h
  · rw [if_neg q] at h ⊢
    by_cases l : isLt (b p) = true
    · rw [if_pos l] at h
      revert h
      split
      · intro z; cases z
      · intro z
        rcases wK_r (f := fun j => b (p + j)) (k := rn isLt n b p - p) with y | y <;> omega
    · rw [if_neg l] at h ⊢
      by_cases g : isDg (b p) = true
      · rw [if_pos g] at h ⊢
        have k4 : rn isDg n b p - p ≤ 4 := by
          revert h
          split
          · intro z; cases z
          · intro _; omega
        obtain ⟨r1, r2, r3⟩ := rn_b (p := isDg) (b := b) hp
        exact ⟨_, Nat.lt_of_lt_of_le (dn_lt _ (fun j hj => isDg_r (r3 _ (by omega) (by omega)))) (Nat.pow_le_pow_right (by decide) k4), rfl⟩
      · rw [if_neg g] at h
        revert h
        split
        · intro z
          rename_i s
          rw [z] at s
          exact absurd s (by decide)
        · intro z; cases z
theorem i64_32 : ∀ v, v < 10000 → (Int64.ofNat v).toInt32 = nI v := fun v hv => by
  refine Int32.toBitVec_inj.mp (BitVec.eq_of_toNat_eq ?_)
  rw [Int64.toBitVec_toInt32]
  show (BitVec.signExtend 32 (BitVec.ofNat 64 v)).toNat = (BitVec.ofNat 32 v).toNat
  rw [BitVec.signExtend_eq_setWidth_of_le _ (by decide), BitVec.toNat_setWidth, BitVec.toNat_ofNat, BitVec.toNat_ofNat]
  omega
theorem VV_3 {n k : Nat} {b : Nat → Nat} (h : KK n b k = 3) : ∃ v, v < 10000 ∧ VV n b k = nI v ∧ tkV n b (tkP n b k) = Int64.ofNat v := by
  obtain ⟨v, h1, h2⟩ := tkV_3 h (tkP_le k)
  exact ⟨v, h1, by unfold VV; rw [h2]; exact i64_32 v h1, h2⟩
theorem enc_em : ∀ w, (isS w ∨ isW w) → encO (em w) = -nI w ∧ 2 ≤ (em w).1 ∧ (em w).1 < 6 := fun w h => by
  rcases h with (h | h) | (h | h) <;> subst h <;> decide
theorem enc_uv : ∀ K, K < 256 → 141 ≤ K → K ≤ 146 → encO (1, nI (K - 141)) = -nI K := by decide +kernel
theorem KK_cmp {K : Nat} (hK : K < 256) : ∀ q, q < 256 → (nI K = nI q ↔ K = q) := fun q hq => nI_eq (by omega) (by omega)
/-- one op put behind the law -/
theorem putC {n t k L : Nat} {b : Nat → Nat} {x : Int32} {s : hSt} (h : LvC n b t k s) (hL : L ≤ 400) (e : s.1 (t + 4) 2 = nI L) : ∃ s', F_X0_add (t + 4) x s = some (nI L, s') ∧ frX t s s' ∧ LvC n b t k s' ∧ s'.1 (t + 4) 2 = nI (L + 1) ∧ s'.1 (t + 5) L = x ∧ ∀ j, j ≠ L → s'.1 (t + 5) j = s.1 (t + 5) j := by
  obtain ⟨v, s', g1, g2, g3, g4, g5⟩ := addA (x := x) h.1 h.2.2.1 e (show L ≤ 401 by omega)
  obtain ⟨q1, q2, q3, q4⟩ := g5 (by omega)
  subst q1
  exact ⟨s', g1, g2, LvC_fr h g2.1 (fun c a d => g3 c a d), q2, q3, q4⟩
theorem putD {n t f j : Nat} {b : Nat → Nat} {x : Int32} {s : hSt} (h : DdC n b t f j s) (e : ∃ L', L' ≤ 401 ∧ s.1 (t + 4) 2 = nI L') : ∃ v s', F_X0_add (t + 4) x s = some (v, s') ∧ frX t s s' ∧ DdC n b t f j s' ∧ ∃ L', L' ≤ 401 ∧ s'.1 (t + 4) 2 = nI L' := by
  obtain ⟨L, hL, e⟩ := e
  obtain ⟨v, s', g1, g2, g3, g4, -⟩ := addA (x := x) h.1 h.2.2.1 e hL
  exact ⟨v, s', g1, g2, DdC_fr h g2.1 (fun c a d => g3 c a d), g4⟩
theorem unitD {n t f j : Nat} {b : Nat → Nat} {fS : Nat → Int32 → hSt → Option hSt} {x : Int32} {s : hSt} (h : DdC n b t f j s) : F_X4_parseUnit fS 37 x s = some s := by
  unfold F_X4_parseUnit F_X4_parseUnit_66 F_X4_parseUnit_115
  rw [kindD h, Option.bind_some, if_neg (by decide), if_pos (by decide), if_neg (by decide), failD h, Option.bind_some]
theorem prodD {n t f j : Nat} {b : Nat → Nat} {fS : Nat → Int32 → hSt → Option hSt} {x : Int32} {s : hSt} (h : DdC n b t f j s) : F_X4_parseProduct fS 37 x s = some s := by
  unfold F_X4_parseProduct F_X4_parseProduct_7
  rw [unitD h, Option.bind_some]
  refine lp_1a ?_
  unfold S_X4_parseProduct_7 F_X4_parseProduct_7b
  dsimp only
  rw [if_neg (by decide), kindD h, Option.bind_some, if_neg (by decide), Option.bind_some, if_neg (by decide)]
  rfl
theorem sumD {n t f j : Nat} {b : Nat → Nat} {fS : Nat → Int32 → hSt → Option hSt} {x : Int32} {s : hSt} (h : DdC n b t f j s) : F_X4_parseSum fS 37 x s = some s := by
  unfold F_X4_parseSum F_X4_parseSum_7
  rw [prodD h, Option.bind_some]
  refine lp_1a ?_
  unfold S_X4_parseSum_7 F_X4_parseSum_7b
  dsimp only
  rw [if_neg (by decide), kindD h, Option.bind_some, if_neg (by decide), Option.bind_some, if_neg (by decide)]
  rfl
theorem ge_lt (a c : Nat) (hc : c < 2 ^ 31) (ha : a < 2 ^ 31) : (nI a < nI c ↔ a < c) := by
  constructor
  · intro q
    rcases Nat.lt_or_ge a c with r | r
    · exact r
    · exact absurd q (nI_nlt r ha)
  · exact fun q => nI_lt q hc
theorem unitC {n t m : Nat} {b : Nat → Nat} {fS : Nat → Int32 → hSt → Option hSt} (hb : ∀ i, b i < 256) (hm : m ≤ 6) (IH : m < 6 → SumH n b t (m + 1) fS) {k L : Nat} {s : hSt} (h : LvC n b t k s) (hL : L ≤ k) (e : s.1 (t + 4) 2 = nI L) :
    ∃ s', F_X4_parseUnit fS 37 (nI m) s = some s' ∧ outE n b t k L m (1 + 2 * (6 - m)) (fun _ => True) (fun _ => False) (fun _ => True) s s' := by
  have hk : k ≤ 400 := h.2.2.2.2.2.1
  have ht := h.2.2.1
  obtain ⟨t1, t2, t3⟩ := t_ok ht
  have hK := KK_lt (n := n) hb k
  have hP := h.1
  have cmp := KK_cmp hK
  have f115 : ∀ z, F_X4_parseUnit_115 fS z = some z := fun _ => rfl
  unfold F_X4_parseUnit
  rw [kindA h, Option.bind_some]
  have lawF : ∀ {α : Type} (z : hSt) (hz : HC z.2.2) (hz2 : z.2.2 37 3 = some t) (f : Nat → Option α), (cR (z.2.2 37 3) (okr kC NC 7) fun z18 => cR (z.2.2 z18 5) (okr kC NC 0) fun z19 => f z19) = f (t + 4) := fun z hz hz2 f => by
    rw [r37 hz2 ht, rC_7_5 hz t1]
  -- a leaf: taken, and one op put
  have leaf : ∀ (x : Int64 → Int32) (w : Nat), w < 256 → KK n b k = w → isU w → x (tkV n b (tkP n b k)) = encO (uOp (KK n b) (VV n b) k) → (uOp (KK n b) (VV n b) k).1 < 2 → ((uOp (KK n b) (VV n b) k).1 = 0 → ¬ (uOp (KK n b) (VV n b) k).2 < 0) → ((uOp (KK n b) (VV n b) k).1 = 1 → ∃ i, i < 6 ∧ (uOp (KK n b) (VV n b) k).2 = nI i) →
      ∃ s', (cC (F_X4_take 37 (nI w) s) fun v26 σ27 => cC (F_X0_add (t + 4) (x v26) σ27) fun v29 σ30 => F_X4_parseUnit_115 fS σ30) = some s' ∧ outE n b t k L m (1 + 2 * (6 - m)) (fun _ => True) (fun _ => False) (fun _ => True) s s' := fun x w hw hKw hU hx u1 u2 u3 => by
    have nf : ¬ KK n b k = 40 := by rw [hKw]; intro z; subst z; revert hU; decide
    obtain ⟨v, s1, g1, g2, g3⟩ := takeA (w := w) h hb hw
    have e1 : s1.1 (t + 4) 2 = nI L := by rw [g2.2.2 (t + 4) (by omega)]; exact e
    rw [cC_t g1]
    rcases g3 with ⟨q1, q2, q3, q4⟩ | ⟨q1, q2, q3⟩
    · obtain ⟨s2, p1, p2, p3, p4, p5, p6⟩ := putC (x := x v) q4 (show L ≤ 400 by omega) e1
      rw [cC_t p1, f115]
      refine ⟨s2, rfl, frX_trans (frX_T ht g2) p2, ⟨L + 1, by omega, p4⟩, Or.inl ⟨k + 1, [uOp (KK n b) (VV n b) k], [uOp (KK n b) (VV n b) k], [], by omega, p3, p4, by show 1 ≤ _; omega, fun j hj => ?_, ?_, ?_, trivial, rfl, fun w hw => absurd hw (by simp), fun W C _ => ?_⟩⟩
      · rw [p6 j (by omega), g2.2.2 (t + 5) (by omega)]
      · refine ⟨?_, u2, u3, trivial⟩
        rw [p5, q3]
        exact hx
      · show opsOk _ (_ :: []) 0 1
        unfold opsOk
        rw [if_pos u1]
        exact ⟨by omega, rfl⟩
      · rw [Rm_U hk, if_neg nf, if_pos (by rw [hKw]; exact hU), if_neg (by omega)]
        rfl
    · have q400 : k = 400 := by
        by_cases z : k < 400
        · exact absurd ⟨hKw, z⟩ q1
        · omega
      rw [if_pos hKw] at q3
      obtain ⟨v', s2, p1, p2, p3, p4⟩ := putD (x := x v) q3 ⟨L, by omega, e1⟩
      rw [cC_t p1, f115]
      refine ⟨s2, rfl, frX_trans (frX_T ht g2) p2, p4, Or.inr ⟨2, k, p3, fun W C _ => ?_⟩⟩
      rw [Rm_U hk, if_neg nf, if_pos (by rw [hKw]; exact hU), if_pos q400]
  by_cases k3 : KK n b k = 3
  · rw [if_pos (show nI (KK n b k) = (3 : Int32) from congrArg nI k3), lawF s hP h.2.1]
    obtain ⟨v, v1, v2, v3⟩ := VV_3 k3
    refine leaf (fun y => y.toInt32) 3 (by decide) k3 (Or.inl rfl) ?_ ?_ ?_ ?_
    · unfold uOp
      rw [if_pos k3]
      rfl
    · unfold uOp
      rw [if_pos k3]
      show (0 : Nat) < 2
      decide
    · intro _
      unfold uOp
      rw [if_pos k3, v2]
      exact nI_pos (by omega)
    · unfold uOp
      rw [if_pos k3]
      intro z
      exact absurd (show (0 : Nat) = 1 from z) (by decide)
  · rw [if_neg (show ¬ nI (KK n b k) = (3 : Int32) from fun z => k3 ((cmp 3 (by decide)).mp z))]
    by_cases kv : 141 ≤ KK n b k ∧ KK n b k ≤ 146
    · rw [if_neg (show ¬ nI (KK n b k) < (141 : Int32) from nI_nlt (b := 141) kv.1 (by omega)), if_neg (show ¬ (146 : Int32) < nI (KK n b k) from nI_nlt (a := 146) kv.2 (by decide))]
      have lf := leaf (fun _ => -nI (KK n b k)) (KK n b k) hK rfl (Or.inr kv) (by
        unfold uOp
        rw [if_neg k3]
        exact (enc_uv _ hK kv.1 kv.2).symm) (by unfold uOp; rw [if_neg k3]; show (1 : Nat) < 2; decide) (by unfold uOp; rw [if_neg k3]; intro z; exact absurd (show (1 : Nat) = 0 from z) (by decide)) (by
        unfold uOp
        rw [if_neg k3]
        exact fun _ => ⟨_, by omega, rfl⟩)
      obtain ⟨v, s1, g1, g2, g3⟩ := takeA (w := KK n b k) h hb hK
      rw [cC_t g1] at lf ⊢
      have r1 : s1.2.2 = s.2.2 := by rw [g2.1]
      rw [lawF s1 (by rw [r1]; exact hP) (by rw [r1]; exact h.2.1)]
      exact lf
    · have v66 : (if nI (KK n b k) < (141 : Int32) then F_X4_parseUnit_66 fS 37 (nI m) (nI (KK n b k)) s else if (146 : Int32) < nI (KK n b k) then F_X4_parseUnit_66 fS 37 (nI m) (nI (KK n b k)) s else cC (F_X4_take 37 (nI (KK n b k)) s) fun v16 σ17 => cR (σ17.2.2 37 3) (okr kC NC 7) fun z18 => cR (σ17.2.2 z18 5) (okr kC NC 0) fun z19 => cC (F_X0_add z19 (-nI (KK n b k)) σ17) fun v21 σ22 => F_X4_parseUnit_115 fS σ22) = F_X4_parseUnit_66 fS 37 (nI m) (nI (KK n b k)) s := by
        by_cases z : KK n b k < 141
        · rw [if_pos (show nI (KK n b k) < (141 : Int32) from nI_lt (b := 141) z (by decide))]
        · rw [if_neg (show ¬ nI (KK n b k) < (141 : Int32) from nI_nlt (b := 141) (by omega) (by omega)), if_pos (show (146 : Int32) < nI (KK n b k) from nI_lt (a := 146) (by omega) (by omega))]
      rw [v66]
      unfold F_X4_parseUnit_66
      have nu : ¬ isU (KK n b k) := fun z => z.elim k3 kv
      by_cases k40 : KK n b k = 40
      · rw [if_pos (show nI (KK n b k) = (40 : Int32) from congrArg nI k40)]
        by_cases m6 : m < 6
        · obtain ⟨I1, I2⟩ := IH m6
          rw [if_pos (show nI m < (6 : Int32) from nI_lt (b := 6) m6 (by decide)), nI_1]
          obtain ⟨v, s1, g1, g2, g3⟩ := takeA (w := 40) h hb (by decide)
          have e1 : s1.1 (t + 4) 2 = nI L := by rw [g2.2.2 (t + 4) (by omega)]; exact e
          rw [show F_X4_take 37 (40 : Int32) s = F_X4_take 37 (nI 40) s from rfl, cC_t g1]
          rcases g3 with ⟨q1, q2, q3, q4⟩ | ⟨q1, q2, q3⟩
          · obtain ⟨s2, p1, p2, p3, p4⟩ := I1 (k + 1) L s1 q4 (by omega) e1
            rw [p1, Option.bind_some]
            have RU : ∀ W C, Rm (KK n b) (VV n b) true k m W C = Rm (KK n b) (VV n b) true (k + 1) (m + 1) (40 :: W) C := fun W C => by
              rw [Rm_U hk, if_pos k40, if_neg (by omega)]
            have fl : ∀ W, flr false (40 :: W) := fun W w W' q => Or.inl (List.cons.inj q).1.symm
            rcases p4 with ⟨k', os, os1, pend, a1, a2, a3, a4, a5, a6, a7, a8, a9, a10, a11⟩ | ⟨f, j, a1, a2⟩
            · have hk' : k' ≤ 400 := a2.2.2.2.2.2.1
              obtain ⟨v', s3, c1, c2, c3⟩ := takeA (w := 41) a2 hb (by decide)
              rw [show F_X4_take 37 (41 : Int32) s2 = F_X4_take 37 (nI 41) s2 from rfl, cC_t c1, f115]
              have pp : ∀ W, pop false (pend ++ 40 :: W) = (40 :: W, pend.map em) := fun W => pop_app (fl W) pend (fun w hw => by
                have := a10 w hw
                rintro (z | z)
                · subst z; revert this; decide
                · exact absurd z.1 (by decide))
              have RA : ∀ W C, Rm (KK n b) (VV n b) true k m W C = Rm (KK n b) (VV n b) false k' (m + 1) (pend ++ 40 :: W) (C ++ os1) := fun W C => by rw [RU, a11 _ _ (fl W)]
              rcases c3 with ⟨d1, d2, d3, d4⟩ | ⟨d1, d2, d3⟩
              · refine ⟨s3, rfl, frX_trans (frX_T ht g2) (frX_trans p2 (frX_T ht c2)), ⟨L + os.length, by omega, by rw [c2.2.2 (t + 4) (by omega)]; exact a3⟩, Or.inl ⟨k' + 1, os, os, [], by omega, d4, by rw [c2.2.2 (t + 4) (by omega)]; exact a3, by omega, fun j hj => ?_, ?_, ?_, trivial, by simp, fun w hw => absurd hw (by simp), fun W C _ => ?_⟩⟩
                · rw [c2.2.2 (t + 5) (by omega), a5 j hj, g2.2.2 (t + 5) (by omega)]
                · rw [c2.2.2 (t + 5) (by omega)]
                  exact a6
                · exact opsOk_mono (by omega) os 0 1 a7
                · rw [RA, Rm_A hk', if_pos ⟨d1, by omega⟩, if_neg (by omega), pp, a9]
                  show Rm (KK n b) (VV n b) false (k' + 1) (m + 1 - 1) W (C ++ os1 ++ pend.map em) = _
                  rw [Nat.add_sub_cancel, List.append_assoc]
                  rfl
              · refine ⟨s3, rfl, frX_trans (frX_T ht g2) (frX_trans p2 (frX_T ht c2)), ?_, Or.inr ⟨_, k', d3, fun W C _ => ?_⟩⟩
                · rw [c2.2.2 (t + 4) (by omega)]
                  exact p3
                · rw [RA, Rm_A hk']
                  by_cases z : KK n b k' = 41
                  · have : k' = 400 := by
                      by_cases y : k' < 400
                      · exact absurd ⟨z, y⟩ d1
                      · omega
                    rw [if_pos ⟨z, by omega⟩, if_pos this, if_pos z]
                  · rw [if_neg (fun y => z y.1), if_neg (fun y => y.elim a8.1 a8.2), if_pos (by omega), if_neg z]
            · rw [show F_X4_take 37 (41 : Int32) s2 = some (0, s2) from takeD a1]
              refine ⟨s2, rfl, frX_trans (frX_T ht g2) p2, p3, Or.inr ⟨f, j, a1, fun W C _ => ?_⟩⟩
              rw [RU]
              exact a2 _ _ (fl W)
          · rw [I2 _ _ _ q3, Option.bind_some, show F_X4_take 37 (41 : Int32) s1 = some (0, s1) from takeD q3]
            have q400 : k = 400 := by
              by_cases z : k < 400
              · exact absurd ⟨k40, z⟩ q1
              · omega
            rw [if_pos k40] at q3
            refine ⟨s1, rfl, frX_T ht g2, ⟨L, by omega, e1⟩, Or.inr ⟨2, k, q3, fun W C _ => ?_⟩⟩
            rw [Rm_U hk, if_pos k40, if_pos (Or.inr q400)]
        · rw [if_neg (show ¬ nI m < (6 : Int32) from nI_nlt (b := 6) (by omega) (by omega))]
          obtain ⟨s1, g1, g2, g3⟩ := failA (f := 2) h (Or.inr rfl)
          rw [show F_X4_fail 37 (2 : Int32) s = F_X4_fail 37 (nI 2) s from rfl, g1, Option.bind_some, f115]
          refine ⟨s1, rfl, frX_T ht g3, ⟨L, by omega, by rw [g3.2.2 (t + 4) (by omega)]; exact e⟩, Or.inr ⟨2, k, g2, fun W C _ => ?_⟩⟩
          rw [Rm_U hk, if_pos k40, if_pos (Or.inl (by omega))]
      · rw [if_neg (show ¬ nI (KK n b k) = (40 : Int32) from fun z => k40 ((cmp 40 (by decide)).mp z))]
        obtain ⟨s1, g1, g2, g3⟩ := failA (f := 1) h (Or.inl rfl)
        rw [show F_X4_fail 37 (1 : Int32) s = F_X4_fail 37 (nI 1) s from rfl, g1, Option.bind_some, f115]
        refine ⟨s1, rfl, frX_T ht g3, ⟨L, by omega, by rw [g3.2.2 (t + 4) (by omega)]; exact e⟩, Or.inr ⟨1, k, g2, fun W C _ => ?_⟩⟩
        rw [Rm_U hk, if_neg k40, if_neg nu]
