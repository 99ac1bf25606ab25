/-! ===== PURE 51: drums ===== -/
/-- the two rows that change places -/
def PAB (P : SPt) (A B : Nat) : Prop := P 219 2 = some A ∧ P 219 3 = some B ∧ ((A = 222 ∧ B = 223) ∨ (A = 223 ∧ B = 222))
theorem PAB_A {P : SPt} {A B : Nat} {α : Type} (h : PAB P A B) (f : Nat → Option α) : cR (P 219 2) (okr kC NC 101) f = f A := cR_t h.1 (by rcases h.2.2 with ⟨q, -⟩ | ⟨q, -⟩ <;> rw [q] <;> decide)
theorem PAB_B {P : SPt} {A B : Nat} {α : Type} (h : PAB P A B) (f : Nat → Option α) : cR (P 219 3) (okr kC NC 101) f = f B := cR_t h.2.1 (by rcases h.2.2 with ⟨-, q⟩ | ⟨-, q⟩ <;> rw [q] <;> decide)
theorem kA {A B : Nat} (h : (A = 222 ∧ B = 223) ∨ (A = 223 ∧ B = 222)) : (kC A).2 = 64 ∧ (kC B).2 = 64 ∧ A ≠ B ∧ 222 ≤ A ∧ A < 224 ∧ 222 ≤ B ∧ B < 224 := by
  rcases h with ⟨q, r⟩ | ⟨q, r⟩ <;> subst q r <;> decide
theorem spIn {how H K B0 A B : Nat} {e : Nat → Int32} {c : Nat → Option Nat} {s : hSt} {g : Nat → Int32} {al : Int32} (hP : HC s.2.2) (hAB : PAB s.2.2 A B) (hH : H ≤ 6) (he : ∀ h, h < H → ∀ b, b < 32 → bt (e h) b = true → b < H) (hT : PlT how H e s.1)
    (hc : ∀ k, k < 64 → s.1 A k = encC (c k)) (hB : ∀ k n, k < 64 → c k = some n → n ≤ B0) (hB2 : B0 + 6 < 1000000) (hK : K < 2 ^ H) (hg : rowQ encC (cnd how H e c (prC K 1)) g) :
    ∃ g', F_X3_spreadFewest_30 219 al (nI K) 1 (uA s B g) = some (.inl (nI (K + 1), uA s B g')) ∧ rowQ encC (cnd how H e c (prC (K + 1) 1)) g' := by
  have p64 : (2 : Nat) ^ H ≤ 64 := Nat.pow_le_pow_right (n := 2) (by decide) hH
  obtain ⟨kA1, kB1, hne, b1, b2, b3, b4⟩ := kA hAB.2.2
  have e99 : ∀ z, F_X3_spreadFewest_99 219 al (nI K) z = some (.inl (nI (K + 1), z)) := fun z => by
    unfold F_X3_spreadFewest_99 cL
    rw [nI_1]
  unfold F_X3_spreadFewest_30
  obtain ⟨x, g1, g', g2, g3⟩ := lp_go (s := S_X3_spreadFewest_30 219 al (nI K)) (v := (1, uA s B g)) K (by rw [fuel_v]; omega)
    (fun i w => ∃ g', w = (nI (i + 1), uA s B g') ∧ rowQ encC (cnd how H e c (prC K (i + 1))) g')
    (fun x => ∃ g', x = .inl (nI (K + 1), uA s B g') ∧ rowQ encC (cnd how H e c (prC (K + 1) 1)) g')
    ⟨g, rfl, hg⟩ (fun i w hi hw => by
      obtain ⟨g', a1, a2⟩ := hw
      subst a1
      have hPw : HC (uA s B g').2.2 := hP
      have hABw : PAB (uA s B g').2.2 A B := hAB
      have rA : (uA s B g').1 A = s.1 A := uA_row _ _ hne
      have rB : (uA s B g').1 B = g' := funext fun j => uA_own _ _ _ _
      have hTw : PlT how H e (uA s B g').1 := fun S hS => by
        rw [uA_row _ _ (show (220 : Nat) ≠ B by omega), uA_row _ _ (show (221 : Nat) ≠ B by omega)]
        exact hT S hS
      unfold S_X3_spreadFewest_30 F_X3_spreadFewest_30b
      dsimp only
      by_cases hlt : i < K
      · rw [if_neg (nI_nlt (by omega) (by omega)), PAB_A hABw, cG_t (inb_nI (by rw [kA1]; omega) (by rw [kA1]; decide)), cl_nI (n := K) (by omega), rA, hc K (by omega)]
        have e93 : ∀ z, F_X3_spreadFewest_93 219 al (nI K) (nI (i + 1)) z = some (.inl (nI (i + 1 + 1), z)) := fun z => by
          unfold F_X3_spreadFewest_93 cL
          rw [nI_1]
        obtain ⟨w1, w2⟩ := canSay_eq (S := i + 1) (K := K) hPw hH hTw (by omega)
        have hcK := hc K (by omega)
        revert hcK
        cases hci : c K with
        | none =>
          intro _
          right
          rw [if_pos (show (1000000 : Int32) ≤ encC none by decide), e99]
          exact ⟨_, rfl, g', rfl, rowQ_congr a2 (fun k n _ => prC_none hci)⟩
        | some n0 =>
          intro hcK
          left
          have hn0 := hB K n0 (by omega) hci
          rw [if_neg (show ¬ (1000000 : Int32) ≤ encC (some n0) from nI_ge (b := 1000000) (by omega) (by decide))]
          by_cases hs : (∀ x, inS (i + 1) x → inS K x) ∧ lwP how e (i + 1)
          · obtain ⟨p, hp⟩ : ∃ p, p = pc (i + 1) := ⟨_, rfl⟩
            have pcS : p ≤ 6 := by rw [hp]; exact (pc_eq (i + 1) (by omega)).2.1
            have hbc : ∀ z, F_J6_bitCount_0f7a4 (nI (i + 1)) z = some (nI p) := fun z => by rw [bc_eq, hp]; exact congrArg some (pc_eq (i + 1) (by omega)).1
            obtain ⟨kn, k1, k2⟩ := then_lt (S := i + 1) hH he hK
            rw [w1 hs, Option.bind_some, if_neg ne_10, rC_3_0 hPw (c := 219) (by decide), cG_t (inb_nI (by rw [k220]; omega) (by decide)), cl_nI (n := i + 1) (by omega), show (219 + 1 : Nat) = 220 from rfl, (hTw (i + 1) (by omega)).1]
            unfold cL
            dsimp only
            rw [k2, PAB_B hABw, PAB_B hABw, cG_t (inb_nI (by rw [kB1]; omega) (by rw [kB1]; decide)), PAB_A hABw, cG_t (inb_nI (by rw [kA1]; omega) (by rw [kA1]; decide)), hbc, Option.bind_some, cG_t (inb_nI (by rw [kB1]; omega) (by rw [kB1]; decide)), cl_nI (n := kn) (by omega), rA, rB, hcK, show encC (some n0) = nI n0 from rfl, nI_add, uI_as, rB, uA_uA, e93]
            obtain ⟨o, o1, o2⟩ := a2 kn (by omega)
            have step : ∀ k n, k < 64 → (cnd how H e c (prC K (i + 1 + 1)) k n ↔ cnd how H e c (prC K (i + 1)) k n ∨ (k = kn ∧ n = n0 + p)) := fun k n hk => by rw [hp]; exact cnd_step (prC_s (by omega)) hK (by omega) hci hs.1 hs.2 k2 (by omega) hk
            refine ⟨_, hlt, rfl, _, rfl, fun k hk => ?_⟩
            by_cases q : k = kn
            · subst q
              refine ⟨some (minO o (n0 + p)), mn_congr (mn_add (x := n0 + p) o1) (fun n => by rw [step k n (by omega)]; exact ⟨fun r => r.elim Or.inl (fun r => Or.inr ⟨rfl, r⟩), fun r => r.elim Or.inl (fun r => Or.inr r.2)⟩), ?_⟩
              rw [upd_eq, o2]
              cases o with
              | none =>
                rw [if_pos (show nI (n0 + p) < encC none from nI_lt (b := 1000000) (by omega) (by decide))]
                rfl
              | some y =>
                have hy : y ≤ B0 + 6 := by
                  obtain ⟨K', S', m0, -, q2, q3, q4, -, -, -, q8⟩ := o1.1
                  have := hB K' m0 (by omega) q4
                  have := (pc_eq S' (by omega)).2.1
                  omega
                show (if nI (n0 + p) < nI y then nI (n0 + p) else nI y) = nI (if n0 + p < y then n0 + p else y)
                by_cases r : n0 + p < y
                · rw [if_pos (nI_lt r (by omega)), if_pos r]
                · rw [if_neg (nI_nlt (by omega) (by omega)), if_neg r]
            · rw [upd_ne q]
              obtain ⟨o', p1, p2⟩ := a2 k hk
              exact ⟨o', mn_congr p1 (fun n => by rw [step k n hk]; exact ⟨Or.inl, fun r => r.resolve_right (fun r => q r.1)⟩), p2⟩
          · rw [w2 hs, Option.bind_some, if_pos rfl, e93]
            refine ⟨_, hlt, rfl, g', rfl, rowQ_congr a2 (fun k n _ => cnd_skip (prC_s (by omega)) (Or.inr ?_))⟩
            by_cases q : ∀ x, inS (i + 1) x → inS K x
            · exact Or.inr (fun r => hs ⟨q, r⟩)
            · exact Or.inl q
      · right
        have : i = K := by omega
        subst this
        rw [if_pos (nI_lt (by omega) (by omega)), e99]
        exact ⟨_, rfl, g', rfl, rowQ_congr a2 (fun k n _ => prC_end hH hK)⟩)
  exact ⟨g', by rw [g1, g2], g3⟩
/-- the two rows have changed places -/
def swf (P : SPt) : SPt := fun c k => if c = 219 ∧ k = 2 then P 219 3 else if c = 219 ∧ k = 3 then P 219 2 else P c k
theorem swf_2 {P : SPt} : swf P 219 2 = P 219 3 := if_pos ⟨rfl, rfl⟩
theorem swf_3 {P : SPt} : swf P 219 3 = P 219 2 := by unfold swf; rw [if_neg (by omega), if_pos ⟨rfl, rfl⟩]
theorem swf_o {P : SPt} {c k : Nat} (h : ¬ (c = 219 ∧ (k = 2 ∨ k = 3))) : swf P c k = P c k := by unfold swf; rw [if_neg (by omega), if_neg (by omega)]
theorem swf_swf {P : SPt} : swf (swf P) = P := by
  funext c k
  by_cases h2 : c = 219 ∧ k = 2
  · obtain ⟨a, b⟩ := h2
    subst a b
    rw [swf_2, swf_3]
  · by_cases h3 : c = 219 ∧ k = 3
    · obtain ⟨a, b⟩ := h3
      subst a b
      rw [swf_3, swf_2]
    · rw [swf_o (by omega), swf_o (by omega)]
theorem PAB_sw {P : SPt} {A B : Nat} (h : PAB P A B) : PAB (swf P) B A := ⟨swf_2.trans h.2.1, swf_3.trans h.1, h.2.2.elim (fun q => Or.inr ⟨q.2, q.1⟩) (fun q => Or.inl ⟨q.2, q.1⟩)⟩
theorem HC_sw {P : SPt} (h : HC P) : HC (swf P) := by
  obtain ⟨h1, h2, h3, h4, h5, h6⟩ := h
  refine ⟨fun c hc k d hd => ?_, fun j hj => ?_, fun j hj => ?_, ?_, ?_, ?_⟩
  · by_cases q : c = 219 ∧ (k = 2 ∨ k = 3)
    · obtain ⟨q1, q2⟩ := q
      subst q1
      have e : (kC 219).1 = 3 := rfl
      rw [e] at hd
      rcases q2 with q2 | q2 <;> subst q2
      · rw [show fxC 3 2 = none from by decide] at hd; cases hd
      · rw [show fxC 3 3 = none from by decide] at hd; cases hd
    · rw [swf_o q]
      exact h1 c hc k d hd
  · rw [swf_o (by omega)]
    exact h2 j hj
  · rw [swf_o (by omega)]
    exact h3 j hj
  · rw [swf_o (by omega), swf_o (by omega)]
    exact h4
  · rw [swf_o (by omega)]
    exact h5
  · rw [swf_2, swf_3]
    exact h6.elim (fun q => Or.inr ⟨q.2, q.1⟩) (fun q => Or.inl ⟨q.2, q.1⟩)
theorem TC_P {t : Nat} {D : TxD} {s s' : hSt} (h : TC t D s) (hP : HC s'.2.2) (h1 : ∀ k, t ≤ k → k < t + 17 → s'.1 k = s.1 k) (h2 : s'.2.1 = s.2.1) : TC t D s' := by
  have h' := TC_fr (σ' := (s'.1, s.2)) h rfl h1
  exact ⟨⟨hP, h'.1.2⟩, fun j hj => by
    have := h'.2 j hj
    rw [h2]
    exact this⟩
theorem spread_eq {how H B0 A B : Nat} {e : Nat → Int32} {c : Nat → Option Nat} {s : hSt} (hP : HC s.2.2) (hAB : PAB s.2.2 A B) (hH : H ≤ 6) (he : ∀ h, h < H → ∀ b, b < 32 → bt (e h) b = true → b < H) (hT : PlT how H e s.1)
    (hc : ∀ k, k < 64 → s.1 A k = encC (c k)) (hB : ∀ k n, k < 64 → c k = some n → n ≤ B0) (hB2 : B0 + 6 < 1000000) (hz : ∀ k, 2 ^ H ≤ k → k < 64 → c k = none) :
    ∃ s', F_X3_spreadFewest 219 (nI (2 ^ H - 1)) s = some s' ∧ s'.2.2 = swf s.2.2 ∧ s'.2.1 = s.2.1 ∧ (∀ k, k ≠ B → s'.1 k = s.1 k) ∧ rowQ encC (cnd how H e c (fun _ _ => True)) (s'.1 B) := by
  have p64 : (2 : Nat) ^ H ≤ 64 := Nat.pow_le_pow_right (n := 2) (by decide) hH
  have p0 : 0 < 2 ^ H := Nat.pow_pos (by decide)
  obtain ⟨kA1, kB1, hne, b1, b2, b3, b4⟩ := kA hAB.2.2
  unfold F_X3_spreadFewest F_X3_spreadFewest_17
  rw [PAB_A hAB, PAB_B hAB, cG_t (by rw [kA1, kB1]; decide)]
  unfold cL
  dsimp only
  have L105 : ∀ g : Nat → Int32, ∃ s', F_X3_spreadFewest_105 219 (uA s B g) = some s' ∧ s'.2.2 = swf s.2.2 ∧ s'.2.1 = s.2.1 ∧ (∀ k, k ≠ B → s'.1 k = s.1 k) ∧ s'.1 B = g := fun g => by
    have hABw : PAB (uA s B g).2.2 A B := hAB
    unfold F_X3_spreadFewest_105 cL
    rw [PAB_A hABw, PAB_B hABw]
    refine ⟨_, rfl, ?_, rfl, fun k hk => uA_row _ _ hk, funext fun j => uA_own _ _ _ _⟩
    funext c k
    show up2 (up2 s.2.2 219 2 (some B)) 219 3 (some A) c k = swf s.2.2 c k
    unfold up2
    by_cases q3 : c = 219 ∧ k = 3
    · rw [if_pos q3, q3.1, q3.2, swf_3, hAB.1]
    · rw [if_neg q3]
      by_cases q2 : c = 219 ∧ k = 2
      · rw [if_pos q2, q2.1, q2.2, swf_2, hAB.2.1]
      · rw [if_neg q2, swf_o (by omega)]
  obtain ⟨s', g1, g, g2, g3⟩ := lp_go (s := S_X3_spreadFewest_17 219 (nI (2 ^ H - 1))) (v := (0, uA s B (va_cpy (s.1 A) (s.1 B) (0 : Int32).toNatClampNeg (0 : Int32).toNatClampNeg (64 : Int32).toNatClampNeg))) (2 ^ H) (by rw [fuel_v]; omega)
    (fun K w => ∃ g, w = (nI K, uA s B g) ∧ rowQ encC (cnd how H e c (prC K 1)) g)
    (fun x => ∃ g, (x.2.2 = swf s.2.2 ∧ x.2.1 = s.2.1 ∧ (∀ k, k ≠ B → x.1 k = s.1 k) ∧ x.1 B = g) ∧ rowQ encC (cnd how H e c (fun _ _ => True)) g)
    ⟨_, rfl, fun k hk => by
      refine ⟨c k, ?_, ?_⟩
      · refine mn_congr (P := fun n => c k = some n) ?_ (fun n => ?_)
        · cases q : c k with
          | none => exact fun n r => by cases r
          | some n => exact ⟨rfl, fun m r => by rw [Option.some.inj r]; exact Nat.le_refl _⟩
        · refine (cnd_0 (how := how) (e := e) hH hk hz).trans (cnd_pr (fun K S _ _ _ _ _ => ?_))
          unfold prC
          omega
      · rw [show (0 : Int32).toNatClampNeg = 0 from rfl, show (64 : Int32).toNatClampNeg = 64 from rfl, cpy_lo hk]
        exact hc k hk⟩ (fun K w hK hw => by
      obtain ⟨g, a1, a2⟩ := hw
      subst a1
      unfold S_X3_spreadFewest_17 F_X3_spreadFewest_17b
      dsimp only
      by_cases hlt : K < 2 ^ H
      · left
        rw [if_neg (nI_nlt (by omega) (by omega)), if_neg (show ¬ (64 : Int32) ≤ nI K from nI_ge (b := 64) (by omega) (by decide))]
        obtain ⟨g', c1, c2⟩ := spIn (al := nI (2 ^ H - 1)) hP hAB hH he hT hc hB hB2 hlt a2
        rw [c1]
        exact ⟨_, hlt, rfl, g', rfl, c2⟩
      · right
        obtain ⟨s', y1, y2, y3, y4, y5⟩ := L105 g
        rw [if_pos (nI_lt (by omega) (by omega)), y1]
        exact ⟨s', rfl, g, ⟨y2, y3, y4, y5⟩, rowQ_congr a2 (fun k n _ => prC_all (by omega))⟩)
  exact ⟨s', g1, g2.1, g2.2.1, g2.2.2.1, by rw [g2.2.2.2]; exact g3⟩
