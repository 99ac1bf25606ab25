/-! ===== PURE 51: drums ===== -/
/-- the two rows that change places -/
def PAB (P : SPt) (A B : Nat) : Prop := P 219 2 = some A ∧ P 219 3 = some B ∧ ((A = 222 ∧ B = 223) ∨ (A = 223 ∧ B = 222))
theorem PAB_A {P : SPt} {A B : Nat} {α : Type} (h : PAB P A B) (f : Nat → Option α) : cR (P 219 2) (okr kC NC 101) f = f A := cR_t h.1 (by rcases h.2.2 with ⟨q, -⟩ | ⟨q, -⟩ <;> rw [q] <;> decide)
theorem PAB_B {P : SPt} {A B : Nat} {α : Type} (h : PAB P A B) (f : Nat → Option α) : cR (P 219 3) (okr kC NC 101) f = f B := cR_t h.2.1 (by rcases h.2.2 with ⟨-, q⟩ | ⟨-, q⟩ <;> rw [q] <;> decide)
theorem kA {A B : Nat} (h : (A = 222 ∧ B = 223) ∨ (A = 223 ∧ B = 222)) : (kC A).2 = 64 ∧ (kC B).2 = 64 ∧ A ≠ B ∧ 222 ≤ A ∧ A < 224 ∧ 222 ≤ B ∧ B < 224 := by
  rcases h with ⟨q, r⟩ | ⟨q, r⟩ <;> subst q r <;> decide
theorem spIn {how H K B0 A B : Nat} {e : Nat → Int32} {c : Nat → Option Nat} {s : hSt} {g : Nat → Int32} {al : Int32} (hP : HC s.2.2) (hAB : PAB s.2.2 A B) (hH : H ≤ 6) (he : ∀ h, h < H → ∀ b, b < 32 → bt (e h) b = true → b < H) (hT : PlT how H e s.1)
    (hc : ∀ k, k < 64 → s.1 A k = encC (c k)) (hB : ∀ k n, k < 64 → c k = some n → n ≤ B0) (hB2 : B0 + 6 < 1000000) (hK : K < 2 ^ H) (hg : rowQ encC (cnd how H e c (prC K 1)) g) :
    ∃ g', F_X3_spreadFewest_30 219 al (nI K) 1 (uA s B g) = some (.inl (nI (K + 1), uA s B g')) ∧ rowQ encC (cnd how H e c (prC (K + 1) 1)) g' := by
  have p64 : (2 : Nat) ^ H ≤ 64 := Nat.pow_le_pow_right (n := 2) (by decide) hH
  obtain ⟨kA1, kB1, hne, b1, b2, b3, b4⟩ := kA hAB.2.2
  have e99 : ∀ z, F_X3_spreadFewest_99 219 al (nI K) z = some (.inl (nI (K + 1), z)) := fun z => by
    unfold F_X3_spreadFewest_99 cL
    rw [nI_1]
  unfold F_X3_spreadFewest_30
  obtain ⟨x, g1, g', g2, g3⟩ := lp_go (s := S_X3_spreadFewest_30 219 al (nI K)) (v := (1, uA s B g)) K (by rw [fuel_v]; omega)
    (fun i w => ∃ g', w = (nI (i + 1), uA s B g') ∧ rowQ encC (cnd how H e c (prC K (i + 1))) g')
    (fun x => ∃ g', x = .inl (nI (K + 1), uA s B g') ∧ rowQ encC (cnd how H e c (prC (K + 1) 1)) g')
    ⟨g, rfl, hg⟩ (fun i w hi hw => by
      obtain ⟨g', a1, a2⟩ := hw
      subst a1
      have hPw : HC (uA s B g').2.2 := hP
      have hABw : PAB (uA s B g').2.2 A B := hAB
      have rA : (uA s B g').1 A = s.1 A := uA_row _ _ hne
      have rB : (uA s B g').1 B = g' := funext fun j => uA_own _ _ _ _
      have hTw : PlT how H e (uA s B g').1 := fun S hS => by
        rw [uA_row _ _ (show (220 : Nat) ≠ B by omega), uA_row _ _ (show (221 : Nat) ≠ B by omega)]
        exact hT S hS
      unfold S_X3_spreadFewest_30 F_X3_spreadFewest_30b
      dsimp only
      by_cases hlt : i < K
      · rw [if_neg (nI_nlt (by omega) (by omega)), PAB_A hABw, cG_t (inb_nI (by rw [kA1]; omega) (by rw [kA1]; decide)), cl_nI (n := K) (by omega), rA, hc K (by omega)]
        have e93 : ∀ z, F_X3_spreadFewest_93 219 al (nI K) (nI (i + 1)) z = some (.inl (nI (i + 1 + 1), z)) := fun z => by
          unfold F_X3_spreadFewest_93 cL
          rw [nI_1]
        obtain ⟨w1, w2⟩ := canSay_eq (S := i + 1) (K := K) hPw hH hTw (by omega)
        have hcK := hc K (by omega)
        revert hcK
        cases hci : c K with
        | none =>
          intro _
          right
          rw [if_pos (show (1000000 : Int32) ≤ encC none by decide), e99]
          exact ⟨_, rfl, g', rfl, rowQ_congr a2 (fun k n _ => prC_none hci)⟩
        | some n0 =>
          intro hcK
          left
          have hn0 := hB K n0 (by omega) hci
          rw [if_neg (show ¬ (1000000 : Int32) ≤ encC (some n0) from nI_ge (b := 1000000) (by omega) (by decide))]
          by_cases hs : (∀ x, inS (i + 1) x → inS K x) ∧ lwP how e (i + 1)
          · obtain ⟨p, hp⟩ : ∃ p, p = pc (i + 1) := ⟨_, rfl⟩
            have pcS : p ≤ 6 := by rw [hp]; exact (pc_eq (i + 1) (by omega)).2.1
            have hbc : ∀ z, F_J6_bitCount_0f7a4 (nI (i + 1)) z = some (nI p) := fun z => by rw [bc_eq, hp]; exact congrArg some (pc_eq (i + 1) (by omega)).1
            obtain ⟨kn, k1, k2⟩ := then_lt (S := i + 1) hH he hK
            rw [w1 hs, Option.bind_some, if_neg ne_10, rC_3_0 hPw (c := 219) (by decide), cG_t (inb_nI (by rw [k220]; omega) (by decide)), cl_nI (n := i + 1) (by omega), show (219 + 1 : Nat) = 220 from rfl, (hTw (i + 1) (by omega)).1]
            unfold cL
            dsimp only
            rw [k2, PAB_B hABw, PAB_B hABw, cG_t (inb_nI (by rw [kB1]; omega) (by rw [kB1]; decide)), PAB_A hABw, cG_t (inb_nI (by rw [kA1]; omega) (by rw [kA1]; decide)), hbc, Option.bind_some, cG_t (inb_nI (by rw [kB1]; omega) (by rw [kB1]; decide)), cl_nI (n := kn) (by omega), rA, rB, hcK, show encC (some n0) = nI n0 from rfl, nI_add, uI_as, rB, uA_uA, e93]
            obtain ⟨o, o1, o2⟩ := a2 kn (by omega)
            have step : ∀ k n, k < 64 → (cnd how H e c (prC K (i + 1 + 1)) k n ↔ cnd how H e c (prC K (i + 1)) k n ∨ (k = kn ∧ n = n0 + p)) := fun k n hk => by rw [hp]; exact cnd_step (prC_s (by omega)) hK (by omega) hci hs.1 hs.2 k2 (by omega) hk
            refine ⟨_, hlt, rfl, _, rfl, fun k hk => ?_⟩
            by_cases q : k = kn
            · subst q
              refine ⟨some (minO o (n0 + p)), mn_congr (mn_add (x := n0 + p) o1) (fun n => by rw [step k n (by omega)]; exact ⟨fun r => r.elim Or.inl (fun r => Or.inr ⟨rfl, r⟩), fun r => r.elim Or.inl (fun r => Or.inr r.2)⟩), ?_⟩
              rw [upd_eq, o2]
              cases o with
              | none =>
                rw [if_pos (show nI (n0 + p) < encC none from nI_lt (b := 1000000) (by omega) (by decide))]
                rfl
              | some y =>
                have hy : y ≤ B0 + 6 := by
                  obtain ⟨K', S', m0, -, q2, q3, q4, -, -, -, q8⟩ := o1.1
                  have := hB K' m0 (by omega) q4
                  have := (pc_eq S' (by omega)).2.1
                  omega
                show (if nI (n0 + p) < nI y then nI (n0 + p) else nI y) = nI (if n0 + p < y then n0 + p else y)
                by_cases r : n0 + p < y
                · rw [if_pos (nI_lt r (by omega)), if_pos r]
                · rw [if_neg (nI_nlt (by omega) (by omega)), if_neg r]
            · rw [upd_ne q]
              obtain ⟨o', p1, p2⟩ := a2 k hk
              exact ⟨o', mn_congr p1 (fun n => by rw [step k n hk]; exact ⟨Or.inl, fun r => r.resolve_right (fun r => q r.1)⟩), p2⟩
          · rw [w2 hs, Option.bind_some, if_pos rfl, e93]
            refine ⟨_, hlt, rfl, g', rfl, rowQ_congr a2 (fun k n _ => cnd_skip (prC_s (by omega)) (Or.inr ?_))⟩
            by_cases q : ∀ x, inS (i + 1) x → inS K x
            · exact Or.inr (fun r => hs ⟨q, r⟩)
            · exact Or.inl q
      · right
        have : i = K := by omega
        subst this
        rw [if_pos (nI_lt (by omega) (by omega)), e99]
        exact ⟨_, rfl, g', rfl, rowQ_congr a2 (fun k n _ => prC_end hH hK)⟩)
  exact ⟨g', by rw [g1, g2], g3⟩
/-- the two rows have changed places -/
def swf (P : SPt) : SPt := fun c k => if c = 219 ∧ k = 2 then P 219 3 else if c = 219 ∧ k = 3 then P 219 2 else P c k
theorem swf_2 {P : SPt} : swf P 219 2 = P 219 3 := if_pos ⟨rfl, rfl⟩
theorem swf_3 {P : SPt} : swf P 219 3 = P 219 2 := by unfold swf; rw [if_neg (by omega), if_pos ⟨rfl, rfl⟩]
theorem swf_o {P : SPt} {c k : Nat} (h : ¬ (c = 219 ∧ (k = 2 ∨ k = 3))) : swf P c k = P c k := by unfold swf; rw [if_neg (by omega), if_neg (by omega)]
theorem swf_swf {P : SPt} : swf (swf P) = P := by
  funext c k
  by_cases h2 : c = 219 ∧ k = 2
  · obtain ⟨a, b⟩ := h2
    subst a b
    rw [swf_2, swf_3]
  · by_cases h3 : c = 219 ∧ k = 3
    · obtain ⟨a, b⟩ := h3
      subst a b
      rw [swf_3, swf_2]
    · rw [swf_o (by omega), swf_o (by omega)]
theorem PAB_sw {P : SPt} {A B : Nat} (h : PAB P A B) : PAB (swf P) B A := ⟨swf_2.trans h.2.1, swf_3.trans h.1, h.2.2.elim (fun q => Or.inr ⟨q.2, q.1⟩) (fun q => Or.inl ⟨q.2, q.1⟩)⟩
theorem HC_sw {P : SPt} (h : HC P) : HC (swf P) := by
  obtain ⟨h1, h2, h3, h4, h5, h6⟩ := h
  refine ⟨fun c hc k d hd => ?_, fun j hj => ?_, fun j hj => ?_, ?_, ?_, ?_⟩
  · by_cases q : c = 219 ∧ (k = 2 ∨ k = 3)
    · obtain ⟨q1, q2⟩ := q
      subst q1
      have e : (kC 219).1 = 3 := rfl
      rw [e] at hd
      rcases q2 with q2 | q2 <;> subst q2
      · rw [show fxC 3 2 = none from by decide] at hd; cases hd
      · rw [show fxC 3 3 = none from by decide] at hd; cases hd
    · rw [swf_o q]
      exact h1 c hc k d hd
  · rw [swf_o (by omega)]
    exact h2 j hj
  · rw [swf_o (by omega)]
    exact h3 j hj
  · rw [swf_o (by omega), swf_o (by omega)]
    exact h4
  · rw [swf_o (by omega)]
    exact h5
  · rw [swf_2, swf_3]
    exact h6.elim (fun q => Or.inr ⟨q.2, q.1⟩) (fun q => Or.inl ⟨q.2, q.1⟩)
theorem TC_P {t : Nat} {D : TxD} {s s' : hSt} (h : TC t D s) (hP : HC s'.2.2) (h1 : ∀ k, t ≤ k → k < t + 17 → s'.1 k = s.1 k) (h2 : s'.2.1 = s.2.1) : TC t D s' := by
  have h' := TC_fr (σ' := (s'.1, s.2)) h rfl h1
  exact ⟨⟨hP, h'.1.2⟩, fun j hj => by
    have := h'.2 j hj
    rw [h2]
    exact this⟩
theorem spread_eq {how H B0 A B : Nat} {e : Nat → Int32} {c : Nat → Option Nat} {s : hSt} (hP : HC s.2.2) (hAB : PAB s.2.2 A B) (hH : H ≤ 6) (he : ∀ h, h < H → ∀ b, b < 32 → bt (e h) b = true → b < H) (hT : PlT how H e s.1)
    (hc : ∀ k, k < 64 → s.1 A k = encC (c k)) (hB : ∀ k n, k < 64 → c k = some n → n ≤ B0) (hB2 : B0 + 6 < 1000000) (hz : ∀ k, 2 ^ H ≤ k → k < 64 → c k = none) :
    ∃ s', F_X3_spreadFewest 219 (nI (2 ^ H - 1)) s = some s' ∧ s'.2.2 = swf s.2.2 ∧ s'.2.1 = s.2.1 ∧ (∀ k, k ≠ B → s'.1 k = s.1 k) ∧ rowQ encC (cnd how H e c (fun _ _ => True)) (s'.1 B) := by
  have p64 : (2 : Nat) ^ H ≤ 64 := Nat.pow_le_pow_right (n := 2) (by decide) hH
  have p0 : 0 < 2 ^ H := Nat.pow_pos (by decide)
  obtain ⟨kA1, kB1, hne, b1, b2, b3, b4⟩ := kA hAB.2.2
  unfold F_X3_spreadFewest F_X3_spreadFewest_17
  rw [PAB_A hAB, PAB_B hAB, cG_t (by rw [kA1, kB1]; decide)]
  unfold cL
  dsimp only
  have L105 : ∀ g : Nat → Int32, ∃ s', F_X3_spreadFewest_105 219 (uA s B g) = some s' ∧ s'.2.2 = swf s.2.2 ∧ s'.2.1 = s.2.1 ∧ (∀ k, k ≠ B → s'.1 k = s.1 k) ∧ s'.1 B = g := fun g => by
    have hABw : PAB (uA s B g).2.2 A B := hAB
    unfold F_X3_spreadFewest_105 cL
    rw [PAB_A hABw, PAB_B hABw]
    refine ⟨_, rfl, ?_, rfl, fun k hk => uA_row _ _ hk, funext fun j => uA_own _ _ _ _⟩
    funext c k
    show up2 (up2 s.2.2 219 2 (some B)) 219 3 (some A) c k = swf s.2.2 c k
    unfold up2
    by_cases q3 : c = 219 ∧ k = 3
    · rw [if_pos q3, q3.1, q3.2, swf_3, hAB.1]
    · rw [if_neg q3]
      by_cases q2 : c = 219 ∧ k = 2
      · rw [if_pos q2, q2.1, q2.2, swf_2, hAB.2.1]
      · rw [if_neg q2, swf_o (by omega)]
  obtain ⟨s', g1, g, g2, g3⟩ := lp_go (s := S_X3_spreadFewest_17 219 (nI (2 ^ H - 1))) (v := (0, uA s B (va_cpy (s.1 A) (s.1 B) (0 : Int32).toNatClampNeg (0 : Int32).toNatClampNeg (64 : Int32).toNatClampNeg))) (2 ^ H) (by rw [fuel_v]; omega)
    (fun K w => ∃ g, w = (nI K, uA s B g) ∧ rowQ encC (cnd how H e c (prC K 1)) g)
    (fun x => ∃ g, (x.2.2 = swf s.2.2 ∧ x.2.1 = s.2.1 ∧ (∀ k, k ≠ B → x.1 k = s.1 k) ∧ x.1 B = g) ∧ rowQ encC (cnd how H e c (fun _ _ => True)) g)
    ⟨_, rfl, fun k hk => by
      refine ⟨c k, ?_, ?_⟩
      · refine mn_congr (P := fun n => c k = some n) ?_ (fun n => ?_)
        · cases q : c k with
          | none => exact fun n r => by cases r
          | some n => exact ⟨rfl, fun m r => by rw [Option.some.inj r]; exact Nat.le_refl _⟩
        · refine (cnd_0 (how := how) (e := e) hH hk hz).trans (cnd_pr (fun K S _ _ _ _ _ => ?_))
          unfold prC
          omega
      · rw [show (0 : Int32).toNatClampNeg = 0 from rfl, show (64 : Int32).toNatClampNeg = 64 from rfl, cpy_lo hk]
        exact hc k hk⟩ (fun K w hK hw => by
      obtain ⟨g, a1, a2⟩ := hw
      subst a1
      unfold S_X3_spreadFewest_17 F_X3_spreadFewest_17b
      dsimp only
      by_cases hlt : K < 2 ^ H
      · left
        rw [if_neg (nI_nlt (by omega) (by omega)), if_neg (show ¬ (64 : Int32) ≤ nI K from nI_ge (b := 64) (by omega) (by decide))]
        obtain ⟨g', c1, c2⟩ := spIn (al := nI (2 ^ H - 1)) hP hAB hH he hT hc hB hB2 hlt a2
        rw [c1]
        exact ⟨_, hlt, rfl, g', rfl, c2⟩
      · right
        obtain ⟨s', y1, y2, y3, y4, y5⟩ := L105 g
        rw [if_pos (nI_lt (by omega) (by omega)), y1]
        exact ⟨s', rfl, g, ⟨y2, y3, y4, y5⟩, rowQ_congr a2 (fun k n _ => prC_all (by omega))⟩)
  exact ⟨s', g1, g2.1, g2.2.1, g2.2.2.1, by rw [g2.2.2.2]; exact g3⟩
theorem fill_eq {A : Nat} {s : hSt} (hA : (kC A).2 = 64) : ∃ g, F_J7_fill_53178 A 1000000 s = some (uA s A g) ∧ ∀ k, k < 64 → g k = 1000000 := by
  unfold F_J7_fill_53178 F_J7_fill_53178_5
  rw [hA]
  unfold cL
  dsimp only
  obtain ⟨x, g1, g, g2, g3⟩ := lp_go (s := S_J7_fill_53178_5 A 1000000 (Int32.ofNat 64)) (v := (0, s)) 64 (by rw [fuel_v]; decide)
    (fun i w => ∃ g, w = (nI i, uA s A g) ∧ ∀ k, k < i → g k = 1000000) (fun x => ∃ g, x = uA s A g ∧ ∀ k, k < 64 → g k = 1000000)
    ⟨s.1 A, by rw [uA_self]; rfl, fun k q => absurd q (by omega)⟩ (fun i w hi hw => by
      obtain ⟨g, a1, a2⟩ := hw
      subst a1
      unfold S_J7_fill_53178_5 F_J7_fill_53178_5b cL
      dsimp only
      by_cases hlt : i < 64
      · left
        rw [if_neg (show ¬ Int32.ofNat 64 ≤ nI i from nI_ge (b := 64) hlt (by decide)), cG_t (inb_nI (by rw [hA]; omega) (by rw [hA]; decide)), cl_nI (by omega), uI_as, uA_uA, nI_1, show (uA s A g).1 A = g from funext fun j => uA_own _ _ _ _]
        refine ⟨_, hlt, rfl, _, rfl, fun k hk => ?_⟩
        by_cases q : k = i
        · rw [q, upd_eq]
        · rw [upd_ne q]
          exact a2 k (by omega)
      · right
        have : i = 64 := by omega
        subst this
        rw [if_pos (show Int32.ofNat 64 ≤ nI 64 by decide)]
        exact ⟨_, rfl, g, rfl, a2⟩)
  exact ⟨g, by rw [g1, g2], g3⟩
/-- the model's last look -/
theorem lastM {li n0 : Nat} {D : TxD} {u : hSt} {c : Nat → Option Nat} (hD : TXok D) (hM : TM li D u) (hc : ∀ k, k < 64 → u.1 39 k = encM (c k)) (hB : ∀ k n, k < 64 → c k = some n → n ≤ n0) (h0 : n0 < 1000000) :
    S_X12_drums_17 0 (nI 60, u) = some (.inr ((match c (2 ^ tH D - 1) with | none => -2 | some n => nI n), u)) := by
  have d1 := hD.1
  have p64 : (2 : Nat) ^ tH D ≤ 64 := Nat.pow_le_pow_right (n := 2) (by decide) d1
  have p0 : 0 < 2 ^ tH D := Nat.pow_pos (by decide)
  have f73 : ∀ x, F_X12_drums_73 x u = some (x, u) := fun _ => rfl
  unfold S_X12_drums_17 F_X12_drums_17b cL
  dsimp only
  rw [if_pos (show (60 : Int32) ≤ nI 60 by decide), rM_59 hM.1, rM_24 hM.1, hM.2.1.1, cG_t (inb_nI (by rw [kM_11]; exact hM.2.1.2) (by decide)), cl_nI (n := li) (by have := hM.2.1.2; omega), hM.2.2.1.1, all_eq _ d1, cG_t (inb_nI (by rw [kM_39]; omega) (by decide)), cl_nI (n := 2 ^ tH D - 1) (by omega), hc _ (by omega)]
  cases q : c (2 ^ tH D - 1) with
  | none =>
    rw [if_neg (show ¬ 0 ≤ encM none by decide), f73]
    rfl
  | some n =>
    have := hB _ n (by omega) q
    rw [if_pos (show 0 ≤ encM (some n) from Int32.not_lt.mp (nI_pos (by omega))), f73]
    rfl
theorem stepM {li d i : Nat} {D : TxD} {u u' : hSt} (hM : TM li D u) (u120 : u.1 36 120 = nI d) (hi : i < 60) (hu : F_X12_planDay 0 (nI (d + i + 1)) u = some u') : S_X12_drums_17 0 (nI i, u) = some (.inl (nI (i + 1), u')) := by
  unfold S_X12_drums_17 F_X12_drums_17b cL
  dsimp only
  rw [if_neg (show ¬ (60 : Int32) ≤ nI i from nI_ge (b := 60) hi (by decide)), rM_53 hM.1, cG_t (show inb (120 : Int32) (kM 36).2 = true by rw [kM_36]; decide), show (120 : Int32).toNatClampNeg = 120 from rfl, u120, nI_1, nI_add, show d + 1 + i = d + i + 1 by omega, hu, Option.bind_some, nI_1]
theorem lastC {A B : Nat} {D : TxD} {s : hSt} {c : Nat → Option Nat} {n0 : Nat} (hD : TXok D) (hAB : PAB s.2.2 A B) (hc : ∀ k, k < 64 → s.1 A k = encC (c k)) (hB : ∀ k n, k < 64 → c k = some n → n ≤ n0) (h0 : n0 < 1000000) :
    F_X3_fewestDrums_73 219 (nI (2 ^ tH D - 1)) s = some ((match c (2 ^ tH D - 1) with | none => -2 | some n => nI n), s) := by
  have d1 := hD.1
  have p64 : (2 : Nat) ^ tH D ≤ 64 := Nat.pow_le_pow_right (n := 2) (by decide) d1
  have p0 : 0 < 2 ^ tH D := Nat.pow_pos (by decide)
  obtain ⟨kA1, -⟩ := kA hAB.2.2
  have f97 : ∀ x, F_X3_fewestDrums_97 x s = some (x, s) := fun _ => rfl
  unfold F_X3_fewestDrums_73
  rw [PAB_A hAB, cG_t (inb_nI (by rw [kA1]; omega) (by rw [kA1]; decide)), cl_nI (by omega), hc _ (by omega)]
  cases q : c (2 ^ tH D - 1) with
  | none =>
    rw [if_pos (show (1000000 : Int32) ≤ encC none by decide), f97]
  | some n =>
    have := hB _ n (by omega) q
    rw [if_neg (show ¬ (1000000 : Int32) ≤ encC (some n) from nI_ge (b := 1000000) (by omega) (by decide)), PAB_A hAB, cG_t (inb_nI (by rw [kA1]; omega) (by rw [kA1]; decide)), hc _ (by omega), q, f97]
    rfl
theorem mn_0 {P : Nat → Prop} {o : Option Nat} (h : mn P o) (h0 : P 0) : o = some 0 := by
  cases o with
  | none => exact absurd h0 (h 0)
  | some n =>
    have := h.2 0 h0
    exact congrArg some (by omega)
theorem cnd_keep {how H k n : Nat} {e : Nat → Int32} {c : Nat → Option Nat} (hk : k < 2 ^ H) (h : c k = some n) : cnd how H e c (fun _ _ => True) k n :=
  ⟨k, 0, n, trivial, hk, Nat.pow_pos (by decide), h, fun x hx => absurd hx (inS_0 x), lwP_0, by rw [hb_0, or0], by rw [pc_0]; rfl⟩
theorem cnd_pos {how H k : Nat} {e : Nat → Int32} {c : Nat → Option Nat} (hH : H ≤ 6) (hk : k < 64) (h : c k ≠ some 0) : ¬ cnd how H e c (fun _ _ => True) k 0 := by
  have p64 : (2 : Nat) ^ H ≤ 64 := Nat.pow_le_pow_right (n := 2) (by decide) hH
  rintro ⟨K, S, n0, -, q2, q3, q4, q5, q6, q7, q8⟩
  have hS : S = 0 := by
    rcases Nat.eq_zero_or_pos S with r | r
    · exact r
    · have := (pc_eq S (by omega)).2.2 (by omega)
      omega
  subst hS
  rw [hb_0, or0] at q7
  have : k = K := (nI_eq (by omega) (by omega)).mp q7
  subst this
  exact h (by rw [q4, show n0 = 0 by omega])
theorem drums_both {b t li m : Nat} {D : TxD} {σ τ : hSt} (hD : TXok D) (ht : Rat t σ.2.2) (hT : TC t D σ) (hM : TM li D τ) (hR : Rst (tH D) (tM D) b σ τ) (hb : b + 300 < 2 ^ 30) (hm : m < tM D) :
    ∃ v s u0 u, F_X3_fewestDrums 219 t 44 (nI m) σ = some (v, s) ∧ F_X12_startsPlan 0 (nI m) τ = some u0 ∧ F_X12_drums_17 0 0 u0 = some (v, u) ∧ TC t D s ∧ frC t σ s ∧ TM li D u ∧ frM τ u := by
  have d1 := hD.1
  have d2 := hD.2.1
  have p64 : (2 : Nat) ^ tH D ≤ 64 := Nat.pow_le_pow_right (n := 2) (by decide) d1
  have p0 : 0 < 2 ^ tH D := Nat.pow_pos (by decide)
  obtain ⟨ht1, ht2⟩ := Rat_ok ht
  obtain ⟨n, d, hW, h120, hdb, hRH⟩ := hR.2.2.1
  obtain ⟨K, k1, k2, k3⟩ := start_set (m := m) hW hRH (by omega) d1
  obtain ⟨g, g1, g2⟩ := starts_eq (m := m) hD hM (by omega) k1 k3
  have e44 : σ.1 44 0 = nI d := hW.1.1.trans h120
  have hM1 : TM li D (uA τ 39 g) := TM_M hM rfl ⟨fun j _ _ _ _ => by rw [uA_row _ _ (show (0 : Nat) ≠ 39 by decide)], fun k p1 p2 p3 p4 p5 p6 p7 p8 => uA_row _ _ p6⟩
  have f1 : frM τ (uA τ 39 g) := ⟨fun j _ _ _ _ => by rw [uA_row _ _ (show (0 : Nat) ≠ 39 by decide)], fun k p1 p2 p3 p4 p5 p6 p7 p8 => uA_row _ _ p6⟩
  have hP : HC σ.2.2 := hT.1.1
  obtain ⟨A, B, hAB⟩ : ∃ A B, PAB σ.2.2 A B := by
    rcases hP.2.2.2.2.2 with ⟨q, r⟩ | ⟨q, r⟩
    · exact ⟨222, 223, q, r, Or.inl ⟨rfl, rfl⟩⟩
    · exact ⟨223, 222, q, r, Or.inr ⟨rfl, rfl⟩⟩
  obtain ⟨kA1, kB1, hne, b1, b2, b3, b4⟩ := kA hAB.2.2
  obtain ⟨f, y1, y2⟩ := fill_eq (s := σ) kA1
  have hABf : PAB (uA σ A f).2.2 A B := hAB
  unfold F_X3_fewestDrums
  rw [allC_eq hT, Option.bind_some, all_eq _ d1, PAB_A hAB, y1, Option.bind_some, PAB_A hABf, uA_row _ _ (show (44 : Nat) ≠ A by omega)]
  unfold F_X11_rowOf
  rw [k2, Option.bind_some, cG_t (inb_nI (by rw [kA1]; omega) (by rw [kA1]; decide)), cl_nI (by omega), uI_as, uA_uA, show (uA σ A f).1 A = f from funext fun j => uA_own _ _ _ _]
  unfold cL
  dsimp only
  obtain ⟨s0, hs0⟩ : ∃ s0, s0 = uA σ A (upd f K 0) := ⟨_, rfl⟩
  rw [← hs0]
  have s0P : s0.2 = σ.2 := by subst hs0; rfl
  have s0r : ∀ k, k ≠ A → s0.1 k = σ.1 k := fun k q => by subst hs0; exact uA_row _ _ q
  have s0A : ∀ k, k < 64 → s0.1 A k = encC (c0K K k) := fun k hk => by
    subst hs0
    rw [uA_own]
    by_cases q : k = K
    · rw [q, upd_eq, c0K_y]; rfl
    · rw [upd_ne q, c0K_n q, y2 k hk]; rfl
  have s0T : TC t D s0 := TC_fr hT s0P (fun k q1 q2 => s0r k (by omega))
  have s0f : ∀ k, ¬ (t ≤ k ∧ k < t + 17) → ¬ (48 ≤ k ∧ k < 52) → ¬ (219 ≤ k ∧ k < 234) → s0.1 k = σ.1 k := fun k q1 q2 q3 => s0r k (by omega)
  have hAB0 : PAB s0.2.2 A B := by rw [s0P]; exact hAB
  have u0c : ∀ k, k < 64 → (uA τ 39 g).1 39 k = encM (c0K K k) := fun k hk => by
    rw [uA_own, g2 k hk]
    rfl
  have c0B : ∀ k n, k < 64 → c0K K k = some n → n ≤ 0 := fun k n _ q => by
    by_cases r : k = K
    · rw [r, c0K_y] at q
      have := Option.some.inj q
      omega
    · rw [c0K_n r] at q; cases q
  have c0z : ∀ k, 2 ^ tH D ≤ k → k < 64 → c0K K k = none := fun k q1 q2 => c0K_n (by omega)
  have ears : ∀ i, i < 60 → ∃ v, earJ D (d + i + 1) v := fun i hi => by
    obtain ⟨v, -, -, -, -, -, y⟩ := heardOn_eq hD ht1 hT (show d + i + 1 < 2 ^ 30 by omega)
    exact ⟨v, y⟩
  have u120 : ∀ u, frM τ u → u.1 36 120 = nI d := fun u q => by rw [q.2 36 (by decide) (by decide) (by decide) (by decide) (by decide) (by decide) (by decide) (by decide)]; exact h120
  by_cases hall : K = 2 ^ tH D - 1
  · -- all know it already
    have main : ∃ y, lp (S_X12_drums_17 0) fuel (0, uA τ 39 g) = some y ∧ (fun (y : Int32 × hSt) => y.1 = 0 ∧ TM li D y.2 ∧ frM τ y.2) y := by
      refine lp_go 60 (by rw [fuel_v]; decide)
        (fun i y => ∃ c : Nat → Option Nat, y.1 = nI i ∧ TM li D y.2 ∧ frM τ y.2 ∧ (∀ k, k < 64 → y.2.1 39 k = encM (c k)) ∧ (∀ k n, k < 64 → c k = some n → n ≤ 6 * i) ∧ c (2 ^ tH D - 1) = some 0) _ ⟨c0K K, rfl, hM1, f1, u0c, c0B, by rw [← hall]; exact c0K_y⟩ (fun i y hi hy => ?_)
      obtain ⟨i', u⟩ := y
      obtain ⟨c, a1, a2, a3, a4, a5, a6⟩ := hy
      dsimp only at a1 a2 a3 a4 a5 a6
      subst a1
      by_cases hlt : i < 60
      · left
        obtain ⟨v, hv⟩ := ears i hlt
        obtain ⟨u', z1, z2, z3, -, z4⟩ := planDay_eq (B := 6 * i) (c := cLo c) hD a2 (show d + i + 1 < 2 ^ 30 by omega) hv (fun k hk => by rw [cLo_y hk]; exact a4 k hk) (fun k n q => a5 k n (cLo_s q).1 (cLo_s q).2) (by omega)
        obtain ⟨c', hc'⟩ := rowQ_fun (rowQ_congr z4 (fun k n _ => cnd_Lo d1))
        obtain ⟨w1, -⟩ := next_c (B := 6 * i) d1 (earJ_lt hD hv) a5 (fun k hk => (hc' k hk).1)
        exact ⟨_, hlt, stepM a2 (u120 u a3) hlt z1, c', rfl, z2, frM_trans a3 z3, fun k hk => (hc' k hk).2, fun k n hk q => by have := w1 k n hk q; omega, mn_0 (hc' _ (by omega)).1 (cnd_keep (by omega) a6)⟩
      · right
        have : i = 60 := by omega
        subst this
        have := lastM hD a2 a4 a5 (by omega)
        rw [a6] at this
        exact ⟨_, this, rfl, a2, a3⟩
    obtain ⟨⟨y1, y2⟩, q1, q2, q3, q4⟩ := main
    dsimp only at q2 q3 q4
    subst q2
    refine ⟨0, s0, uA τ 39 g, y2, ?_, g1, q1, s0T, ⟨by rw [s0P], s0f⟩, q3, q4⟩
    unfold F_X3_fewestDrums_32
    refine lp_1a ?_
    have l73 := lastC hD hAB0 s0A c0B (by decide)
    rw [← hall, c0K_y] at l73
    unfold S_X3_fewestDrums_32 F_X3_fewestDrums_32b
    dsimp only
    rw [if_neg (show ¬ (60 : Int32) < 1 by decide), PAB_A hAB0, cG_t (inb_nI (by rw [kA1]; omega) (by rw [kA1]; decide)), cl_nI (by omega), s0A _ (by omega), ← hall, c0K_y, if_pos (show encC (some 0) = 0 from rfl), l73]
    rfl
  · have main : ∃ x y, lp (S_X3_fewestDrums_32 219 t 44 (nI (2 ^ tH D - 1))) fuel (1, s0) = some x ∧ lp (S_X12_drums_17 0) fuel (0, uA τ 39 g) = some y ∧ (fun (x y : Int32 × hSt) => x.1 = y.1 ∧ TC t D x.2 ∧ frC t σ x.2 ∧ TM li D y.2 ∧ frM τ y.2) x y := by
      refine lp_two 60 (by rw [fuel_v]; decide)
        (fun i x y => ∃ (c : Nat → Option Nat) (A B : Nat), x.1 = nI (i + 1) ∧ y.1 = nI i ∧ PAB x.2.2.2 A B ∧ x.2.2.2 = (if i % 2 = 0 then σ.2.2 else swf σ.2.2) ∧ TC t D x.2 ∧ (∀ k, ¬ (t ≤ k ∧ k < t + 17) → ¬ (48 ≤ k ∧ k < 52) → ¬ (219 ≤ k ∧ k < 234) → x.2.1 k = σ.1 k) ∧ TM li D y.2 ∧ frM τ y.2 ∧ (∀ k, k < 64 → x.2.1 A k = encC (c k)) ∧ (∀ k, k < 64 → y.2.1 39 k = encM (c k)) ∧ (∀ k n, k < 64 → c k = some n → n ≤ 6 * i) ∧ (∀ k, 2 ^ tH D ≤ k → k < 64 → c k = none) ∧ c (2 ^ tH D - 1) ≠ some 0)
        _ ⟨c0K K, A, B, rfl, rfl, hAB0, by rw [s0P]; rfl, s0T, s0f, hM1, f1, s0A, u0c, c0B, c0z, by rw [c0K_n (fun q => hall q.symm)]; exact fun q => by cases q⟩ (fun i x y hi hxy => ?_)
      obtain ⟨l5, s⟩ := x
      obtain ⟨i', u⟩ := y
      obtain ⟨c, A', B', a1, a2, a3, a4, a5, a6, a7, a8, a9, a10, a11, a12, a13⟩ := hxy
      dsimp only at a1 a2 a3 a4 a5 a6 a7 a8 a9 a10 a11 a12 a13
      subst a1 a2
      obtain ⟨kA1, kB1, hne, b1, b2, b3, b4⟩ := kA a3.2.2
      by_cases hlt : i < 60
      · left
        have s44 : s.1 44 0 = nI d := by rw [a6 44 (by omega) (by omega) (by omega)]; exact e44
        obtain ⟨s', v, x1, x2, x3, x4, x5, x6⟩ := setDay_eq (s := s) hD ht1 ht2 a5 (show d + i + 1 < 2 ^ 30 by omega)
        have hv := earJ_lt hD x5
        obtain ⟨u', z1, z2, z3, -, z4⟩ := planDay_eq (B := 6 * i) (c := cLo c) hD a7 (show d + i + 1 < 2 ^ 30 by omega) x5 (fun k hk => by rw [cLo_y hk]; exact a10 k hk) (fun k n q => a11 k n (cLo_s q).1 (cLo_s q).2) (by omega)
        obtain ⟨c', hc'⟩ := rowQ_fun (rowQ_congr z4 (fun k n _ => cnd_Lo d1))
        obtain ⟨w1, w2⟩ := next_c (B := 6 * i) d1 hv a11 (fun k hk => (hc' k hk).1)
        have hAB' : PAB s'.2.2 A' B' := by rw [x3]; exact a3
        obtain ⟨s2, v1, v2, v3, v4, v5⟩ := spread_eq (how := tO D) (H := tH D) (B0 := 6 * i) (e := fun h => hC v h) (c := c) x2.1.1 hAB' d1 hv x6 (fun k hk => by rw [x4 A' (by omega) (by omega) (by omega)]; exact a9 k hk) a11 (by omega) a12
        have n0 : ¬ encC (c (2 ^ tH D - 1)) = 0 := by
          cases q : c (2 ^ tH D - 1) with
          | none => decide
          | some y =>
            intro r
            have hy := a11 _ y (by omega) q
            have : y = 0 := (nI_eq (b := 0) (by omega) (by decide)).mp r
            rw [this] at q
            exact a13 q
        refine ⟨(nI (i + 1 + 1), s2), (nI (i + 1), u'), hlt, ?_, stepM a7 (u120 u a8) hlt z1, c', B', A', rfl, rfl, ?_, ?_, ?_, ?_, z2, frM_trans a8 z3, ?_, fun k hk => (hc' k hk).2, fun k n hk q => by have := w1 k n hk q; omega, w2, ?_⟩
        · unfold S_X3_fewestDrums_32 F_X3_fewestDrums_32b
          dsimp only
          rw [if_neg (show ¬ (60 : Int32) < nI (i + 1) from nI_nlt (a := 60) (by omega) (by decide)), PAB_A a3, cG_t (inb_nI (by rw [kA1]; omega) (by rw [kA1]; decide)), cl_nI (by omega), a9 _ (by omega), if_neg n0, s44, nI_add, show d + (i + 1) = d + i + 1 by omega, x1, Option.bind_some, v1, Option.bind_some]
          unfold cL
          rw [nI_1]
        · rw [v2]
          exact PAB_sw hAB'
        · rw [v2, x3, a4]
          by_cases q : i % 2 = 0
          · rw [if_pos q, if_neg (by omega)]
          · rw [if_neg q, if_pos (by omega), swf_swf]
        · exact TC_P x2 (by rw [v2]; exact HC_sw x2.1.1) (fun k q1 q2 => v4 k (by omega)) v3
        · intro k q1 q2 q3
          rw [v4 k (by omega), x4 k q1 (by omega) (by omega)]
          exact a6 k q1 q2 q3
        · intro k hk
          obtain ⟨o, o1, o2⟩ := v5 k hk
          rw [o2, mn_eq o1 (hc' k hk).1]
        · intro q
          have := (hc' (2 ^ tH D - 1) (by omega)).1
          rw [q] at this
          exact cnd_pos d1 (by omega) a13 this.1
      · right
        have : i = 60 := by omega
        subst this
        have l73 := lastC hD a3 a9 a11 (by omega)
        have lM := lastM hD a7 a10 a11 (by omega)
        refine ⟨((match c (2 ^ tH D - 1) with | none => -2 | some n => nI n), s), _, ?_, lM, rfl, a5, ⟨a4, a6⟩, a7, a8⟩
        unfold S_X3_fewestDrums_32 F_X3_fewestDrums_32b
        dsimp only
        rw [if_pos (show (60 : Int32) < nI (60 + 1) by decide), l73]
        rfl
    obtain ⟨⟨x1, x2⟩, ⟨y1, y2⟩, q1, q2, q3, q4, q5, q6, q7⟩ := main
    dsimp only at q3 q4 q5 q6 q7
    subst q3
    exact ⟨x1, x2, uA τ 39 g, y2, q1, g1, q2, q4, q5, q6, q7⟩
theorem drums_eq {b : Nat} {σ τ : hSt} {x : Int32} (hb : b + 300 < 2 ^ 30) (h : Rr b σ τ) : ∃ v σ' τ', F_X11_drums 0 x σ = some (v, σ') ∧ F_X12_drums 0 x τ = some (v, τ') ∧ Rr b σ' τ' := by
  have h00 := h
  obtain ⟨t, li, D, ht, hD, hT, hM, hR⟩ := h
  have hP : HC σ.2.2 := hT.1.1
  have c28 : ∀ x s, F_X11_drums_28 x s = some (x, s) := fun _ _ => rfl
  unfold F_X11_drums F_X12_drums
  rcases news_eq (x := x) hD ht hT.1 hM with ⟨m, hm, e, q1, q2⟩ | ⟨q1, q2⟩
  · subst e
    rw [q1, q2]
    simp only [Option.bind_some, if_neg ne_10]
    obtain ⟨v, s, u0, u, w1, w2, w3, w4, w5, w6, w7⟩ := drums_both hD ht hT hM hR hb hm
    rw [rC_11_11' hP, Rat_c ht, rC_11_5' hP, cC_t w1, c28, w2, Option.bind_some, w3]
    exact ⟨v, s, u, rfl, rfl, Rr_ro ht hD hR w4 w6 w5 w7⟩
  · rw [q1, q2]
    simp only [Option.bind_some, if_true]
    exact ⟨-1, σ, τ, c28 _ _, rfl, h00⟩
