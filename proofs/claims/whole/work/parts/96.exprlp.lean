/-! ===== PURE 61: a whole term in the model ===== -/
theorem pop_len {st : Bool} : ∀ W : List Nat, (pop st W).1.length + (pop st W).2.length = W.length ∧ ∀ w, w ∈ (pop st W).1 → w ∈ W
  | [] => ⟨rfl, fun _ h => h⟩
  | w :: W => by
    have ih := pop_len (st := st) W
    by_cases q : w = 40 ∨ (st = true ∧ isW w)
    · have e : pop st (w :: W) = (w :: W, []) := if_pos q
      rw [e]
      exact ⟨rfl, fun _ h => h⟩
    · have e : pop st (w :: W) = ((pop st W).1, em w :: (pop st W).2) := if_neg q
      rw [e]
      refine ⟨?_, fun x hx => List.mem_cons_of_mem _ (ih.2 x hx)⟩
      show (pop st W).1.length + (em w :: (pop st W).2).length = (w :: W).length
      rw [List.length_cons, List.length_cons, ← ih.1]
      omega
section EL
variable {n : Nat} {b : Nat → Nat} {c0 B k0 : Nat} {s0 : hSt} {r : Res}
/-- where a round of a term leads -/
def PoA (n : Nat) (b : Nat → Nat) (c0 B k0 : Nat) (s0 : hSt) (r : Res) (k : Nat) (o : (Int32 × hSt) ⊕ hSt) : Prop :=
  (∃ k' d' W' C' s', o = .inl (1, s') ∧ k < k' ∧ StM n b c0 B k0 s0 r true k' d' W' C' s') ∨ (∃ s', (o = .inl (1, s') ∨ o = .inr s') ∧ DeM n b c0 B s0 r s') ∨
  (∃ k' os s', o = .inr s' ∧ k ≤ k' ∧ LvM n b k' s' ∧ ExR c0 B 0 [] os s0 s' ∧ os.length + k0 ≤ k' ∧ r = .inl (k', os))
/-- one more waits -/
theorem push_M {d w : Nat} {W : List Nat} {C : Ops} {s : hSt} (hQ : HM s.2.2) (h : ExR c0 B d W C s0 s) (hl : W.length < 64) : ExR c0 B d (w :: W) C s0 (uI (uI s 32 W.length (nI (mkK w))) 0 48 (nI (W.length + 1))) := by
  obtain ⟨h1, h2, h3, h4, h5, h6⟩ := h
  refine ⟨?_, ?_, ⟨?_, ?_⟩, ?_, ?_, frP_trans h6 ⟨rfl, fun j _ _ _ _ _ a => ?_, fun k a _ _ c => ?_, fun j _ => ?_⟩⟩
  · rw [uI_ne _ _ (by omega), uI_row _ _ (by decide)]; exact h1
  · rw [uI_I, if_pos ⟨rfl, rfl⟩]; rfl
  · rw [uI_row _ _ (by decide), uI_I, if_pos ⟨rfl, rfl⟩]
  · rw [uI_row _ _ (by decide)]
    exact wtM_congr W (fun j hj => uI_ne _ _ (by omega)) h3
  · rw [uI_ne _ _ (by omega), uI_row _ _ (by decide)]; exact h4
  · rw [uI_row _ _ (by decide), uI_row _ _ (by decide), uI_row _ _ (by decide), uI_row _ _ (by decide)]; exact h5
  · rw [uI_ne _ _ (by omega), uI_row _ _ (by decide)]
  · rw [uI_row _ _ a, uI_row _ _ c]
  · rw [uI_row _ _ (by decide), uI_row _ _ (by decide), uI_row _ _ (by decide), uI_row _ _ (by decide)]
    exact ⟨rfl, rfl⟩
theorem comesDe {s : hSt} (hB2 : B ≤ 840) (h : DeM n b c0 B s0 r s) : ∃ s', F_X12_comesOut 0 0 s = some s' ∧ DeM n b c0 B s0 r s' := by
  obtain ⟨f, j, d, W, C, h1, h2, h3, h4, h5, h6⟩ := h
  obtain ⟨s', g1, g2, g3, g4, g5⟩ := comes_eq (st := false) h1.1 h2 h3 (by omega) h5 hB2
  obtain ⟨p1, p2⟩ := pop_len (st := false) W
  exact ⟨s', g1, f, j, d, _, _, DdM_ok h1 g3 g4, g2, fun w hw => h3 w (p2 w hw), by omega, by rw [List.length_append]; omega, h6⟩
theorem roundDe {s : hSt} (hB2 : B ≤ 840) (h : DeM n b c0 B s0 r s) : ∃ s', S_X12_expression_96 0 0 s = some (.inr (.inr s')) ∧ DeM n b c0 B s0 r s' := by
  obtain ⟨s', g1, g2⟩ := comesDe hB2 h
  obtain ⟨f, j, d, W, C, h1, -⟩ := h
  have e204 : F_X12_expression_204 0 s = some s' := by
    unfold F_X12_expression_204
    rw [g1, Option.bind_some]
  refine ⟨s', ?_, g2⟩
  unfold S_X12_expression_96 F_X12_expression_96b F_X12_expression_145 F_X12_expression_186
  rw [isD h1, Option.bind_some, if_pos rfl, isD h1, Option.bind_some, if_pos rfl, isD h1, Option.bind_some, if_pos rfl, isD h1, Option.bind_some, if_pos rfl, isD h1, Option.bind_some, if_pos rfl, if_pos rfl, mfailD h1, Option.bind_some, e204]
  split <;> rfl
theorem opM {k d : Nat} {W : List Nat} {C : Ops} {s : hSt} {st : Bool} (hB : B = c0 + (401 - k0)) (hB2 : B ≤ 840) (h : StM n b c0 B k0 s0 r false k d W C s) (hop : isS (KK n b k) ∨ isW (KK n b k)) (hst : decide (isS (KK n b k)) = st) :
    ∃ o, F_X12_expression_234 0 0 1 0 (if st then 1 else 0) s = some o ∧ PoA n b c0 B k0 s0 r k o := by
  obtain ⟨h1, h2, h3, h4, h5, h6⟩ := h
  have hk := h1.2.2.2.2.1
  obtain ⟨l1, l2⟩ := shU_len h3
  have b1 : W.length ≤ 20 := by omega
  have b2 : c0 + C.length + W.length ≤ B := by omega
  obtain ⟨s1, g1, g2, g3, g4, g5⟩ := comes_eq (st := st) h1.1 h2 l2 (by omega) b2 hB2
  have L1 : LvM n b k s1 := LvM_ok h1 g3 g4 g5
  obtain ⟨p1, p2⟩ := pop_len (st := st) W
  have e48 := g2.2.1
  have R2 := push_M (w := KK n b k) L1.1 g2 (by omega)
  have t1 := (LvM_tok L1).1
  have e11 := L1.2.2.2.1
  have L2 : LvM n b k (uI (uI s1 32 (pop st W).1.length (nI (mkK (KK n b k)))) 0 48 (nI ((pop st W).1.length + 1))) := LvM_fr L1 rfl (by rw [uI_ne _ _ (by omega), uI_row _ _ (by decide)]) (by rw [uI_ne _ _ (by omega), uI_row _ _ (by decide)]) (fun c x y => by rw [uI_row _ _ (by omega), uI_row _ _ (by omega)])
  obtain ⟨s2, q1, q2, q3⟩ := goA L2 (fun z => by rw [z] at hop; revert hop; decide)
  unfold F_X12_expression_234
  rw [g1, Option.bind_some, rM_47 L1.1, rM_5 L1.1, e11, cG_t (inb_nI (by rw [kM_3]; omega) (by decide)), e48, cG_t (inb_nI (by rw [kM_32]; omega) (by decide)), cl_nI (by omega), cl_nI (by omega), t1]
  unfold cL
  dsimp only
  rw [uI_row _ _ (show (0 : Nat) ≠ 32 by decide), e48, nI_1, q1, Option.bind_some]
  refine ⟨_, rfl, ?_⟩
  have n41 : ¬ (KK n b k = 41 ∧ 0 < d) := fun z => by rcases hop with (y | y) | (y | y) <;> omega
  have rm : r = if k = 400 then .inr (2, k) else Rm (KK n b) (VV n b) true (k + 1) d (KK n b k :: (pop st W).1) (C ++ (pop st W).2) := by
    rw [h6, Rm_A hk, if_neg n41, if_pos hop, hst]
  have shape : shU d (KK n b k :: (pop st W).1) := by
    cases st with
    | true =>
      have hs : isS (KK n b k) := of_decide_eq_true hst
      obtain ⟨Q, O, x1, x2, x3⟩ := pop_T h3 hs
      rw [x1]
      exact x2
    | false =>
      have hs : ¬ isS (KK n b k) := of_decide_eq_false hst
      obtain ⟨P, W', x1, x2, x3, x4⟩ := pop_F h3
      rw [x2]
      exact ⟨[KK n b k], W', rfl, Or.inr (Or.inr (Or.inl ⟨_, hop.resolve_left hs, rfl⟩)), x3⟩
  rcases q3 with ⟨y1, y2⟩ | ⟨y1, y2⟩
  · refine Or.inl ⟨k + 1, d, _, _, s2, rfl, by omega, y2, ExR_N R2 q2, shape, h4, ?_, ?_⟩
    · rw [List.length_append, List.length_cons]; omega
    · rw [rm, if_neg (by omega)]
  · refine Or.inr (Or.inl ⟨s2, Or.inl rfl, 2, k, d, _, _, y2, ExR_N R2 q2, (shU_len shape).2, ?_, ?_, ?_⟩)
    · rw [List.length_cons]; omega
    · rw [List.length_append, List.length_cons]; omega
    · rw [rm, if_pos y1]
theorem opsM {k d : Nat} {W : List Nat} {C : Ops} {s : hSt} (hB : B = c0 + (401 - k0)) (hB2 : B ≤ 840) (h : StM n b c0 B k0 s0 r false k d W C s) (n41 : ¬ (KK n b k = 41 ∧ 0 < d)) :
    ∃ o, F_X12_expression_145 0 0 s = some o ∧ PoA n b c0 B k0 s0 r k o := by
  have h' := h
  obtain ⟨h1, h2, h3, h4, h5, h6⟩ := h
  have hk := h1.2.2.2.2.1
  obtain ⟨l1, l2⟩ := shU_len h3
  have b1 : W.length ≤ 20 := by omega
  have b2 : c0 + C.length + W.length ≤ B := by omega
  have i43 : F_X12_is 0 (8 : Int32) s = some (if KK n b k = 43 then 1 else 0) := isA (w := 43) h1 (by decide)
  have i45 : F_X12_is 0 (9 : Int32) s = some (if KK n b k = 45 then 1 else 0) := isA (w := 45) h1 (by decide)
  have i42 : F_X12_is 0 (10 : Int32) s = some (if KK n b k = 42 then 1 else 0) := isA (w := 42) h1 (by decide)
  have i47 : F_X12_is 0 (15 : Int32) s = some (if KK n b k = 47 then 1 else 0) := isA (w := 47) h1 (by decide)
  by_cases hop : isS (KK n b k) ∨ isW (KK n b k)
  · have g := opM (st := decide (isS (KK n b k))) hB hB2 h' hop rfl
    unfold F_X12_expression_145 F_X12_expression_181 F_X12_expression_186 F_X12_expression_229
    rw [i43, Option.bind_some, i45, Option.bind_some, i42, Option.bind_some, i47, Option.bind_some, if_neg ne_10]
    simp only [Option.bind_some]
    rcases hop with (q | q) | (q | q) <;> rw [q] at g ⊢ <;> exact g
  · have no : ∀ q, (q = 42 ∨ q = 47 ∨ q = 43 ∨ q = 45) → ¬ KK n b k = q := fun q hq z => hop (by rcases hq with y | y | y | y <;> subst y <;> rw [z] <;> decide)
    unfold F_X12_expression_145
    rw [i43, Option.bind_some, if_neg (no 43 (by simp)), if_pos rfl, i45, Option.bind_some, if_neg (no 45 (by simp)), if_pos rfl, i42, Option.bind_some, if_neg (no 42 (by simp)), if_pos rfl, i47, Option.bind_some, if_neg (no 47 (by simp)), if_pos rfl]
    unfold F_X12_expression_186
    rw [if_pos rfl, h2.1]
    by_cases hd : d = 0
    · subst hd
      obtain ⟨s1, g1, g2, g3, g4, g5⟩ := comes_eq (st := false) h1.1 h2 l2 (by omega) b2 hB2
      rw [if_pos (show nI 0 ≤ 0 by decide)]
      unfold F_X12_expression_204
      rw [show F_X12_comesOut 0 0 s = some s1 from g1, Option.bind_some]
      obtain ⟨P, W', x1, x2, x3, x4⟩ := pop_F h3
      have x3 : W' = [] := x3
      subst x3
      rw [x2] at g2
      refine ⟨_, rfl, Or.inr (Or.inr ⟨k, _, s1, rfl, Nat.le_refl _, LvM_ok h1 g3 g4 g5, g2, ?_, ?_⟩)⟩
      · rw [List.length_append, List.length_map]
        have : P.length + 0 = W.length := x4
        omega
      · rw [h6, Rm_A hk, if_neg n41, if_neg hop, if_neg (by omega), x2]
    · obtain ⟨s1, g1, g2, g3⟩ := mfailA (f := 1) h1 (Or.inl rfl)
      rw [if_neg (show ¬ nI d ≤ 0 from nI_ge (b := d) (a := 0) (by omega) (by omega)), show F_X12_fail 0 (1 : Int32) s = F_X12_fail 0 (nI 1) s from rfl, g1, Option.bind_some]
      have De : DeM n b c0 B s0 r s1 := ⟨1, k, d, W, C, g2, ExR_N h2 g3, l2, by omega, b2, by rw [h6, Rm_A hk, if_neg n41, if_neg hop, if_pos (by omega)]⟩
      obtain ⟨s2, p1, p2⟩ := comesDe hB2 De
      unfold F_X12_expression_204
      rw [p1, Option.bind_some]
      exact ⟨_, rfl, Or.inr (Or.inl ⟨s2, Or.inr rfl, p2⟩)⟩
/-- behind a unit -/
theorem loopA {k d : Nat} {W : List Nat} {C : Ops} {s : hSt} (hB : B = c0 + (401 - k0)) (hB2 : B ≤ 840) (h : StM n b c0 B k0 s0 r false k d W C s) : ∃ o, F_X12_expression_96 0 0 s = some o ∧ PoA n b c0 B k0 s0 r k o := by
  unfold F_X12_expression_96
  refine lp_go 401 (by rw [fuel_v]; decide) (fun i s' => (∃ k' d' W' C', k + i ≤ k' ∧ StM n b c0 B k0 s0 r false k' d' W' C' s') ∨ DeM n b c0 B s0 r s') _ (Or.inl ⟨k, d, W, C, Nat.le_refl _, h⟩) (fun i s' hi hs => ?_)
  rcases hs with ⟨k', d', W', C', hk', hs⟩ | hs
  · have hs' := hs
    obtain ⟨h1, h2, h3, h4, h5, h6⟩ := hs
    have hk := h1.2.2.2.2.1
    obtain ⟨l1, l2⟩ := shU_len h3
    have b1 : W'.length ≤ 20 := by omega
    have b2 : c0 + C'.length + W'.length ≤ B := by omega
    have i41 : F_X12_is 0 (7 : Int32) s' = some (if KK n b k' = 41 then 1 else 0) := isA (w := 41) h1 (by decide)
    have out : ¬ (KK n b k' = 41 ∧ 0 < d') → ∃ x, (F_X12_expression_145 0 0 s').map (fun x => (.inr x : hSt ⊕ ((Int32 × hSt) ⊕ hSt))) = some (.inr x) ∧ PoA n b c0 B k0 s0 r k x := fun q => by
      obtain ⟨o, g1, g2⟩ := opsM hB hB2 hs' q
      refine ⟨o, by rw [g1]; rfl, ?_⟩
      rcases g2 with ⟨a1, a2, a3, a4, a5, a6, a7, a8⟩ | g2 | ⟨a1, a2, a3, a4, a5, a6⟩
      · exact Or.inl ⟨a1, a2, a3, a4, a5, a6, by omega, a8⟩
      · exact Or.inr (Or.inl g2)
      · exact Or.inr (Or.inr ⟨a1, a2, a3, a4, by omega, a6⟩)
    unfold S_X12_expression_96 F_X12_expression_96b
    rw [i41, Option.bind_some, h2.1]
    by_cases q : KK n b k' = 41
    · rw [if_pos q, if_neg ne_10]
      by_cases hd : d' = 0
      · right
        rw [if_pos (show nI d' ≤ 0 by rw [hd]; decide)]
        exact out (fun z => by omega)
      · left
        obtain ⟨dd, ed⟩ : ∃ dd, d' = dd + 1 := ⟨d' - 1, by omega⟩
        subst ed
        obtain ⟨s1, g1, g2, g3, g4, g5⟩ := comes_eq (st := false) h1.1 h2 l2 (by omega) b2 hB2
        have L1 : LvM n b k' s1 := LvM_ok h1 g3 g4 g5
        obtain ⟨P, Wf, x1, x2, x3, x4⟩ := pop_F h3
        obtain ⟨P2, W2, y1, y2, y3⟩ := x3
        subst y1
        have sh2 : shU dd (P2 ++ W2) := ⟨P2, W2, rfl, y2, y3⟩
        rw [x2] at g2
        obtain ⟨z1, z2, z3, z4, z5, z6⟩ := g2
        have hl : (40 :: (P2 ++ W2)).length = (P2 ++ W2).length + 1 := List.length_cons
        rw [if_neg (show ¬ nI (dd + 1) ≤ 0 from nI_ge (a := 0) (by omega) (by omega)), show F_X12_comesOut 0 0 s' = some s1 from g1, Option.bind_some]
        unfold cL
        dsimp only
        rw [z2, hl, nI_pred, uI_ne _ _ (show ¬ (0 = 0 ∧ 12 = 48) by decide), z1, nI_pred]
        have R2 : ExR c0 B dd (P2 ++ W2) (C' ++ P.map em) s0 (uI (uI s1 0 48 (nI (P2 ++ W2).length)) 0 12 (nI dd)) := by
          refine ⟨?_, ?_, z3.2, ?_, z5, frP_trans z6 ⟨rfl, fun j _ a _ _ _ e => ?_, fun k a _ _ _ => ?_, fun _ _ => ⟨rfl, rfl⟩⟩⟩
          · rw [uI_I, if_pos ⟨rfl, rfl⟩]
          · rw [uI_ne _ _ (by omega), uI_I, if_pos ⟨rfl, rfl⟩]
          · rw [uI_ne _ _ (by omega), uI_ne _ _ (by omega)]; exact z4
          · rw [uI_ne _ _ (by omega), uI_ne _ _ (by omega)]
          · rw [uI_row _ _ a, uI_row _ _ a]
        have L2 : LvM n b k' (uI (uI s1 0 48 (nI (P2 ++ W2).length)) 0 12 (nI dd)) := LvM_fr L1 rfl (by rw [uI_ne _ _ (by omega), uI_ne _ _ (by omega)]) (by rw [uI_ne _ _ (by omega), uI_ne _ _ (by omega)]) (fun c x y => by rw [uI_row _ _ (by omega), uI_row _ _ (by omega)])
        obtain ⟨s2, q1, q2, q3⟩ := goA L2 (by rw [q]; decide)
        rw [q1, Option.bind_some]
        rw [hl] at x4
        have rm : r = if k' = 400 then .inr (2, k') else Rm (KK n b) (VV n b) false (k' + 1) dd (P2 ++ W2) (C' ++ P.map em) := by
          rw [h6, Rm_A hk, if_pos ⟨q, by omega⟩, x2]
          rfl
        refine ⟨s2, by omega, rfl, ?_⟩
        rcases q3 with ⟨y1, y2⟩ | ⟨y1, y2⟩
        · refine Or.inl ⟨k' + 1, dd, _, _, by omega, y2, ExR_N R2 q2, sh2, by omega, ?_, ?_⟩
          · rw [List.length_append (as := C'), List.length_map]; omega
          · rw [rm, if_neg (by omega)]
        · refine Or.inr ⟨2, k', dd, _, _, y2, ExR_N R2 q2, (shU_len sh2).2, by omega, ?_, ?_⟩
          · rw [List.length_append (as := C'), List.length_map]; omega
          · rw [rm, if_pos y1]
    · right
      rw [if_neg q, if_pos rfl]
      exact out (fun z => q z.1)
  · right
    obtain ⟨s2, g1, g2⟩ := roundDe hB2 hs
    exact ⟨_, g1, Or.inr (Or.inl ⟨s2, Or.inr rfl, g2⟩)⟩
theorem open_M {k d : Nat} {W : List Nat} {C : Ops} {s : hSt} (hQ : HM s.2.2) (h : ExR c0 B d W C s0 s) (hl : W.length < 64) : ExR c0 B (d + 1) W C s0 (uI s 0 12 (nI (d + 1))) := by
  obtain ⟨h1, h2, h3, h4, h5, h6⟩ := h
  refine ⟨?_, ?_, ?_, ?_, h5, frP_trans h6 ⟨rfl, fun j _ a _ _ _ _ => uI_ne _ _ (by omega), fun k a _ _ _ => uI_row _ _ a, fun _ _ => ⟨rfl, rfl⟩⟩⟩
  · rw [uI_I, if_pos ⟨rfl, rfl⟩]
  · rw [uI_ne _ _ (by omega)]; exact h2
  · rw [uI_row _ _ (by decide)]; exact h3
  · rw [uI_ne _ _ (by omega)]; exact h4
/-- before a unit -/
theorem loopU {k d : Nat} {W : List Nat} {C : Ops} {s : hSt} (hB : B = c0 + (401 - k0)) (hB2 : B ≤ 840) (h : StM n b c0 B k0 s0 r true k d W C s) : ∃ o, F_X12_expression_23 0 0 s = some o ∧ PoA n b c0 B k0 s0 r (k + 1) o := by
  unfold F_X12_expression_23
  refine lp_go 401 (by rw [fuel_v]; decide) (fun i s' => (∃ k' d' W' C', k + i ≤ k' ∧ StM n b c0 B k0 s0 r true k' d' W' C' s') ∨ DeM n b c0 B s0 r s') _ (Or.inl ⟨k, d, W, C, Nat.le_refl _, h⟩) (fun i s' hi hs => ?_)
  rcases hs with ⟨k', d', W', C', hk', hs⟩ | hs
  · have hs' := hs
    obtain ⟨h1, h2, h3, h4, h5, h6⟩ := hs
    have hk := h1.2.2.2.2.1
    obtain ⟨l1, l2⟩ := shU_len h3
    have b1 : W'.length ≤ 20 := by omega
    have b2 : c0 + C'.length + W'.length ≤ B := by omega
    have b3 : c0 + C'.length + (W'.length + 1) ≤ B := by omega
    have i40 : F_X12_is 0 (6 : Int32) s' = some (if KK n b k' = 40 then 1 else 0) := isA (w := 40) h1 (by decide)
    unfold S_X12_expression_23 F_X12_expression_23b
    rw [i40, Option.bind_some]
    by_cases q : KK n b k' = 40
    · left
      rw [if_pos q, if_neg ne_10, h2.1]
      by_cases hd : d' = 6
      · obtain ⟨s1, g1, g2, g3⟩ := mfailA (f := 2) h1 (Or.inr rfl)
        rw [if_pos (show nI d' = (6 : Int32) from congrArg nI hd), show F_X12_fail 0 (2 : Int32) s' = F_X12_fail 0 (nI 2) s' from rfl, g1, Option.bind_some]
        have R1 := ExR_N h2 g3
        have R2 := open_M (k := k') g2.1 R1 (by omega)
        have D2 : DdM n b 2 k' (uI s1 0 12 (nI (d' + 1))) := DdM_fr g2 rfl (uI_ne _ _ (by omega)) (uI_ne _ _ (by omega)) (uI_ne _ _ (by omega))
        obtain ⟨s2, q1, q2, q3⟩ := goD D2
        have R3 := ExR_N R2 q2
        have R4 := push_M (w := 40) q3.1 R3 (by omega)
        have D4 : DdM n b 2 k' (uI (uI s2 32 W'.length (nI (mkK 40))) 0 48 (nI (W'.length + 1))) := DdM_fr q3 rfl (by rw [uI_ne _ _ (by omega), uI_row _ _ (by decide)]) (by rw [uI_ne _ _ (by omega), uI_row _ _ (by decide)]) (by rw [uI_ne _ _ (by omega), uI_row _ _ (by decide)])
        unfold F_X12_expression_46 cL
        dsimp only
        rw [R1.1, nI_1, q1, Option.bind_some, rM_47 q3.1, R3.2.1, cG_t (inb_nI (by rw [kM_32]; omega) (by decide)), cl_nI (by omega), uI_row _ _ (show (0 : Nat) ≠ 32 by decide), R3.2.1, nI_1]
        refine ⟨_, by omega, rfl, Or.inr ⟨2, k', d' + 1, _, C', D4, R4, fun w hw => ?_, by rw [List.length_cons]; omega, by rw [List.length_cons]; exact b3, by rw [h6, Rm_U hk, if_pos q, if_pos (Or.inl hd)]⟩⟩
        rcases List.mem_cons.mp hw with z | z
        · exact Or.inl z
        · exact l2 w z
      · have R2 := open_M (k := k') h1.1 h2 (by omega)
        have L2 : LvM n b k' (uI s' 0 12 (nI (d' + 1))) := LvM_fr h1 rfl (uI_ne _ _ (by omega)) (uI_ne _ _ (by omega)) (fun c x y => uI_row _ _ (by omega))
        obtain ⟨s2, q1, q2, q3⟩ := goA L2 (by rw [q]; decide)
        have R3 := ExR_N R2 q2
        have hQ2 : HM s2.2.2 := by rw [q2.1]; exact h1.1
        have R4 := push_M (w := 40) hQ2 R3 (by omega)
        rw [if_neg (show ¬ nI d' = (6 : Int32) from fun z => hd ((nI_eq (b := 6) (by omega) (by decide)).mp z))]
        unfold F_X12_expression_46 cL
        dsimp only
        rw [h2.1, nI_1, q1, Option.bind_some, rM_47 hQ2, R3.2.1, cG_t (inb_nI (by rw [kM_32]; omega) (by decide)), cl_nI (by omega), uI_row _ _ (show (0 : Nat) ≠ 32 by decide), R3.2.1, nI_1]
        have rm : r = if k' = 400 then .inr (2, k') else Rm (KK n b) (VV n b) true (k' + 1) (d' + 1) (40 :: W') C' := by
          rw [h6, Rm_U hk, if_pos q]
          by_cases z : k' = 400
          · rw [if_pos (Or.inr z), if_pos z]
          · rw [if_neg (fun y => y.elim hd z), if_neg z]
        obtain ⟨P, Wf, w1, w2, w3⟩ := h3
        refine ⟨_, by omega, rfl, ?_⟩
        rcases q3 with ⟨y1, y2⟩ | ⟨y1, y2⟩
        · refine Or.inl ⟨k' + 1, d' + 1, _, _, by omega, LvM_fr y2 rfl (by rw [uI_ne _ _ (by omega), uI_row _ _ (by decide)]) (by rw [uI_ne _ _ (by omega), uI_row _ _ (by decide)]) (fun c x y => by rw [uI_row _ _ (by omega), uI_row _ _ (by omega)]), R4, ⟨[], 40 :: W', rfl, Or.inl rfl, P, Wf, by rw [w1], w2, w3⟩, by omega, by rw [List.length_cons]; omega, by rw [rm, if_neg (by omega)]⟩
        · refine Or.inr ⟨2, k', d' + 1, _, C', DdM_fr y2 rfl (by rw [uI_ne _ _ (by omega), uI_row _ _ (by decide)]) (by rw [uI_ne _ _ (by omega), uI_row _ _ (by decide)]) (by rw [uI_ne _ _ (by omega), uI_row _ _ (by decide)]), R4, fun w hw => ?_, by rw [List.length_cons]; omega, by rw [List.length_cons]; exact b3, by rw [rm, if_pos y1]⟩
          rcases List.mem_cons.mp hw with z | z
          · exact Or.inl z
          · exact l2 w z
    · right
      rw [if_neg q, if_pos rfl]
      obtain ⟨s1, g1, g2⟩ := unitM_eq hB hB2 hs' q
      rw [g1, Option.bind_some]
      rcases g2 with ⟨C1, y1, y2⟩ | y
      · rw [y2.1.2.2.2.2.2, if_pos (show (0 : Int32) ≤ 0 by decide)]
        obtain ⟨o, p1, p2⟩ := loopA hB hB2 y2
        rw [p1]
        refine ⟨o, rfl, ?_⟩
        rcases p2 with ⟨a1, a2, a3, a4, a5, a6, a7, a8⟩ | p2 | ⟨a1, a2, a3, a4, a5, a6⟩
        · exact Or.inl ⟨a1, a2, a3, a4, a5, a6, by omega, a8⟩
        · exact Or.inr (Or.inl p2)
        · exact Or.inr (Or.inr ⟨a1, a2, a3, a4, by omega, a6⟩)
      · have y' := y
        obtain ⟨f, j, d1, W1, C1, z1, -⟩ := y
        rw [if_neg (DdM_pos z1).2.1]
        exact ⟨_, rfl, Or.inr (Or.inl ⟨s1, Or.inr rfl, y'⟩)⟩
  · right
    have hs' := hs
    obtain ⟨f, j, d1, W1, C1, z1, -⟩ := hs
    unfold S_X12_expression_23 F_X12_expression_23b
    rw [isD z1, Option.bind_some, if_pos rfl, unitM_D z1, Option.bind_some, if_neg (DdM_pos z1).2.1]
    exact ⟨_, rfl, Or.inr (Or.inl ⟨s', Or.inr rfl, hs'⟩)⟩
end EL
/-- a whole term -/
theorem expr_eq {n k0 c0 : Nat} {b : Nat → Nat} {s : hSt} (h : LvM n b k0 s) (hop : s.1 0 12 = 0) (hc : s.1 0 44 = nI c0) (hB2 : c0 + (401 - k0) ≤ 840) :
    ∃ s', F_X12_expression 0 s = some s' ∧ frP c0 (c0 + (401 - k0)) s s' ∧
      ((∃ k' os, k0 < k' ∧ LvM n b k' s' ∧ s'.1 0 12 = 0 ∧ s'.1 0 44 = nI (c0 + os.length) ∧ mOps (s'.1 30) (s'.1 31) c0 os ∧ os.length + k0 ≤ k' ∧ Rm (KK n b) (VV n b) true k0 0 [] [] = .inl (k', os)) ∨
       (∃ f j, DdM n b f j s' ∧ (∃ q, s'.1 0 44 = nI q ∧ c0 ≤ q ∧ q ≤ c0 + (401 - k0)) ∧ Rm (KK n b) (VV n b) true k0 0 [] [] = .inr (f, j))) := by
  have L0 : LvM n b k0 (uI s 0 48 0) := LvM_fr h rfl (uI_ne _ _ (by omega)) (uI_ne _ _ (by omega)) (fun c x y => uI_row _ _ (by omega))
  have R0 : ExR c0 (c0 + (401 - k0)) 0 [] [] s (uI s 0 48 0) := by
    refine ⟨?_, ?_, trivial, ?_, trivial, rfl, fun j _ _ _ _ _ a => uI_ne _ _ (by omega), fun k a _ _ _ => uI_row _ _ a, fun _ _ => ⟨rfl, rfl⟩⟩
    · rw [uI_ne _ _ (by omega)]; exact hop
    · rw [uI_I, if_pos ⟨rfl, rfl⟩]; rfl
    · rw [uI_ne _ _ (by omega)]; exact hc
  have S0 : StM n b c0 (c0 + (401 - k0)) k0 s (Rm (KK n b) (VV n b) true k0 0 [] []) true k0 0 [] [] (uI s 0 48 0) := ⟨L0, R0, ⟨[], [], rfl, Or.inl rfl, rfl⟩, by decide, by simp, rfl⟩
  unfold F_X12_expression F_X12_expression_12 cL
  dsimp only
  rw [R0.1]
  have e272 : ∀ z, F_X12_expression_272 z = some z := fun _ => rfl
  obtain ⟨s', g1, g2⟩ := lp_go (s := S_X12_expression_12 0 0) (v := (1, uI s 0 48 0)) 401 (by rw [fuel_v]; decide)
    (fun i w => ∃ s1, w = (1, s1) ∧ ((∃ k' d' W' C', k0 + i ≤ k' ∧ StM n b c0 (c0 + (401 - k0)) k0 s (Rm (KK n b) (VV n b) true k0 0 [] []) true k' d' W' C' s1) ∨ DeM n b c0 (c0 + (401 - k0)) s (Rm (KK n b) (VV n b) true k0 0 [] []) s1))
    (fun s' => (∃ k' os, k0 < k' ∧ LvM n b k' s' ∧ ExR c0 (c0 + (401 - k0)) 0 [] os s s' ∧ os.length + k0 ≤ k' ∧ Rm (KK n b) (VV n b) true k0 0 [] [] = .inl (k', os)) ∨ DeM n b c0 (c0 + (401 - k0)) s (Rm (KK n b) (VV n b) true k0 0 [] []) s')
    ⟨_, rfl, Or.inl ⟨k0, 0, [], [], Nat.le_refl _, S0⟩⟩ (fun i w hi hw => by
      obtain ⟨s1, a1, a2⟩ := hw
      subst a1
      unfold S_X12_expression_12 F_X12_expression_12b
      dsimp only
      rw [if_neg ne_10]
      rcases a2 with ⟨k', d', W', C', hk', hs⟩ | hs
      · have hk := hs.1.2.2.2.2.1
        rw [hs.1.2.2.2.2.2, if_pos rfl]
        obtain ⟨o, p1, p2⟩ := loopU rfl hB2 hs
        rw [p1]
        rcases p2 with ⟨x1, x2, x3, x4, x5, x6, x7, x8⟩ | ⟨x5, x6 | x6, x7⟩ | ⟨x1, x2, x3, x4, x5, x6, x7, x8, x9⟩
        · subst x6
          exact Or.inl ⟨_, by omega, rfl, x5, rfl, Or.inl ⟨x1, x2, x3, x4, by omega, x8⟩⟩
        · subst x6
          exact Or.inl ⟨_, by omega, rfl, x5, rfl, Or.inr x7⟩
        · subst x6
          exact Or.inr ⟨_, rfl, Or.inr x7⟩
        · subst x4
          exact Or.inr ⟨_, rfl, Or.inl ⟨x1, x2, by omega, x6, x7, x8, x9⟩⟩
      · have hs' := hs
        obtain ⟨f, j, d1, W1, C1, z1, -⟩ := hs
        rw [if_neg (DdM_pos z1).1, e272]
        exact Or.inr ⟨_, rfl, Or.inr hs'⟩)
  refine ⟨s', g1, ?_⟩
  rcases g2 with ⟨k', os, x1, x2, x3, x4, x5⟩ | ⟨f, j, d, W, C, x1, x2, x3, x4, x5, x6⟩
  · exact ⟨x3.2.2.2.2.2, Or.inl ⟨k', os, x1, x2, x3.1, x3.2.2.2.1, x3.2.2.2.2.1, x4, x5⟩⟩
  · exact ⟨x2.2.2.2.2.2, Or.inr ⟨f, j, x1, ⟨_, x2.2.2.2.1, by omega, by omega⟩, x6⟩⟩
