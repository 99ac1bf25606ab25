/-! ===== PURE 81: all the tells of a text, in both ===== -/
theorem lp_map {V X : Type} {s : V → Option (V ⊕ X)} {n : Nat} {v : V} {x : Option X} (h : s v = x.map (fun y => .inr y)) : lp s (n + 1) v = x := by
  cases x with
  | none =>
    have h : s v = none := h
    simp [lp, h]
  | some y => exact lp_inr h
theorem readLoop {n t s : Nat} {b : Nat → Nat} (hn : n ≤ 2000) (hb : ∀ i, b i < 256) :
    ∀ (d k i : Nat), k + d = 400 → i ≤ k → ∀ σ τ, PR n b t s k σ τ → ∃ σ1 τ1, (∀ N, d + 2 ≤ N → lp (S_X4_parse_44 37) N (nI i, σ) = F_X4_parse_75 37 σ1) ∧ (∀ N, d + 2 ≤ N → lp (S_X12_read_190 0) N τ = F_X12_read_212 0 τ1) ∧ frPC t σ σ1 ∧ frPM s τ τ1 ∧ ((∃ k', PR n b t s k' σ1 τ1) ∨ DdR n b t σ1 τ1)
  | d, k, i, hd, hi, σ, τ, h => by
    have h' := h
    obtain ⟨w, wp, D, F, r, hT, hW⟩ := h'
    have hk := r.1.2.2.2.2.2.1
    have h13 := r.2.1.2.2.2.2.2
    have ise := isA r.2.1 (w := 0) (by decide)
    have i401 : ¬ (401 : Int32) ≤ nI i := nI_ge (b := 401) (by omega) (by decide)
    by_cases q : KK n b k = 0
    · rw [if_pos q] at ise
      refine ⟨σ, τ, fun N hN => ?_, fun N hN => ?_, frPC_rfl, frPM_rfl, Or.inl ⟨k, h⟩⟩
      · obtain ⟨N, rfl⟩ : ∃ N', N = N' + 1 := ⟨N - 1, by omega⟩
        refine lp_map ?_
        unfold S_X4_parse_44 F_X4_parse_44b
        dsimp only
        rw [if_neg i401, r.1.2.2.2.2.2.2, if_pos rfl, kindA r.1, q, Option.bind_some, if_pos (show nI 0 = (0 : Int32) from rfl)]
      · obtain ⟨N, rfl⟩ : ∃ N', N = N' + 1 := ⟨N - 1, by omega⟩
        refine lp_map ?_
        unfold S_X12_read_190 F_X12_read_190b
        rw [h13, if_pos rfl, show F_X12_is 0 (0 : Int32) τ = F_X12_is 0 (nI (mkK 0)) τ from rfl, ise, Option.bind_some, if_neg (by decide)]
    · rw [if_neg q] at ise
      obtain ⟨σ', τ', o1, o2, o3, o4, o5⟩ := anyTell_eq hn hb h
      have s1 : S_X4_parse_44 37 (nI i, σ) = some (.inl (nI (i + 1), σ')) := by
        unfold S_X4_parse_44 F_X4_parse_44b cL
        dsimp only
        rw [if_neg i401, r.1.2.2.2.2.2.2, if_pos rfl, kindA r.1, Option.bind_some, if_neg (show ¬ nI (KK n b k) = (0 : Int32) from fun z => q ((nI_eq (b := 0) (by have := KK_lt (n := n) hb k; omega) (by decide)).mp z)), o1, Option.bind_some, nI_1]
      have s2 : S_X12_read_190 0 τ = some (.inl τ') := by
        unfold S_X12_read_190 F_X12_read_190b
        rw [h13, if_pos rfl, show F_X12_is 0 (0 : Int32) τ = F_X12_is 0 (nI (mkK 0)) τ from rfl, ise, Option.bind_some, if_pos rfl, o2, Option.bind_some]
      rcases o5 with ⟨k', hk', pr⟩ | ⟨f, j, d1, d2⟩
      · have hk'4 : k' ≤ 400 := by
          obtain ⟨w', wp', D', F', r', -⟩ := pr
          exact r'.1.2.2.2.2.2.1
        obtain ⟨σ2, τ2, u1, u2, u3, u4, u5⟩ := readLoop hn hb (400 - k') k' (i + 1) (by omega) (by omega) σ' τ' pr
        refine ⟨σ2, τ2, fun N hN => ?_, fun N hN => ?_, frPC_trans o3 u3, frPM_trans o4 u4, u5⟩
        · obtain ⟨N, rfl⟩ : ∃ N', N = N' + 1 := ⟨N - 1, by omega⟩
          rw [lp_inl s1]
          exact u1 N (by omega)
        · obtain ⟨N, rfl⟩ : ∃ N', N = N' + 1 := ⟨N - 1, by omega⟩
          rw [lp_inl s2]
          exact u2 N (by omega)
      · refine ⟨σ', τ', fun N hN => ?_, fun N hN => ?_, o3, o4, Or.inr ⟨f, j, d1, d2⟩⟩
        · obtain ⟨N, rfl⟩ : ∃ N', N = N' + 2 := ⟨N - 2, by omega⟩
          rw [lp_inl s1]
          refine lp_map ?_
          unfold S_X4_parse_44 F_X4_parse_44b
          dsimp only
          rw [if_neg (show ¬ σ'.1 37 5 = 0 by rw [d1.2.2.2.2.1.1]; rcases d1.2.2.2.2.1.2 with e | e <;> subst e <;> decide), ite_self]
        · obtain ⟨N, rfl⟩ : ∃ N', N = N' + 2 := ⟨N - 2, by omega⟩
          rw [lp_inl s2]
          refine lp_map ?_
          unfold S_X12_read_190 F_X12_read_190b
          rw [if_neg (DdM_pos d2).1]
  termination_by d => d
/-- the end of the class's parsing -/
theorem p75_alive {n t k w wp : Nat} {b : Nat → Nat} {σ τ : hSt} (r : RdR n b t k w wp σ τ) : ∃ σ', F_X4_parse_75 37 σ = some σ' ∧ σ'.2 = σ.2 ∧ (∀ c, c ≠ 37 → σ'.1 c = σ.1 c) ∧ σ'.1 37 5 = nI w ∧ (w = 0 → σ'.1 37 6 = -1) ∧ (w ≠ 0 → σ'.1 37 6 = nI wp) := by
  have f105 : ∀ z, F_X4_parse_105 z = some z := fun _ => rfl
  obtain ⟨⟨h1, h2, h3, h4, h5, h6, h7⟩, a2, a3, a4, a5, a6⟩ := r
  unfold F_X4_parse_75 cL
  dsimp only
  rw [h7, if_pos rfl, a3]
  by_cases q : w = 0
  · subst q
    rw [if_pos (show nI 0 = (0 : Int32) from rfl), f105]
    exact ⟨σ, rfl, rfl, fun _ _ => rfl, h7, fun _ => h4.2, fun z => absurd rfl z⟩
  · rw [if_neg (show ¬ nI w = (0 : Int32) from fun z => q ((nI_eq (b := 0) (by omega) (by decide)).mp z)), f105]
    refine ⟨_, rfl, rfl, fun c a => by rw [uI_row _ _ a, uI_row _ _ a], ?_, fun z => absurd z q, fun _ => ?_⟩
    · rw [uI_ne _ _ (by omega), uI_I, if_pos ⟨rfl, rfl⟩]
    · rw [uI_I, if_pos ⟨rfl, rfl⟩, uI_ne _ _ (by omega)]
      exact (a6 q).1
theorem p75_dead {n t f j : Nat} {b : Nat → Nat} {σ : hSt} (h : DdC n b t f j σ) : F_X4_parse_75 37 σ = some σ := by
  unfold F_X4_parse_75
  rw [h.2.2.2.2.1.1, if_neg (show ¬ nI f = 0 by rcases h.2.2.2.2.1.2 with e | e <;> subst e <;> decide)]
  rfl
/-- a byte is a byte -/
theorem byte_255 (x : Int32) : (vp_nar .byte x) &&& 255 = x &&& 255 := by
  rw [vp_nar_byte]
  apply bt_ext
  intro i hi
  rw [bt_and, bt_and]
  by_cases h : i < 8
  · have : bt x.toInt8.toInt32 i = bt x i := by
      unfold bt
      rw [Int8.toBitVec_toInt32, Int32.toBitVec_toInt8, BitVec.getLsbD_signExtend, decide_eq_true hi, Bool.true_and, if_pos h, BitVec.getLsbD_signExtend, decide_eq_true h, Bool.true_and, if_pos hi]
    rw [this]
  · have e : ∀ j, j < 32 → ¬ j < 8 → bt 255 j = false := by decide +kernel
    rw [e i hi h, Bool.and_false, Bool.and_false]
