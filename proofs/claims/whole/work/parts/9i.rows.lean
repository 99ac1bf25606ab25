/-! ===== PURE 73: wind and fog are told, in both ===== -/
def frR (a : Nat) (s s' : hSt) : Prop := s'.2 = s.2 ∧ (∀ c, c ≠ 37 → c ≠ a → c ≠ a + 1 → s'.1 c = s.1 c)
def frRM (kk : Nat) (s s' : hSt) : Prop := s'.2 = s.2 ∧ (∀ j, j ≠ 11 → j ≠ 13 → j ≠ 14 → j ≠ 15 → j ≠ 16 → s'.1 0 j = s.1 0 j) ∧ (∀ c, c ≠ 0 → c ≠ 17 → s'.1 c = s.1 c) ∧ ∀ j, ¬ (12 * kk ≤ j ∧ j < 12 * kk + 12) → s'.1 17 j = s.1 17 j
theorem frR_trans {a : Nat} {s s' s'' : hSt} (h : frR a s s') (h' : frR a s' s'') : frR a s s'' := ⟨h'.1.trans h.1, fun c p q r => (h'.2 c p q r).trans (h.2 c p q r)⟩
theorem frRM_trans {k : Nat} {s s' s'' : hSt} (h : frRM k s s') (h' : frRM k s' s'') : frRM k s s'' := ⟨h'.1.trans h.1, fun j a c d e f => (h'.2.1 j a c d e f).trans (h.2.1 j a c d e f), fun c p q => (h'.2.2.1 c p q).trans (h.2.2.1 c p q), fun j p => (h'.2.2.2 j p).trans (h.2.2.2 j p)⟩
theorem frR_K {a : Nat} {s s' : hSt} (h : frKC s s') : frR a s s' := ⟨h.1, fun c p _ _ => h.2 c p⟩
theorem frRM_K {k : Nat} {s s' : hSt} (h : frKM s s') : frRM k s s' := ⟨h.1, h.2.1, fun c p _ => h.2.2 c p, fun j _ => by rw [h.2.2 17 (by decide)]⟩
theorem frR_rfl {a : Nat} {s : hSt} : frR a s s := ⟨rfl, fun _ _ _ _ => rfl⟩
theorem frRM_rfl {k : Nat} {s : hSt} : frRM k s s := ⟨rfl, fun _ _ _ _ _ _ => rfl, fun _ _ _ => rfl, fun _ _ => rfl⟩
theorem frR_I {a c j : Nat} {v : Int32} {s : hSt} (h : c = a ∨ c = a + 1) : frR a s (uI s c j v) := ⟨rfl, fun c' _ q r => uI_row _ _ (by omega)⟩
theorem frRM_I {k j : Nat} {v : Int32} {s : hSt} (h : 12 * k ≤ j ∧ j < 12 * k + 12) : frRM k s (uI s 17 j v) := ⟨rfl, fun j' _ _ _ _ _ => uI_ne _ _ (by omega), fun c p q => uI_row _ _ q, fun j' q => uI_ne _ _ (fun e => q (by rw [e.2]; exact h))⟩
theorem row60 {k : Nat} {v l : Int32} {z z' : hSt} (hk : k < 4) (hQ : HM z'.2.2) (h : F_X12_must 0 (4 : Int32) z = some z') : F_X12_tellWeather_60 0 (nI k) l z = some (uI z' 16 k l) := by
  unfold F_X12_tellWeather_60 cL
  rw [h, Option.bind_some]
  dsimp only
  rw [rM_29 hQ, cG_t (inb_nI (by rw [kM_16]; omega) (by decide)), cl_nI (by omega)]
/-- the two loops, from the i-th number on -/
theorem rowLoop {n t a kk : Nat} {b : Nat → Nat} (hn : n ≤ 2000) (hb : ∀ i, b i < 256) (ha : (a = t + 7 ∨ a = t + 9) ∧ okr kC NC 5 a = true) (hkk : kk < 4) :
    ∀ (m i : Nat), i + m = 12 → ∀ (σ τ : hSt) (k w wp : Nat) (W : Nat → Nat), RdR n b t k w wp σ τ → σ.1 a 1 = nI i → (∀ j, j < i → σ.1 (a + 1) j = nI (W j) ∧ τ.1 17 (12 * kk + j) = nI (W j)) →
      ∃ σ1 τ', (∀ N, m + 3 ≤ N → lp (S_X4_parseRow_13 37 a) N (nI i, σ) = some σ1) ∧ (∀ N, m + 3 ≤ N → lp (S_X12_tellWeather_2 0 (nI kk)) N (nI i, τ) = some τ') ∧ frR a σ σ1 ∧
        ((∃ (τ1 : hSt) (k' w' wp' i' : Nat) (W' : Nat → Nat), i' ≤ 12 ∧ k ≤ k' ∧ (w' = 0 → w = 0) ∧ F_X12_tellWeather_60 0 (nI kk) (nI i') τ1 = some τ' ∧ RdR n b t k' w' wp' σ1 τ1 ∧ frRM kk τ τ1 ∧ σ1.1 a 1 = nI i' ∧ (∀ j, j < i' → σ1.1 (a + 1) j = nI (W' j) ∧ τ1.1 17 (12 * kk + j) = nI (W' j))) ∨
         (∃ τ1, (τ' = τ1 ∨ ∃ x, τ' = uI τ1 16 kk x) ∧ frRM kk τ τ1 ∧ DdR n b t σ1 τ'))
  | 0, i, hi, σ, τ, k, w, wp, W, r, e, hW => by
    have hi : i = 12 := by omega
    subst hi
    have hk := r.1.2.2.2.2.2.1
    have h13 := r.2.1.2.2.2.2.2
    have f67 : ∀ z, F_X4_parseRow_67 z = some z := fun _ => rfl
    by_cases q : KK n b k = 3
    · obtain ⟨σ1, g1, g2, g3⟩ := failA (f := 2) r.1 (Or.inr rfl)
      obtain ⟨τ1, p1, p2, p3⟩ := mfailA (f := 2) r.2.1 (Or.inr rfl)
      refine ⟨σ1, τ1, fun N hN => ?_, fun N hN => ?_, frR_K (frKC_T g3), Or.inr ⟨τ1, Or.inl rfl, frRM_K (frKM_N p3), 2, k, g2, p2⟩⟩
      · obtain ⟨N, rfl⟩ : ∃ N', N = N' + 2 := ⟨N - 2, by omega⟩
        have s1 : S_X4_parseRow_13 37 a (nI 12, σ) = some (.inl (nI 13, σ1)) := by
          unfold S_X4_parseRow_13 F_X4_parseRow_13b
          dsimp only
          rw [if_neg (show ¬ (12 : Int32) < nI 12 by decide), kindA r.1, q, Option.bind_some, if_pos (show nI 3 = (3 : Int32) from rfl), if_pos (show nI 12 = (12 : Int32) from rfl), show F_X4_fail 37 (2 : Int32) σ = F_X4_fail 37 (nI 2) σ from rfl, g1, Option.bind_some]
          rfl
        have s2 : S_X4_parseRow_13 37 a (nI 13, σ1) = some (.inr σ1) := by
          unfold S_X4_parseRow_13 F_X4_parseRow_13b
          dsimp only
          rw [if_pos (show (12 : Int32) < nI 13 by decide)]
          rfl
        rw [lp_inl s1, lp_inr s2]
      · obtain ⟨N, rfl⟩ : ∃ N', N = N' + 1 := ⟨N - 1, by omega⟩
        refine lp_inr ?_
        unfold S_X12_tellWeather_2 F_X12_tellWeather_2b
        dsimp only
        rw [h13, if_pos rfl, show F_X12_is 0 (2 : Int32) τ = F_X12_is 0 (nI (mkK 3)) τ from rfl, isA r.2.1 (by decide), if_pos q, Option.bind_some, if_neg (by decide), if_pos (show nI 12 = (12 : Int32) from rfl), show F_X12_fail 0 (2 : Int32) τ = F_X12_fail 0 (nI 2) τ from rfl, p1, Option.bind_some]
        unfold F_X12_tellWeather_28
        rw [if_neg (DdM_pos p2).2.1]
    · obtain ⟨τ2, p1, p2, p3⟩ := mustA (w := 59) r.2.1 (by decide) (by decide)
      have hQ2 : HM τ2.2.2 := by rw [p2.1]; exact r.2.1.1
      have e60 : F_X12_tellWeather_60 0 (nI kk) (nI 12) τ = some (uI τ2 16 kk (nI 12)) := row60 (v := 0) hkk hQ2 p1
      refine ⟨σ, uI τ2 16 kk (nI 12), fun N hN => ?_, fun N hN => ?_, frR_rfl, Or.inl ⟨τ, k, w, wp, 12, W, by omega, Nat.le_refl _, id, e60, r, frRM_rfl, e, hW⟩⟩
      · obtain ⟨N, rfl⟩ : ∃ N', N = N' + 1 := ⟨N - 1, by omega⟩
        refine lp_inr ?_
        unfold S_X4_parseRow_13 F_X4_parseRow_13b
        dsimp only
        rw [if_neg (show ¬ (12 : Int32) < nI 12 by decide), kindA r.1, Option.bind_some, if_neg (show ¬ nI (KK n b k) = (3 : Int32) from fun z => q ((nI_eq (b := 3) (by have := KK_lt (n := n) hb k; omega) (by decide)).mp z))]
        rfl
      · obtain ⟨N, rfl⟩ : ∃ N', N = N' + 1 := ⟨N - 1, by omega⟩
        refine lp_inr ?_
        unfold S_X12_tellWeather_2 F_X12_tellWeather_2b
        dsimp only
        rw [h13, if_pos rfl, show F_X12_is 0 (2 : Int32) τ = F_X12_is 0 (nI (mkK 3)) τ from rfl, isA r.2.1 (by decide), if_neg q, Option.bind_some, if_pos rfl, e60]
        rfl
  | m + 1, i, hi, σ, τ, k, w, wp, W, r, e, hW => by
    have hk := r.1.2.2.2.2.2.1
    have h13 := r.2.1.2.2.2.2.2
    have f67 : ∀ z, F_X4_parseRow_67 z = some z := fun _ => rfl
    have hP := r.1.1
    have ht := r.1.2.2.1
    obtain ⟨t1, t2, t3⟩ := t_ok ht
    by_cases q : KK n b k = 3
    · obtain ⟨x, y, σ1, τ1, g1, p1, f1, q1, z⟩ := numB (lo := 0) (hi := 99) (I := fun k' w' wp' => k' = k ∧ w' = w ∧ wp' = wp) hn hb (Or.inl ⟨k, w, wp, ⟨rfl, rfl, rfl⟩, r⟩) (by decide) (by decide)
      have B2 := Bth_e (σ' := uI (uI σ1 (a + 1) i x) a 1 (nI (i + 1))) (τ' := uI τ1 17 (12 * kk + i) y) z ⟨rfl, by rw [uI_row _ _ (by omega), uI_row _ _ (by omega)], by rw [uI_row _ _ (by omega), uI_row _ _ (by omega)], by rw [uI_row _ _ (by omega), uI_row _ _ (by omega)], rfl⟩ ⟨rfl, rfl, fun j _ _ _ => uI_ne _ _ (by omega), fun c _ _ => uI_row _ _ (by omega)⟩
      have s1 : S_X4_parseRow_13 37 a (nI i, σ) = some (.inl (nI (i + 1), uI (uI σ1 (a + 1) i x) a 1 (nI (i + 1)))) := by
        unfold S_X4_parseRow_13 F_X4_parseRow_13b cL
        dsimp only
        rw [if_neg (show ¬ (12 : Int32) < nI i from nI_nlt (a := 12) (by omega) (by decide)), kindA r.1, q, Option.bind_some, if_pos (show nI 3 = (3 : Int32) from rfl), if_neg (show ¬ nI i = (12 : Int32) from fun z => by have := (nI_eq (b := 12) (by omega) (by decide)).mp z; omega), rC_5_0 hP ha.2, show F_X4_takeNumber 37 (0 : Int32) (99 : Int32) σ = F_X4_takeNumber 37 (nI 0) (nI 99) σ from rfl, cC_t g1, cG_t (inb_nI (by rw [nC_5_0 ha.2]; omega) (by rw [nC_5_0 ha.2]; decide)), cl_nI (by omega), nI_1]
        unfold F_X4_parseRow_61 cL
        rw [nI_1]
      have ex : (12 : Int32) * nI kk + nI i = nI (12 * kk + i) := by rw [show (12 : Int32) = nI 12 from rfl, pk_mul, nI_add]
      have s2 : S_X12_tellWeather_2 0 (nI kk) (nI i, τ) = some (.inl (nI (i + 1), uI τ1 17 (12 * kk + i) y)) := by
        unfold S_X12_tellWeather_2 F_X12_tellWeather_2b
        dsimp only
        rw [h13, if_pos rfl, show F_X12_is 0 (2 : Int32) τ = F_X12_is 0 (nI (mkK 3)) τ from rfl, isA r.2.1 (by decide), if_pos q, Option.bind_some, if_neg (by decide), if_neg (show ¬ nI i = (12 : Int32) from fun z => by have := (nI_eq (b := 12) (by omega) (by decide)).mp z; omega)]
        unfold F_X12_tellWeather_28 cL
        dsimp only
        rw [h13, if_pos (show (0 : Int32) ≤ 0 by decide), rM_30 r.2.1.1, show F_X12_bounded 0 (0 : Int32) (99 : Int32) τ = F_X12_bounded 0 (nI 0) (nI 99) τ from rfl, cC_t p1, ex, cG_t (inb_nI (by rw [kM_17]; omega) (by decide)), cl_nI (by omega), nI_1]
      have fR : frR a σ (uI (uI σ1 (a + 1) i x) a 1 (nI (i + 1))) := frR_trans (frR_trans (frR_K f1) (frR_I (c := a + 1) (Or.inr rfl))) (frR_I (c := a) (Or.inl rfl))
      have fM : frRM kk τ (uI τ1 17 (12 * kk + i) y) := frRM_trans (frRM_K q1) (frRM_I ⟨by omega, by omega⟩)
      rcases B2 with ⟨k2, w2, wp2, ⟨k1, w1, wp1, mm, u1, ⟨u2, u3, u4⟩, u5, u6, u7, u8⟩, r2⟩ | ⟨f, j, d1, d2⟩
      · obtain ⟨σ9, τ9, o1, o2, o3, o4⟩ := rowLoop hn hb ha hkk m (i + 1) (by omega) _ _ k2 w2 wp2 (fun j => if j = i then mm else W j) r2 (by rw [uI_I, if_pos ⟨rfl, rfl⟩]) (fun j hj => by
          by_cases z : j = i
          · rw [if_pos z, uI_row _ _ (show a + 1 ≠ a by omega), z, uI_I, if_pos ⟨rfl, rfl⟩, uI_I, if_pos ⟨rfl, rfl⟩]; exact ⟨u6, u7⟩
          · rw [if_neg z, uI_row _ _ (show a + 1 ≠ a by omega), uI_ne _ _ (fun a => z a.2), uI_ne _ _ (by omega), f1.2 (a + 1) (by omega), q1.2.2 17 (by decide)]; exact hW j (by omega))
        refine ⟨σ9, τ9, fun N hN => ?_, fun N hN => ?_, frR_trans fR o3, ?_⟩
        · obtain ⟨N, rfl⟩ : ∃ N', N = N' + 1 := ⟨N - 1, by omega⟩
          rw [lp_inl s1]
          exact o1 N (by omega)
        · obtain ⟨N, rfl⟩ : ∃ N', N = N' + 1 := ⟨N - 1, by omega⟩
          rw [lp_inl s2]
          exact o2 N (by omega)
        · rcases o4 with ⟨τ8, k', w', wp', i', W', v1, v2, v3, v4, v5, v6, v7, v8⟩ | ⟨τ8, v1, v2, v3⟩
          · exact Or.inl ⟨τ8, k', w', wp', i', W', v1, by omega, fun z => by have := (u8 (v3 z)).1; omega, v4, v5, frRM_trans fM v6, v7, v8⟩
          · exact Or.inr ⟨τ8, v1, frRM_trans fM v2, v3⟩
      · -- stopped
        have e60 : F_X12_tellWeather_60 0 (nI kk) (nI (i + 1)) (uI τ1 17 (12 * kk + i) y) = some (uI (uI τ1 17 (12 * kk + i) y) 16 kk (nI (i + 1))) := row60 (v := 0) hkk d2.1 (mustD d2)
        refine ⟨_, uI (uI τ1 17 (12 * kk + i) y) 16 kk (nI (i + 1)), fun N hN => ?_, fun N hN => ?_, fR, Or.inr ⟨_, Or.inr ⟨_, rfl⟩, fM, f, j, d1, DdM_e d2 ⟨rfl, rfl, fun j _ _ _ => uI_ne _ _ (by omega), fun c _ _ => uI_row _ _ (by omega)⟩⟩⟩
        · obtain ⟨N, rfl⟩ : ∃ N', N = N' + 2 := ⟨N - 2, by omega⟩
          rw [lp_inl s1]
          refine lp_inr ?_
          unfold S_X4_parseRow_13 F_X4_parseRow_13b
          dsimp only
          rw [if_neg (show ¬ (12 : Int32) < nI (i + 1) from nI_nlt (a := 12) (by omega) (by decide)), kindD d1, Option.bind_some, if_neg (by decide)]
          rfl
        · obtain ⟨N, rfl⟩ : ∃ N', N = N' + 2 := ⟨N - 2, by omega⟩
          rw [lp_inl s2]
          refine lp_inr ?_
          unfold S_X12_tellWeather_2 F_X12_tellWeather_2b
          dsimp only
          rw [if_neg (DdM_pos d2).1, e60]
          rfl
    · obtain ⟨τ2, p1, p2, p3⟩ := mustA (w := 59) r.2.1 (by decide) (by decide)
      have hQ2 : HM τ2.2.2 := by rw [p2.1]; exact r.2.1.1
      have e60 : F_X12_tellWeather_60 0 (nI kk) (nI i) τ = some (uI τ2 16 kk (nI i)) := row60 (v := 0) hkk hQ2 p1
      refine ⟨σ, uI τ2 16 kk (nI i), fun N hN => ?_, fun N hN => ?_, frR_rfl, Or.inl ⟨τ, k, w, wp, i, W, by omega, Nat.le_refl _, id, e60, r, frRM_rfl, e, hW⟩⟩
      · obtain ⟨N, rfl⟩ : ∃ N', N = N' + 1 := ⟨N - 1, by omega⟩
        refine lp_inr ?_
        unfold S_X4_parseRow_13 F_X4_parseRow_13b
        dsimp only
        rw [if_neg (show ¬ (12 : Int32) < nI i from nI_nlt (a := 12) (by omega) (by decide)), kindA r.1, Option.bind_some, if_neg (show ¬ nI (KK n b k) = (3 : Int32) from fun z => q ((nI_eq (b := 3) (by have := KK_lt (n := n) hb k; omega) (by decide)).mp z))]
        rfl
      · obtain ⟨N, rfl⟩ : ∃ N', N = N' + 1 := ⟨N - 1, by omega⟩
        refine lp_inr ?_
        unfold S_X12_tellWeather_2 F_X12_tellWeather_2b
        dsimp only
        rw [h13, if_pos rfl, show F_X12_is 0 (2 : Int32) τ = F_X12_is 0 (nI (mkK 3)) τ from rfl, isA r.2.1 (by decide), if_neg q, Option.bind_some, if_pos rfl, e60]
        rfl
