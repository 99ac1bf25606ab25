/-! ===== PURE 44: beginners ===== -/
theorem kfbR_hi {h m j : Nat} {r : Nat → Int32} (h6 : h < 6) (hm : m < 4) (hj : 96 ≤ j) : kfbR h m r j = r j := by
  unfold kfbR
  rw [upd_ne (by omega), upd_ne (by omega), upd_ne (by omega), upd_ne (by omega)]
theorem RH_kfbR {H h m : Nat} {r : Nat → Int32} (hr : RH H r) (hh : h < H) (hH : H ≤ 6) (hm : m < 4) : RH H (kfbR h m r) := fun x y a b c => by
  rw [kfbR_hi (j := 96 + (4 * x + y)) (by omega) hm (by omega)]
  unfold kfbR
  rw [upd_ne (by omega), upd_ne (by omega), upd_ne (by omega), upd_ne (by omega)]
  exact hr x y a b c
theorem RH_bgN {H : Nat} {Hm : Nat → Nat} {r : Nat → Int32} (hr : RH H r) (hH : H ≤ 6) : ∀ m, m ≤ 4 → (∀ k, k < m → Hm k < H) → RH H (bgN Hm r m)
  | 0, _, _ => hr
  | m + 1, hm, h => RH_kfbR (RH_bgN hr hH m (by omega) (fun k hk => h k (by omega))) (h m (by omega)) hH (by omega)
theorem bgN_72 {Hm : Nat → Nat} {r : Nat → Int32} (hr : ∀ j, j < 380 → r j = 0) : ∀ m, m ≤ 4 → (∀ k, k < m → Hm k < 6) → ∀ j, 72 ≤ j → j < 96 → bgN Hm r m j = 0
  | 0, _, _, j, _, h2 => hr j (by omega)
  | m + 1, hm, h, j, h1, h2 => by
    have := h m (by omega)
    unfold bgN kfbR
    by_cases e : j = 72 + 4 * Hm m + m
    · rw [e, upd_eq]
    · rw [upd_ne e, upd_ne (by omega), upd_ne (by omega), upd_ne (by omega)]
      exact bgN_72 hr m (by omega) (fun k hk => h k (by omega)) j h1 h2
theorem bgN_hi {Hm : Nat → Nat} {r : Nat → Int32} : ∀ m, m ≤ 4 → (∀ k, k < m → Hm k < 6) → ∀ j, 96 ≤ j → bgN Hm r m j = r j
  | 0, _, _, _, _ => rfl
  | m + 1, hm, h, j, hj => by
    unfold bgN
    rw [kfbR_hi (h m (by omega)) (by omega) hj]
    exact bgN_hi m (by omega) (fun k hk => h k (by omega)) j hj
/-- the row where no hill knows news m -/
def z6R (m : Nat) (r : Nat → Int32) : Nat → Nat → Int32
  | 0 => r
  | b + 1 => upd (z6R m r b) (4 * b + m) 0
theorem z6R_o {m j : Nat} {r : Nat → Int32} : ∀ n, (∀ b, b < n → j ≠ 4 * b + m) → z6R m r n j = r j
  | 0, _ => rfl
  | n + 1, h => by
    unfold z6R
    rw [upd_ne (h n (by omega))]
    exact z6R_o n (fun b hb => h b (by omega))
theorem z6R_z {m b : Nat} {r : Nat → Int32} : ∀ n, b < n → z6R m r n (4 * b + m) = 0
  | 0, h => absurd h (by omega)
  | n + 1, h => by
    unfold z6R
    by_cases e : b = n
    · rw [e, upd_eq]
    · rw [upd_ne (by omega)]
      exact z6R_z n (by omega)
/-- days needed for the first k told of news m -/
def Lk (m : Nat) (C E : Nat → Nat) : Nat → Nat
  | 0 => 0
  | k + 1 => if C k = m then (if Lk m C E k < E k + 1 then E k + 1 else Lk m C E k) else Lk m C E k
theorem Lk_le {m : Nat} {C E : Nat → Nat} : ∀ k, (∀ i, i < k → E i < 100) → Lk m C E k ≤ 100
  | 0, _ => by unfold Lk; omega
  | k + 1, h => by
    have h1 := Lk_le (m := m) (C := C) k (fun i hi => h i (by omega))
    have h2 := h k (by omega)
    unfold Lk
    split
    · split <;> omega
    · exact h1
/-- what was told, as rows of numbers -/
def TDr (n H M : Nat) (A C E : Nat → Nat) (σ τ : hSt) : Prop := ∀ i, i < n → A i < H ∧ C i < M ∧ E i < 100 ∧ σ.1 216 i = nI (A i) ∧ τ.1 42 i = nI (A i) ∧ σ.1 217 i = nI (C i) ∧ τ.1 43 i = nI (C i) ∧ σ.1 218 i = nI (E i) ∧ τ.1 44 i = nI (E i)
theorem TDr_of {H M : Nat} {σ τ : hSt} (h : Rtd H M σ τ) : ∃ n A C E, n ≤ 20 ∧ σ.1 215 3 = nI n ∧ τ.1 0 63 = nI n ∧ TDr n H M A C E σ τ := by
  obtain ⟨n, h1, h2, h3, h4⟩ := h
  have h5 : ∀ i, ∃ q : Nat × Nat × Nat, i < n → q.1 < H ∧ q.2.1 < M ∧ q.2.2 < 100 ∧ σ.1 216 i = nI q.1 ∧ τ.1 42 i = nI q.1 ∧ σ.1 217 i = nI q.2.1 ∧ τ.1 43 i = nI q.2.1 ∧ σ.1 218 i = nI q.2.2 ∧ τ.1 44 i = nI q.2.2 := fun i => by
    by_cases hi : i < n
    · obtain ⟨a, c, e, q⟩ := h4 i hi
      exact ⟨(a, c, e), fun _ => q⟩
    · exact ⟨(0, 0, 0), fun q => absurd q hi⟩
  obtain ⟨f, hf⟩ := Classical.axiomOfChoice h5
  exact ⟨n, fun i => (f i).1, fun i => (f i).2.1, fun i => (f i).2.2, h1, h2, h3, fun i hi => hf i hi⟩
theorem daysNeeded_eq {σ τ : hSt} {n H M m k : Nat} {A C E : Nat → Nat} (hP : HC σ.2.2) (hn : n ≤ 20) (hM4 : M ≤ 4) (hm : m < 4) (hT : TDr n H M A C E σ τ) (hk : k ≤ n) : F_X9_daysNeeded 215 (nI m) (nI k) σ = some (nI (Lk m C E k)) := by
  unfold F_X9_daysNeeded F_X9_daysNeeded_5
  refine lp_eq k (by rw [fuel_v]; omega) (fun i v => v = (nI (Lk m C E i), nI i)) rfl (fun i v hi hv => ?_)
  subst hv
  unfold S_X9_daysNeeded_5 F_X9_daysNeeded_5b cL
  dsimp only
  by_cases hlt : i < k
  · left
    obtain ⟨t1, t2, t3, t4, t5, t6, t7, t8, t9⟩ := hT i (by omega)
    have hL := Lk_le (m := m) (C := C) (E := E) i (fun j hj => (hT j (by omega)).2.2.1)
    rw [if_neg (nI_ge hlt (by omega)), if_neg (show ¬ (20 : Int32) ≤ nI i from nI_ge (b := 20) (by omega) (by decide)), rC_9_1 hP (c := 215) (by decide), cG_t (inb_nI (by rw [nC_9_1 (by decide)]; omega) (by rw [nC_9_1 (by decide)]; decide)), cl_nI (by omega), t6]
    by_cases hc : C i = m
    · rw [if_pos (by rw [hc]), rC_9_2 hP (c := 215) (by decide), cG_t (inb_nI (by rw [nC_9_2 (by decide)]; omega) (by rw [nC_9_2 (by decide)]; decide)), t8, nI_1]
      refine ⟨_, hlt, rfl, ?_⟩
      show _ = (nI (if C i = m then (if Lk m C E i < E i + 1 then E i + 1 else Lk m C E i) else Lk m C E i), _)
      rw [if_pos hc, nI_1]
      by_cases h : Lk m C E i < E i + 1
      · rw [if_pos (nI_lt h (by omega)), if_pos h]
      · rw [if_neg (nI_nlt (by omega) (by omega)), if_neg h]
    · rw [if_neg (fun q => hc ((nI_eq (by omega) (by omega)).mp q))]
      refine ⟨_, hlt, rfl, ?_⟩
      show _ = (nI (if C i = m then (if Lk m C E i < E i + 1 then E i + 1 else Lk m C E i) else Lk m C E i), _)
      rw [if_neg hc, nI_1]
  · right
    have : i = k := by omega
    subst this
    rw [if_pos (nI_le (Nat.le_refl _) (by omega))]
    rfl
/-- one less, as an int -/
theorem m1_lt {L d : Nat} (hL : L ≤ 100) (hd : d ≤ 200) : (nI L - 1 < nI d) ↔ L ≤ d := by
  have hs : (nI L - 1).toInt = (L : Int) - 1 := pk_sub_toInt (b := 1) (by omega) (by decide)
  rw [Int32.lt_iff_toInt_lt, hs, nI_toInt (by omega)]
  omega
theorem m1_le {L e : Nat} (hL : L ≤ 100) (he : e < 100) : (nI e ≤ nI L - 1) ↔ e + 1 ≤ L := by
  have hs : (nI L - 1).toInt = (L : Int) - 1 := pk_sub_toInt (b := 1) (by omega) (by decide)
  rw [Int32.le_iff_toInt_le, hs, nI_toInt (by omega)]
  omega
theorem isSo44_eq {σ τ : hSt} {n H M m k : Nat} {A C E : Nat → Nat} {x : Int32 × hSt} (hQ : HM τ.2.2) (hn : n ≤ 20) (hM4 : M ≤ 4) (hm : m < 4) (hT : TDr n H M A C E σ τ) (hk : k ≤ n) (hx : F_X12_isSo_91 0 (nI m) (nI k) (nI (Lk m C E k) - 1) 0 τ = some x) : F_X12_isSo_44 0 (nI m) (nI k) (-1) 0 τ = some x := by
  unfold F_X12_isSo_44
  refine lp_eq k (by rw [fuel_v]; omega) (fun i v => v = (nI (Lk m C E i) - 1, nI i)) rfl (fun i v hi hv => ?_)
  subst hv
  unfold S_X12_isSo_44 F_X12_isSo_44b F_X12_isSo_82 cL
  dsimp only
  by_cases hlt : i < k
  · left
    obtain ⟨t1, t2, t3, t4, t5, t6, t7, t8, t9⟩ := hT i (by omega)
    have hL := Lk_le (m := m) (C := C) (E := E) i (fun j hj => (hT j (by omega)).2.2.1)
    rw [if_neg (nI_ge hlt (by omega)), rM_65 hQ, cG_t (inb_nI (by rw [kM_43]; omega) (by decide)), cl_nI (by omega), t7]
    by_cases hc : C i = m
    · rw [if_pos (by rw [hc]), rM_66 hQ, cG_t (inb_nI (by rw [kM_44]; omega) (by decide)), t9, rM_66 hQ, cG_t (inb_nI (by rw [kM_44]; omega) (by decide)), t9]
      have e1 : Lk m C E (i + 1) = if Lk m C E i < E i + 1 then E i + 1 else Lk m C E i := by
        show (if C i = m then (if Lk m C E i < E i + 1 then E i + 1 else Lk m C E i) else Lk m C E i) = _
        rw [if_pos hc]
      rw [e1]
      by_cases h : Lk m C E i < E i + 1
      · rw [if_neg (fun q => absurd ((m1_le hL t3).mp q) (by omega)), if_pos h]
        exact ⟨_, hlt, rfl, by rw [nI_1, nI_pred]⟩
      · rw [if_pos ((m1_le hL t3).mpr (by omega)), if_neg h]
        exact ⟨_, hlt, rfl, by rw [nI_1]⟩
    · rw [if_neg (fun q => hc ((nI_eq (by omega) (by omega)).mp q))]
      refine ⟨_, hlt, rfl, ?_⟩
      show _ = (nI (if C i = m then (if Lk m C E i < E i + 1 then E i + 1 else Lk m C E i) else Lk m C E i) - 1, _)
      rw [if_neg hc, nI_1]
  · right
    have : i = k := by omega
    subst this
    rw [if_pos (nI_le (Nat.le_refl _) (by omega)), hx]
    rfl
theorem isSo7_eq {τ : hSt} {m h k : Nat} {x : Int32 × hSt} (hQ : HM τ.2.2) (hm : m < 4) (hh : h < 6) (hx : F_X12_isSo_44 0 (nI m) (nI k) (-1) 0 (uA τ 37 (kfbR h m (z6R m (τ.1 37) 6))) = some x) : F_X12_isSo_7 0 (nI m) (nI h) (nI k) 0 τ = some x := by
  unfold F_X12_isSo_7
  refine lp_eq 6 (by rw [fuel_v]; decide) (fun i v => v = (nI i, uA τ 37 (z6R m (τ.1 37) i))) ?_ (fun i v hi hv => ?_)
  · show (_, τ) = (nI 0, uA τ 37 (τ.1 37))
    rw [uA_self]
    rfl
  · subst hv
    have hQ' : HM (uA τ 37 (z6R m (τ.1 37) i)).2.2 := hQ
    unfold S_X12_isSo_7 F_X12_isSo_7b cL
    dsimp only
    by_cases hlt : i < 6
    · left
      rw [if_neg (show ¬ (6 : Int32) ≤ nI i from nI_ge (b := 6) hlt (by decide)), rM_54 hQ']
      simp only [show (4 : Int32) = nI 4 from rfl, pk_mul, nI_add]
      rw [cG_t (inb_nI (by rw [kM_37]; omega) (by decide)), cl_nI (by omega), uA_uI, nI_1]
      exact ⟨_, hlt, rfl, rfl⟩
    · right
      have : i = 6 := by omega
      subst this
      rw [if_pos (show (6 : Int32) ≤ nI 6 by decide), kfbM_eq hQ' hh hm, uA_uA]
      have own : (uA τ 37 (z6R m (τ.1 37) 6)).1 37 = z6R m (τ.1 37) 6 := funext fun j => uA_own _ _ _ _
      rw [own]
      simp only [Option.bind_some]
      rw [hx]
      rfl
/-- the check of what was told, in both -/
theorem soCheck {σ τ : hSt} {n H M m k t : Nat} {A C E : Nat → Nat} (hP : HC σ.2.2) (hQ : HM τ.2.2) (hn : n ≤ 20) (hH : H ≤ 6) (hM4 : M ≤ 4) (hm : m < 4) (hT : TDr n H M A C E σ τ) (hk : k ≤ n) (hW : RW σ.1 48 (τ.1 37) t) :
    ∃ v, F_X9_isSo 215 48 (nI m) (nI k) σ = some v ∧ F_X12_isSo_111 0 (nI m) (nI k) 0 τ = some (v, τ) := by
  unfold F_X9_isSo F_X9_isSo_3 F_X12_isSo_111
  have main : ∃ x y, lp (S_X9_isSo_3 215 48 (nI m) (nI k) σ) fuel 0 = some x ∧ lp (S_X12_isSo_111 0 (nI m) (nI k) τ) fuel 0 = some y ∧ (fun (x : Int32) (y : Int32 × hSt) => y = (x, τ)) x y := by
    refine lp_two k (by rw [fuel_v]; omega) (fun i a c => a = nI i ∧ c = nI i) _ ⟨rfl, rfl⟩ (fun i a c hi hac => ?_)
    obtain ⟨a1, a2⟩ := hac
    subst a1 a2
    unfold S_X9_isSo_3 F_X9_isSo_3b S_X12_isSo_111 F_X12_isSo_111b
    by_cases hlt : i < k
    · obtain ⟨t1, t2, t3, t4, t5, t6, t7, t8, t9⟩ := hT i (by omega)
      have g : inb (nI i) 20 = true := inb_nI (by omega) (by decide)
      have c74 : F_X9_isSo_74 215 48 (nI m) (nI k) (nI i) σ = some (.inl (nI (i + 1))) := by
        unfold F_X9_isSo_74 cL
        rw [nI_1]
      have m173 : F_X12_isSo_173 0 (nI m) (nI k) (nI i) τ = some (.inl (nI (i + 1))) := by
        unfold F_X12_isSo_173 cL
        rw [nI_1]
      have ci : (nI i).toNatClampNeg = i := cl_nI (by omega)
      rw [if_neg (nI_ge hlt (by omega)), if_neg (nI_ge hlt (by omega)), if_neg (show ¬ (20 : Int32) ≤ nI i from nI_ge (b := 20) (by omega) (by decide)), rC_9_1 hP (c := 215) (by decide), cG_t (by rw [nC_9_1 (by decide)]; exact g), ci, t6, rM_64 hQ, cG_t (show inb (nI i) (kM 42).2 = true from g)]
      unfold cL
      dsimp only
      rw [t5, rM_65 hQ, cG_t (show inb (nI i) (kM 43).2 = true from g), t7]
      by_cases hc : C i = m
      · obtain ⟨r1, r2, -, -⟩ := hW.1.2.2.2 (A i) m (by omega) hm
        have e4 : (4 : Int32) * nI (A i) + nI m = nI (4 * A i + m) := by rw [show (4 : Int32) = nI 4 from rfl, pk_mul, nI_add]
        rw [if_pos (by rw [hc]), if_pos (by rw [hc]), rC_9_0 hP (c := 215) (by decide), cG_t (by rw [nC_9_0 (by decide)]; exact g), t4, pairOf_eq]
        simp only [Option.bind_some]
        rw [rC_9_0 hP (c := 215) (by decide), cG_t (by rw [nC_9_0 (by decide)]; exact g), t4, knowsC_eq (by omega) hm]
        simp only [Option.bind_some]
        rw [ite_10, e4, rM_54 hQ, cG_t (inb_nI (by rw [kM_37]; omega) (by decide)), cl_nI (n := 4 * A i + m) (by omega), r1, ite_10]
        by_cases hb : bt (σ.1 48 1) (6 * m + A i) = true
        · rw [if_pos hb, if_pos hb, rC_10_9 hP (c := 48) (by decide), cG_t (inb_nI (by rw [nC_10_9 (by decide)]; omega) (by rw [nC_10_9 (by decide)]; decide)), cl_nI (n := 6 * m + A i) (by omega), rC_9_2 hP (c := 215) (by decide), cG_t (by rw [nC_9_2 (by decide)]; exact g), t8, rM_54 hQ, show (24 : Int32) = nI 24 from rfl, nI_add, cG_t (inb_nI (by rw [kM_37]; omega) (by decide)), rM_66 hQ, cG_t (show inb (nI i) (kM 44).2 = true from g), cl_nI (n := 24 + (4 * A i + m)) (by omega), t9, (r2 hb).1]
          by_cases he : σ.1 (48 + 1) (6 * m + A i) = nI (E i)
          · left
            rw [if_pos he, if_pos he]
            exact ⟨_, _, hlt, c74, m173, rfl, rfl⟩
          · right
            rw [if_neg he, if_neg he]
            exact ⟨0, (0, τ), rfl, rfl, rfl⟩
        · right
          rw [if_neg hb, if_neg hb]
          exact ⟨0, (0, τ), rfl, rfl, rfl⟩
      · left
        rw [if_neg (fun q => hc ((nI_eq (by omega) (by omega)).mp q)), if_neg (fun q => hc ((nI_eq (by omega) (by omega)).mp q))]
        exact ⟨_, _, hlt, c74, m173, rfl, rfl⟩
    · right
      have : i = k := by omega
      subst this
      rw [if_pos (nI_le (Nat.le_refl _) (by omega)), if_pos (nI_le (Nat.le_refl _) (by omega))]
      exact ⟨1, (1, τ), rfl, rfl, rfl⟩
  obtain ⟨x, y, g1, g2, g3⟩ := main
  exact ⟨x, g1, by rw [g2, g3]⟩
/-- the class's begin, for one hill, and the model's -/
theorem beg_both {b t li h m k n : Nat} {D : TxD} {σ τ : hSt} {A C E : Nat → Nat} {set : Int32} (hD : TXok D) (ht : Rat t σ.2.2) (hT : TC t D σ) (hM : TM li D τ) (hh : h < tH D) (hm : m < tM D) (hn : n ≤ 20) (hk : k ≤ n) (hTD : TDr n (tH D) (tM D) A C E σ τ) :
    ∃ v σ' τ', ((F_X10_begin 48 t σ).bind fun σ17 => cR (σ17.2.2 0 6) (okr kC NC 10) fun z18 => (F_X10_beginAt z18 (nI h) (nI m) σ17).bind fun σ20 => F_X11_beginners_77 0 (nI m) (nI k) (nI (Lk m C E k)) set (nI h) 0 σ20) = some (.inl (if v = 0 then set else set ||| ((1 : Int32) <<< (nI h &&& 31)), nI (h + 1), σ')) ∧
      F_X12_isSo 0 (nI m) (nI h) (nI k) τ = some (v, τ') ∧ TC t D σ' ∧ frC t σ σ' ∧ TM li D τ' ∧ frM τ τ' := by
  obtain ⟨ht1, ht2⟩ := Rat_ok ht
  have d1 := hD.1
  have d2 := hD.2.1
  have hHm := hD.2.2.2.2.2.2.2.1
  have hP : HC σ.2.2 := hT.1.1
  have hQ : HM τ.2.2 := hM.1
  obtain ⟨Hm, hHm1⟩ : ∃ Hm : Nat → Nat, Hm = fun i => if i < tM D then tHm D i else 0 := ⟨_, rfl⟩
  have hHm2 : ∀ i, i < tM D → Hm i = tHm D i := fun i hi => by rw [hHm1]; exact if_pos hi
  have hHm6 : ∀ i, i < 4 → Hm i < 6 := fun i hi => by
    by_cases q : i < tM D
    · rw [hHm2 i q]; have := hHm i q; omega
    · rw [hHm1]; show (if i < tM D then tHm D i else 0) < 6; rw [if_neg q]; decide
  have hHmH : ∀ i, i < tM D → Hm i < tH D := fun i hi => by rw [hHm2 i hi]; exact hHm i hi
  have hz : ∀ j, j < 380 → zR 380 (τ.1 37) j = 0 := zR_lo
  obtain ⟨σ1, c1, c2, c3, c4⟩ := beginC_eq (w := 48) (t := t) (M := tM D) (Hm := Hm) (r := zR 380 (τ.1 37)) hP ht1 (by decide) (by omega) hT.1.2.1.2.1 d2 hHm6 (fun i hi => by rw [hHm2 i hi]; exact hT.1.2.2.2.1 i hi) hz
  have m1 := beginsM_eq (Hm := Hm) hQ ⟨hM.2.1.1, hM.2.1.2, hM.2.2.1.1, d1, hM.2.2.1.2.1, d2⟩ hHm6 (fun i hi => by rw [hHm2 i hi]; exact hM.2.2.2.2.1 i hi)
  generalize hr0 : bgN Hm (zR 380 (τ.1 37)) (tM D) = r0 at c4 m1
  have hr72 : ∀ j, 72 ≤ j → j < 96 → r0 j = 0 := by subst hr0; exact bgN_72 hz (tM D) d2 (fun i hi => hHm6 i (by omega))
  have hr96 : ∀ j, 96 ≤ j → j < 380 → r0 j = 0 := fun j h1 h2 => by subst hr0; rw [bgN_hi (tM D) d2 (fun i hi => hHm6 i (by omega)) j h1]; exact hz j h2
  have hRH0 : RH (tH D) r0 := by
    subst hr0
    exact RH_bgN (fun x y _ _ _ => ⟨hz _ (by omega), hz _ (by omega)⟩) d1 (tM D) d2 hHmH
  have hP1 : HC σ1.2.2 := by rw [c2]; exact hP
  rw [c1]
  simp only [Option.bind_some]
  rw [rC_11_6' hP1, beginAt_eq hP1 (by decide) (by omega) (by omega)]
  simp only [Option.bind_some]
  have hbg : bgR h m r0 (kfbR h m (z6R m r0 6)) := by
    have q1 : ∀ j, 96 ≤ j → z6R m r0 6 j = r0 j := fun j hj => z6R_o 6 (fun b hb => by omega)
    have := kfb_bgR (h := h) (m := m) (r := z6R m r0 6) (by omega) (by omega) (fun x hx _ => z6R_z 6 hx)
    obtain ⟨e1, e2, e3, e4, e5, e6, e7⟩ := this
    refine ⟨fun j hj => (e1 j hj).trans (q1 j hj), fun x y hx hy hne => ?_, e3, e4, e5, e6, e7⟩
    obtain ⟨u1, u2, u3, u4⟩ := e2 x y hx hy hne
    refine ⟨u1.trans (z6R_o 6 (fun b hb => by omega)), u2.trans (z6R_o 6 (fun b hb => by omega)), u3.trans (z6R_o 6 (fun b hb => by omega)), u4.trans (z6R_o 6 (fun b hb => by omega))⟩
  have h2z : ∀ x, x < 6 → bt (σ1.1 48 2) (6 * m + x) = false := fun x hx => by
    obtain ⟨r1, r2, r3, r4⟩ := c4.1.2.2.2 x m hx (by omega)
    cases hb : bt (σ1.1 48 1) (6 * m + x) with
    | false => exact r4 hb
    | true =>
      have := (r2 hb).2.2
      rw [hr72 _ (by omega) (by omega)] at this
      cases hb2 : bt (σ1.1 48 2) (6 * m + x) with
      | false => rfl
      | true => rw [hb2] at this; exact absurd this (by decide)
  have hW := bg_RW (w := 48) (h := h) (m := m) c4 (by omega) (by omega) h2z hbg
  generalize hr1 : kfbR h m (z6R m r0 6) = r1 at hW hbg
  have hRH1 : RH (tH D) r1 := by
    subst hr1
    refine RH_kfbR (fun x y a b c => ?_) hh d1 (by omega)
    rw [z6R_o (j := 96 + (4 * x + y)) 6 (fun b hb => by omega)]
    refine ⟨?_, (hRH0 x y a b c).2⟩
    by_cases e : y = m
    · rw [e]; exact z6R_z 6 b
    · rw [z6R_o 6 (fun b hb => by omega)]; exact (hRH0 x y a b c).1
  -- the class's state behind its begin
  generalize hs2 : bgC 48 h m σ1 = σ2 at hW ⊢
  have s2P : σ2.2 = σ.2 := by subst hs2; exact c2
  have s2r : ∀ k, ¬ (48 ≤ k ∧ k < 52) → σ2.1 k = σ.1 k := fun k a => by subst hs2; rw [bgC_row (by omega) (by omega) (by omega)]; exact c3 k (by omega)
  have hT2 : TC t D σ2 := TC_fr hT s2P (fun k a b => s2r k (by omega))
  have f2 : frC t σ σ2 := ⟨by rw [s2P], fun k _ a _ => s2r k a⟩
  -- the model's
  have eτ : uA (uI (uI (uA τ 37 r0) 0 55 (τ.1 18 li)) 0 56 (-1)) 37 r1 = uI (uI (uA τ 37 r1) 0 55 (nI (tO D))) 0 56 (-1) := by
    rw [hM.2.2.1.2.2.1]
    unfold uA uI up2
    refine Prod.ext ?_ rfl
    funext c k
    dsimp only
    by_cases q : c = 37
    · subst q; simp
    · simp [q]
  generalize hτ2 : uI (uI (uA τ 37 r1) 0 55 (nI (tO D))) 0 56 (-1) = τ2 at eτ
  have t37 : τ2.1 37 = r1 := by subst hτ2; rw [uI_row _ _ (by decide), uI_row _ _ (by decide)]; exact funext fun j => uA_own _ _ _ _
  have t55 : τ2.1 0 55 = nI (tO D) := by subst hτ2; rw [uI_ne _ _ (by decide), uI_I, if_pos ⟨rfl, rfl⟩]
  have t56 : τ2.1 0 56 = -1 := by subst hτ2; rw [uI_I, if_pos ⟨rfl, rfl⟩]
  have tP : τ2.2 = τ.2 := by subst hτ2; rfl
  have g2 : frM τ τ2 := by
    subst hτ2
    refine ⟨fun j a b c d => ?_, fun k a b c d e f g i => ?_⟩
    · rw [uI_ne _ _ (by omega), uI_ne _ _ (by omega), uA_row _ _ (by decide)]
    · rw [uI_row _ _ a, uI_row _ _ a, uA_row _ _ e]
  have hM2 : TM li D τ2 := TM_M hM tP g2
  have hW2 : WR (tH D) 0 σ2.1 48 (τ2.1 37) := by
    rw [t37]
    refine ⟨0, 0, hW, ?_, Nat.le_refl _, hRH1⟩
    rw [hbg.1 120 (by decide), hr96 120 (by decide) (by decide)]
    rfl
  have hL := Lk_le (m := m) (C := C) (E := E) k (fun j hj => (hTD j (by omega)).2.2.1)
  have main : ∃ x y, lp (S_X11_beginners_77 0 (nI m) (nI k) (nI (Lk m C E k)) set (nI h)) fuel (0, σ2) = some x ∧ lp (S_X12_isSo_91 0 (nI m) (nI k) (nI (Lk m C E k) - 1)) fuel (0, τ2) = some y ∧ (fun (x : (Int32 × Int32 × hSt) ⊕ (Int32 × hSt)) (y : Int32 × hSt) => ∃ s', x = .inl (if y.1 = 0 then set else set ||| ((1 : Int32) <<< (nI h &&& 31)), nI (h + 1), s') ∧ TC t D s' ∧ frC t σ s' ∧ TM li D y.2 ∧ frM τ y.2) x y := by
    refine lp_two (Lk m C E k) (by rw [fuel_v]; omega)
      (fun i a c => a.1 = nI i ∧ c.1 = nI i ∧ TC t D a.2 ∧ TM li D c.2 ∧ frm t 48 σ2 a.2 ∧ frq τ2 c.2 ∧ WR (tH D) i a.2.1 48 (c.2.1 37))
      _ ⟨rfl, rfl, hT2, hM2, frm_rfl, frq_rfl, hW2⟩ (fun i a c hi hac => ?_)
    obtain ⟨l4, s1⟩ := a
    obtain ⟨l4', u1⟩ := c
    obtain ⟨a1, a2, a3, a4, a5, a6, a7⟩ := hac
    dsimp only at a1 a2 a3 a4 a5 a6 a7
    subst a1 a2
    have hPs : HC s1.2.2 := a3.1.1
    have hts : Rat t s1.2.2 := by rw [a5.1, s2P]; exact ht
    unfold S_X11_beginners_77 F_X11_beginners_77b S_X12_isSo_91 F_X12_isSo_91b cL
    dsimp only
    by_cases hlt : i < Lk m C E k
    · left
      obtain ⟨σ', τ', e1, n1, e2, n2, e3, n3, e4⟩ := day_WR (t := t) (w := 48) (how := tO D) hD ht1 (by decide) (by omega) a3 a4 a7 (by omega) (by rw [a6.2.1 55 (by decide)]; exact t55) hD.2.2.2.1
      rw [a6.2.1 56 (by decide), t56] at e1
      rw [if_neg (nI_ge hlt (by omega)), if_neg (fun q => absurd ((m1_lt hL (by omega)).mp q) (by omega)), rC_11_6' hPs, Rat_c hts, Rat_c hts, a3.1.2.1.2.2.1, e1, n1]
      exact ⟨_, _, hlt, rfl, rfl, nI_1 i, nI_1 i, e2, n2, frm_trans a5 e3, frq_trans a6 n3, e4⟩
    · right
      obtain ⟨n0, d0, hW0, -⟩ := a7
      have hTD1 : TDr n (tH D) (tM D) A C E s1 u1 := fun i hi => by
        have e1 : ∀ k, 216 ≤ k → k < 219 → s1.1 k = σ.1 k := fun k p q => by rw [(a5.2 k (by omega) (by omega)).1]; exact s2r k (by omega)
        have e2 : ∀ k, 42 ≤ k → k < 45 → u1.1 k = τ.1 k := fun k p q => by rw [(a6.2.2 k (by omega) (by omega) (by omega) (by omega) (by omega)).1]; exact g2.2 k (by omega) (by omega) (by omega) (by omega) (by omega) (by omega) (by omega) (by omega)
        rw [e1 216 (by omega) (by omega), e1 217 (by omega) (by omega), e1 218 (by omega) (by omega), e2 42 (by omega) (by omega), e2 43 (by omega) (by omega), e2 44 (by omega) (by omega)]
        exact hTD i hi
      obtain ⟨v, w1, w2⟩ := soCheck (k := k) (m := m) hPs a4.1 hn d1 d2 (by omega) hTD1 hk hW0
      rw [if_pos (nI_le (by omega) (by omega)), if_pos ((m1_lt hL (by omega)).mpr (by omega)), rC_11_10' hPs, rC_11_6' hPs, w1, w2]
      simp only [Option.bind_some]
      have b133 : ∀ q s, F_X11_beginners_133 0 (nI m) (nI k) (nI (Lk m C E k)) q (nI h) s = some (.inl (q, nI (h + 1), s)) := fun q s => by
        unfold F_X11_beginners_133 cL
        rw [nI_1]
      refine ⟨.inl (if v = 0 then set else set ||| ((1 : Int32) <<< (nI h &&& 31)), nI (h + 1), s1), (v, u1), ?_, rfl, s1, rfl, a3, frC_trans f2 (frC_m a5), a4, frM_trans g2 (frM_q a6)⟩
      by_cases hv : v = 0
      · rw [if_pos hv, if_pos hv, b133]; rfl
      · rw [if_neg hv, if_neg hv, b133]; rfl
  obtain ⟨x, y, w1, w2, s', w3, w4, w5, w6, w7⟩ := main
  refine ⟨y.1, s', y.2, ?_, ?_, w4, w5, w6, w7⟩
  · unfold F_X11_beginners_77
    rw [w1, w3]
  · unfold F_X12_isSo
    rw [m1]
    simp only [Option.bind_some]
    refine isSo7_eq (τ := uI (uI (uA τ 37 r0) 0 55 (τ.1 18 li)) 0 56 (-1)) hQ (by omega) (by omega) ?_
    have own : (uI (uI (uA τ 37 r0) 0 55 (τ.1 18 li)) 0 56 (-1)).1 37 = r0 := by rw [uI_row _ _ (by decide), uI_row _ _ (by decide)]; exact funext fun j => uA_own _ _ _ _
    rw [own, hr1, eτ]
    refine isSo44_eq (σ := σ) (n := n) (H := tH D) (M := tM D) (A := A) (C := C) (E := E) (by rw [tP]; exact hQ) hn d2 (by omega) (fun i hi => ?_) hk ?_
    · have e2 : ∀ k, 42 ≤ k → k < 45 → τ2.1 k = τ.1 k := fun k p q => g2.2 k (by omega) (by omega) (by omega) (by omega) (by omega) (by omega) (by omega) (by omega)
      rw [e2 42 (by omega) (by omega), e2 43 (by omega) (by omega), e2 44 (by omega) (by omega)]
      exact hTD i hi
    · unfold F_X12_isSo_91
      exact w2
theorem beginners_eq {b : Nat} {σ τ : hSt} {x y : Int32} (h : Rr b σ τ) : ∃ v σ' τ', F_X11_beginners 0 x y σ = some (v, σ') ∧ F_X12_beginners 0 x y τ = some (v, τ') ∧ Rr b σ' τ' := by
  have h00 := h
  obtain ⟨t, li, D, ht, hD, hT, hM, hR⟩ := h
  obtain ⟨n, A, C, E, hn, e1, e2, hTD⟩ := TDr_of hR.2.2.2.2.2
  have d1 := hD.1
  have d2 := hD.2.1
  have hP : HC σ.2.2 := hT.1.1
  have c23 : F_X11_beginners_23 σ = some (-1, σ) := rfl
  unfold F_X11_beginners F_X12_beginners
  rcases news_eq (x := x) hD ht hT.1 hM with ⟨m, hm, e, q1, q2⟩ | ⟨q1, q2⟩
  · subst e
    rw [q1, q2, e2]
    simp only [Option.bind_some, if_neg ne_10]
    rcases inM_le (x := y) (n := n) (τ := τ) (by omega) with ⟨k, hk, e, q⟩ | ⟨q, q3⟩
    · subst e
      rw [q, if_neg (nI_pos (by omega)), rC_11_10' hP, e1, if_pos (nI_le hk (by omega)), rC_11_10' hP, daysNeeded_eq hP hn d2 (by omega) hTD hk]
      simp only [Option.bind_some, if_neg ne_10]
      unfold F_X11_beginners_41 F_X12_beginners_27
      have main : ∃ x w, lp (S_X11_beginners_41 0 (nI m) (nI k) (nI (Lk m C E k))) fuel (0, 0, σ) = some x ∧ lp (S_X12_beginners_27 0 (nI m) (nI k)) fuel (0, 0, τ) = some w ∧ (fun (x z : Int32 × hSt) => x.1 = z.1 ∧ TC t D x.2 ∧ frC t σ x.2 ∧ TM li D z.2 ∧ frM τ z.2) x w := by
        refine lp_two (tH D) (by rw [fuel_v]; omega)
          (fun i a c => a.1 = c.1 ∧ a.2.1 = nI i ∧ c.2.1 = nI i ∧ TC t D a.2.2 ∧ frC t σ a.2.2 ∧ TM li D c.2.2 ∧ frM τ c.2.2)
          _ ⟨rfl, rfl, rfl, hT, frC_rfl, hM, frM_rfl⟩ (fun i u c hi hac => ?_)
        obtain ⟨set, l5, s1⟩ := u
        obtain ⟨set', l5', u1⟩ := c
        obtain ⟨a1, a2, a3, a4, a5, a6, a7⟩ := hac
        dsimp only at a1 a2 a3 a4 a5 a6 a7
        subst a1 a2 a3
        have hPs : HC s1.2.2 := a4.1.1
        have hts : Rat t s1.2.2 := by rw [a5.1]; exact ht
        unfold S_X11_beginners_41 F_X11_beginners_41b S_X12_beginners_27 F_X12_beginners_27b
        dsimp only
        rw [Rat_c hts, a4.1.2.1.1, rM_24 a6.1, a6.2.1.1, cG_t (inb_nI (by rw [kM_11]; exact a6.2.1.2) (by decide)), cl_nI (by have := a6.2.1.2; omega), a6.2.2.1.1]
        by_cases hlt : i < tH D
        · left
          have hTD1 : TDr n (tH D) (tM D) A C E s1 u1 := fun i hi => by
            have ht2 := (Rat_ok ht).2
            have e1 : ∀ k, 216 ≤ k → k < 219 → s1.1 k = σ.1 k := fun k p q => a5.2 k (by omega) (by omega) (by omega)
            have e2 : ∀ k, 42 ≤ k → k < 45 → u1.1 k = τ.1 k := fun k p q => a7.2 k (by omega) (by omega) (by omega) (by omega) (by omega) (by omega) (by omega) (by omega)
            rw [e1 216 (by omega) (by omega), e1 217 (by omega) (by omega), e1 218 (by omega) (by omega), e2 42 (by omega) (by omega), e2 43 (by omega) (by omega), e2 44 (by omega) (by omega)]
            exact hTD i hi
          obtain ⟨v, σ', τ', w1, w2, w3, w4, w5, w6⟩ := beg_both (b := b) (set := set) hD hts a4 a6 hlt hm hn hk hTD1
          rw [if_neg (nI_ge hlt (by omega)), if_neg (nI_ge hlt (by omega)), rC_11_6' hPs, Rat_c hts, w1, cC_t w2]
          have b59 : ∀ q s, F_X12_beginners_59 0 (nI m) (nI k) q (nI i) s = some (.inl (q, nI (i + 1), s)) := fun q s => by
            unfold F_X12_beginners_59 cL
            rw [nI_1]
          refine ⟨_, (if v = 0 then set else set ||| ((1 : Int32) <<< (nI i &&& 31)), nI (i + 1), τ'), hlt, rfl, ?_, rfl, rfl, rfl, w3, frC_trans a5 w4, w5, frM_trans a7 w6⟩
          unfold cL
          dsimp only
          by_cases hv : v = 0
          · rw [if_pos hv, if_pos hv, b59]
          · rw [if_neg hv, if_neg hv, b59]
        · right
          have : i = tH D := by omega
          subst this
          rw [if_pos (nI_le (Nat.le_refl _) (by omega)), if_pos (nI_le (Nat.le_refl _) (by omega))]
          exact ⟨_, _, rfl, rfl, rfl, a4, a5, a6, a7⟩
      obtain ⟨u, w, k1, k2, k3, k4, k5, k6, k7⟩ := main
      exact ⟨u.1, u.2, w.2, k1, by rw [k2, k3], Rr_ro ht hD hR k4 k6 k5 k7⟩
    · rw [q]
      simp only [Option.bind_some, if_true]
      refine ⟨-1, σ, τ, ?_, rfl, h00⟩
      by_cases hy : y < 0
      · rw [if_pos hy, c23]
      · rw [if_neg hy, rC_11_10' hP, e1, if_neg (Int32.not_le.mpr (q3.resolve_left hy)), c23]
  · rw [q1, q2]
    simp only [Option.bind_some, if_true]
    exact ⟨-1, σ, τ, rfl, rfl, h00⟩
