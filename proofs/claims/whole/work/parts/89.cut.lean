/-! ===== PURE 54: tokens, in the model ===== -/
def TpM (n : Nat) (b : Nat → Nat) (s : hSt) : Prop := HM s.2.2 ∧ s.1 0 4 = nI n ∧ n ≤ 2000 ∧ (∀ i, i < n → (s.1 2 i) &&& 255 = nI (b i)) ∧ (∀ i, b i < 256) ∧ ∀ k, k < 19 → s.2.1 7 k = kyV k
theorem byteM_eq {n i : Nat} {b : Nat → Nat} {s : hSt} (h : TpM n b s) (hi : i < 2 ^ 30) : F_X12_byteAt 0 (nI i) s = some (if i < n then nI (b i) else 0) := by
  obtain ⟨h1, h2, h3, h4, -⟩ := h
  have f22 : ∀ x, F_X12_byteAt_22 x s = some x := fun _ => rfl
  unfold F_X12_byteAt
  rw [h2, f22]
  by_cases q : i < n
  · rw [if_neg (nI_ge q (by omega)), if_pos q, rM_3 h1, cG_t (inb_nI (by rw [kM_2]; omega) (by decide)), cl_nI (by omega), h4 i q, f22]
  · rw [if_pos (nI_le (by omega) (by omega)), if_neg q]
theorem isLt_M {c : Nat} {s : hSt} (h : c < 256) : F_X12_isLetter (nI c) s = some (if isLt c then 1 else 0) := isLt_eq c h
theorem isDg_M {c : Nat} {s : hSt} (h : c < 256) : F_X12_isDigit (nI c) s = some (if isDg c then 1 else 0) := isDg_eq c h
/-- one more token -/
def tokS (s : hSt) (T : Nat) (K P V : Int32) (N : Int64) : hSt := uI (uJ (uI (uI (uI s 3 T K) 4 T P) 5 T V) 6 T N) 0 10 (nI (T + 1))
theorem tokS_I {s : hSt} {T : Nat} {K P V : Int32} {N : Int64} (c k : Nat) : (tokS s T K P V N).1 c k = if c = 0 ∧ k = 10 then nI (T + 1) else if c = 5 ∧ k = T then V else if c = 4 ∧ k = T then P else if c = 3 ∧ k = T then K else s.1 c k := by
  unfold tokS
  rw [uI_I, uJ_I1, uI_I, uI_I, uI_I]
theorem tokS_J {s : hSt} {T : Nat} {K P V : Int32} {N : Int64} (c k : Nat) : (tokS s T K P V N).2.1 c k = if c = 6 ∧ k = T then N else s.2.1 c k := by
  show (uJ (uI (uI (uI s 3 T K) 4 T P) 5 T V) 6 T N).2.1 c k = _
  rw [uJ_J]
  rfl
theorem tokS_P {s : hSt} {T : Nat} {K P V : Int32} {N : Int64} : (tokS s T K P V N).2.2 = s.2.2 := rfl
theorem token_eq {s : hSt} {T : Nat} {K P V : Int32} {N : Int64} (hQ : HM s.2.2) (hT : T < 403) (e : s.1 0 10 = nI T) : F_X12_token 0 K P V N s = some (tokS s T K P V N) := by
  unfold F_X12_token cL
  dsimp only
  have Q : ∀ s' : hSt, s'.2.2 = s.2.2 → HM s'.2.2 := fun s' q => by rw [q]; exact hQ
  rw [rM_5 hQ, e, cG_t (inb_nI (by rw [kM_3]; omega) (by decide)), cl_nI (by omega)]
  have e1 : (uI s 3 T K).1 0 10 = nI T := by rw [uI_row _ _ (by decide)]; exact e
  rw [rM_6 (Q (uI s 3 T K) rfl), e1, cG_t (inb_nI (by rw [kM_4]; omega) (by decide)), cl_nI (by omega)]
  have e2 : (uI (uI s 3 T K) 4 T P).1 0 10 = nI T := by rw [uI_row _ _ (by decide)]; exact e1
  rw [rM_7 (Q (uI (uI s 3 T K) 4 T P) rfl), e2, cG_t (inb_nI (by rw [kM_5]; omega) (by decide)), cl_nI (by omega)]
  have e3 : (uI (uI (uI s 3 T K) 4 T P) 5 T V).1 0 10 = nI T := by rw [uI_row _ _ (by decide)]; exact e2
  rw [rM_8 (Q (uI (uI (uI s 3 T K) 4 T P) 5 T V) rfl), e3, cG_t (inb_nI (by rw [kM_6]; omega) (by decide)), cl_nI (by omega), uJ_I1, e3, nI_1]
  rfl
/-- the tokens, in the model -/
def TkM (n : Nat) (b : Nat → Nat) (c : Nat) (s : hSt) : Prop := ∀ i, i < c → s.1 3 i = nI (mkK (tkK n b (tkP n b i))) ∧ s.1 4 i = nI (tkP n b i) ∧
  (tkK n b (tkP n b i) = 3 → ∃ v, v < 10000 ∧ s.1 5 i = nI v ∧ tkV n b (tkP n b i) = Int64.ofNat v) ∧
  (tkK n b (tkP n b i) = 2 → ∃ f k, k ≤ 8 ∧ (∀ j, j < k → 97 ≤ f j ∧ f j ≤ 122) ∧ s.2.1 6 i = Int64.ofNat (an 27 f k) ∧ tkV n b (tkP n b i) = Int64.ofNat (an 32 f k))
/-- what the cutting leaves -/
def cutF (s s' : hSt) : Prop := s'.2.2 = s.2.2 ∧ (∀ j, j ≠ 10 → s'.1 0 j = s.1 0 j) ∧ (∀ k, k ≠ 0 → k ≠ 3 → k ≠ 4 → k ≠ 5 → s'.1 k = s.1 k) ∧ ∀ k, k ≠ 6 → s'.2.1 k = s.2.1 k
theorem cutF_tok {s s' : hSt} {T : Nat} {K P V : Int32} {N : Int64} (h : cutF s s') : cutF s (tokS s' T K P V N) := by
  obtain ⟨h1, h2, h3, h4⟩ := h
  refine ⟨h1, fun j q => ?_, fun k p0 p3 p4 p5 => ?_, fun k p => ?_⟩
  · rw [tokS_I, if_neg (by omega), if_neg (by omega), if_neg (by omega), if_neg (by omega)]
    exact h2 j q
  · refine Eq.trans (funext fun j => ?_) (h3 k p0 p3 p4 p5)
    rw [tokS_I, if_neg (by omega), if_neg (by omega), if_neg (by omega), if_neg (by omega)]
  · refine Eq.trans (funext fun j => ?_) (h4 k p)
    rw [tokS_J, if_neg (by omega)]
theorem TpM_cut {n : Nat} {b : Nat → Nat} {s s' : hSt} (h : TpM n b s) (f : cutF s s') : TpM n b s' := by
  unfold TpM
  rw [f.1, f.2.1 4 (by decide), f.2.2.1 2 (by decide) (by decide) (by decide) (by decide), f.2.2.2 7 (by decide)]
  exact h
theorem TkM_add {n T : Nat} {b : Nat → Nat} {s : hSt} {K P V : Int32} {N : Int64} (h : TkM n b T s) (hK : K = nI (mkK (tkK n b (tkP n b T)))) (hP : P = nI (tkP n b T)) (hV : tkK n b (tkP n b T) = 3 → ∃ v, v < 10000 ∧ V = nI v ∧ tkV n b (tkP n b T) = Int64.ofNat v)
    (hN : tkK n b (tkP n b T) = 2 → ∃ f k, k ≤ 8 ∧ (∀ j, j < k → 97 ≤ f j ∧ f j ≤ 122) ∧ N = Int64.ofNat (an 27 f k) ∧ tkV n b (tkP n b T) = Int64.ofNat (an 32 f k)) : TkM n b (T + 1) (tokS s T K P V N) := fun i hi => by
  have e3 : (tokS s T K P V N).1 3 i = if i = T then K else s.1 3 i := by
    rw [tokS_I, if_neg (by omega), if_neg (by omega), if_neg (by omega)]
    by_cases q : i = T
    · rw [if_pos ⟨rfl, q⟩, if_pos q]
    · rw [if_neg (fun z => q z.2), if_neg q]
  have e4 : (tokS s T K P V N).1 4 i = if i = T then P else s.1 4 i := by
    rw [tokS_I, if_neg (by omega), if_neg (by omega)]
    by_cases q : i = T
    · rw [if_pos ⟨rfl, q⟩, if_pos q]
    · rw [if_neg (fun z => q z.2), if_neg (by omega), if_neg q]
  have e5 : (tokS s T K P V N).1 5 i = if i = T then V else s.1 5 i := by
    rw [tokS_I, if_neg (by omega)]
    by_cases q : i = T
    · rw [if_pos ⟨rfl, q⟩, if_pos q]
    · rw [if_neg (fun z => q z.2), if_neg (by omega), if_neg (by omega), if_neg q]
  have e6 : (tokS s T K P V N).2.1 6 i = if i = T then N else s.2.1 6 i := by
    rw [tokS_J]
    by_cases q : i = T
    · rw [if_pos ⟨rfl, q⟩, if_pos q]
    · rw [if_neg (fun z => q z.2), if_neg q]
  rw [e3, e4, e5, e6]
  by_cases q : i = T
  · rw [if_pos q, if_pos q, if_pos q, if_pos q, q]
    exact ⟨hK, hP, hV, hN⟩
  · rw [if_neg q, if_neg q, if_neg q, if_neg q]
    exact h i (by omega)
theorem wK_r {f : Nat → Nat} {k : Nat} : wK f k = 2 ∨ (128 ≤ wK f k ∧ wK f k < 147) := by
  by_cases h : ∃ w, w < 19 ∧ mch f k w
  · obtain ⟨w, w1, w2⟩ := h
    rw [wK_y w1 w2]
    omega
  · exact Or.inl (wK_n h)
theorem tkK_ne {n p : Nat} {b : Nat → Nat} (h : p < n) : tkK n b p ≠ 0 := by
  unfold tkK
  rw [if_neg (by omega)]
  split
  · split
    · decide
    · rcases wK_r (f := fun j => b (p + j)) (k := rn isLt n b p - p) with q | q <;> omega
  · split
    · split <;> decide
    · split
      · rename_i h
        intro q
        rw [q] at h
        exact absurd h (by decide)
      · decide
/-- the model's kind of letters -/
theorem keysM_eq {n i k T : Nat} {b : Nat → Nat} {s : hSt} (h : TpM n b s) (hT : T < 403) (e : s.1 0 10 = nI T) (hk : k ≤ 8) (hi : i + k ≤ n) (hf : ∀ j, j < k → 97 ≤ b (i + j) ∧ b (i + j) ≤ 122) :
    F_X12_cut_135 0 (nI i) (nI k) (Int64.ofNat (an 27 (fun j => b (i + j)) k)) 1 s = some (.inl (nI (i + k), tokS s T (nI (mkK (wK (fun j => b (i + j)) k))) (nI i) 0 (Int64.ofNat (an 27 (fun j => b (i + j)) k)))) := by
  have hn := h.2.2.1
  have e179 : ∀ x, F_X12_cut_179 0 (nI i) (nI k) (Int64.ofNat (an 27 (fun j => b (i + j)) k)) x s = some (.inl (nI (i + k), tokS s T x (nI i) 0 (Int64.ofNat (an 27 (fun j => b (i + j)) k)))) := fun x => by
    unfold F_X12_cut_179 F_X12_cut_291 cL
    rw [token_eq h.1 hT e, Option.bind_some, nI_add]
  unfold F_X12_cut_135
  by_cases q : 7 < k
  · rw [if_pos (show (7 : Int32) < nI k from nI_lt (a := 7) q (by omega)), e179, wK_n (fun ⟨w, w1, w2⟩ => by have := mch_8 w1 w2 hf; omega)]
    rfl
  · rw [if_neg (show ¬ (7 : Int32) < nI k from nI_nlt (a := 7) (by omega) (by decide))]
    unfold F_X12_cut_146
    refine lp_eq 19 (by rw [fuel_v]; decide) (fun j v => ∃ x, v = (x, nI j) ∧ ((x = 1 ∧ ∀ q, q < j → ¬ kyV q = Int64.ofNat (an 27 (fun j => b (i + j)) k)) ∨ (∃ q, q < j ∧ kyV q = Int64.ofNat (an 27 (fun j => b (i + j)) k) ∧ x = nI (20 + q)))) ⟨1, rfl, Or.inl ⟨rfl, fun q z => absurd z (by omega)⟩⟩ (fun j v hj hv => ?_)
    obtain ⟨x, a1, a2⟩ := hv
    subst a1
    unfold S_X12_cut_146 F_X12_cut_146b
    dsimp only
    have e173 : ∀ x, F_X12_cut_173 0 (nI i) (nI k) (Int64.ofNat (an 27 (fun j => b (i + j)) k)) x (nI j) s = some (.inl (x, nI (j + 1))) := fun x => by
      unfold F_X12_cut_173 cL
      rw [nI_1]
    by_cases hlt : j < 19
    · left
      rw [if_neg (show ¬ (19 : Int32) ≤ nI j from nI_ge (b := 19) hlt (by decide)), rM_9 h.1, cG_t (inb_nI (by rw [kM_7]; omega) (by decide)), cl_nI (by omega), h.2.2.2.2.2 j hlt]
      by_cases z : kyV j = Int64.ofNat (an 27 (fun j => b (i + j)) k)
      · rw [if_pos ((lg_cmp_eq _ _).mpr z), show (20 : Int32) = nI 20 from rfl, nI_add]
        unfold cL
        dsimp only
        rw [e173]
        exact ⟨_, hlt, rfl, _, rfl, Or.inr ⟨j, by omega, z, rfl⟩⟩
      · rw [if_neg (fun y => z ((lg_cmp_eq _ _).mp y)), e173]
        refine ⟨_, hlt, rfl, _, rfl, ?_⟩
        rcases a2 with ⟨y1, y2⟩ | ⟨q, y1, y2, y3⟩
        · refine Or.inl ⟨y1, fun q hq => ?_⟩
          by_cases r : q = j
          · rw [r]; exact z
          · exact y2 q (by omega)
        · exact Or.inr ⟨q, by omega, y2, y3⟩
    · right
      have : j = 19 := by omega
      subst this
      rw [if_pos (show (19 : Int32) ≤ nI 19 by decide), e179]
      rcases a2 with ⟨y1, y2⟩ | ⟨q, y1, y2, y3⟩
      · rw [y1, wK_n (fun ⟨w, w1, w2⟩ => y2 (pmW w) (pmW_lt w w1) ((mch_iff w1 hk hf).mp w2))]
        rfl
      · obtain ⟨w, w1, w2⟩ := pmW_ex q y1
        rw [y3, wK_y w1 ((mch_iff w1 hk hf).mpr (by unfold kyW; rw [w2]; exact y2))]
        have : mkK (128 + w) = 20 + pmW w := by
          have : ∀ w, w < 19 → mkK (128 + w) = 20 + pmW w := by decide
          exact this w w1
        rw [this, w2]
        rfl
/-- letters, in the model -/
theorem letM_eq {n i T : Nat} {b : Nat → Nat} {s : hSt} (h : TpM n b s) (hT : T < 403) (e : s.1 0 10 = nI T) (hi : i < n) :
    ∃ N, F_X12_cut_85 0 (nI i) 0 0 s = some (.inl (nI (rn isLt n b i), tokS s T (nI (mkK (if 8 < rn isLt n b i - i then 1 else wK (fun j => b (i + j)) (rn isLt n b i - i)))) (nI i) 0 N)) ∧ (rn isLt n b i - i ≤ 8 → N = Int64.ofNat (an 27 (fun j => b (i + j)) (rn isLt n b i - i))) := by
  have hn := h.2.2.1
  obtain ⟨r1, r2, r3⟩ := rn_b (p := isLt) (b := b) (show i ≤ n by omega)
  refine ⟨Int64.ofNat (an 27 (fun j => b (i + j)) (if rn isLt n b i - i ≤ 8 then rn isLt n b i - i else 8)), ?_, fun q => by rw [if_pos q]⟩
  unfold F_X12_cut_85
  refine lp_eq (rn isLt n b i - i) (by rw [fuel_v]; omega) (fun k w => w = (nI k, Int64.ofNat (an 27 (fun j => b (i + j)) (if k ≤ 8 then k else 8))) ∧ rn isLt n b (i + k) = rn isLt n b i) ⟨rfl, rfl⟩ (fun k w hk hw => ?_)
  obtain ⟨a1, a2⟩ := hw
  subst a1
  unfold S_X12_cut_85 F_X12_cut_85b
  dsimp only
  have e118 : ∀ x, F_X12_cut_118 0 (nI i) (nI k) x s = some (.inl (nI (k + 1), x)) := fun x => by
    unfold F_X12_cut_118 cL
    rw [nI_1]
  rw [nI_add, byteM_eq h (by omega), Option.bind_some]
  by_cases hlt : k < rn isLt n b i - i
  · left
    have hl := r3 (i + k) (by omega) (by omega)
    rw [if_pos (show i + k < n by omega), isLt_M (h.2.2.2.2.1 _), hl, if_pos rfl, Option.bind_some, if_neg ne_10]
    by_cases q : 8 ≤ k
    · rw [if_pos (show (8 : Int32) ≤ nI k from nI_le (a := 8) q (by omega)), e118]
      refine ⟨_, hlt, rfl, ?_, by rw [← a2]; exact (rn_s (by omega) hl).symm⟩
      rw [if_neg (show ¬ k + 1 ≤ 8 by omega)]
      by_cases z : k ≤ 8
      · rw [if_pos z, show k = 8 by omega]
      · rw [if_neg z]
    · have lr := isLt_r hl
      have ap : F_X12_appends (Int64.ofNat (an 27 (fun j => b (i + j)) k)) (nI (b (i + k))) s = some (Int64.ofNat (an 27 (fun j => b (i + j)) (k + 1))) := by
        have f21 : ∀ x, F_X12_appends_21 x s = some x := fun _ => rfl
        unfold F_X12_appends
        rw [if_neg (show ¬ nI (b (i + k)) = 0 from fun z => by have := (nI_eq (b := 0) (by omega) (by decide)).mp z; omega), f21, letI64 _ (h.2.2.2.2.1 _) lr.1, show (27 : Int64) = Int64.ofNat 27 from rfl, Int64.mul_comm, an_64]
        rfl
      rw [if_neg (show ¬ (8 : Int32) ≤ nI k from nI_ge (b := 8) (by omega) (by decide)), if_pos (show k ≤ 8 by omega), Option.bind_some, ap, Option.bind_some, e118]
      exact ⟨_, hlt, rfl, by rw [if_pos (show k + 1 ≤ 8 by omega)], by rw [← a2]; exact (rn_s (by omega) hl).symm⟩
  · right
    have ek : k = rn isLt n b i - i := by omega
    have e2 : i + k = rn isLt n b i := by omega
    have stop : ¬ (i + k < n ∧ isLt (b (i + k)) = true) := fun z => by
      have := rn_s z.1 z.2
      rw [e2] at a2 this
      have := (rn_b (p := isLt) (b := b) (show rn isLt n b i + 1 ≤ n by omega)).1
      omega
    have v0 : (F_X12_isLetter (if i + k < n then nI (b (i + k)) else 0) s) = some 0 := by
      by_cases q : i + k < n
      · rw [if_pos q, isLt_M (h.2.2.2.2.1 _), if_neg (fun z => stop ⟨q, z⟩)]
      · rw [if_neg q, show (0 : Int32) = nI 0 from rfl, isLt_M (by decide)]
        rfl
    rw [v0, Option.bind_some, if_pos rfl, ← ek, ← e2]
    by_cases q : k ≤ 8
    · rw [if_pos (show nI k ≤ (8 : Int32) from nI_le (b := 8) q (by decide)), if_pos q, if_neg (show ¬ 8 < k by omega), keysM_eq h hT e q (by omega) (fun j hj => isLt_r (r3 _ (by omega) (by omega)))]
      rfl
    · rw [if_neg (show ¬ nI k ≤ (8 : Int32) from nI_ge (a := 8) (by omega) (by omega)), if_neg q, if_pos (show 8 < k by omega)]
      unfold F_X12_cut_135 F_X12_cut_179 F_X12_cut_291 cL
      rw [if_pos (show (7 : Int32) < nI k from nI_lt (a := 7) (by omega) (by omega)), token_eq h.1 hT e, Option.bind_some, nI_add]
      rfl
/-- digits, in the model -/
theorem digM_eq {n i T : Nat} {b : Nat → Nat} {s : hSt} (h : TpM n b s) (hT : T < 403) (e : s.1 0 10 = nI T) (hi : i < n) :
    ∃ V, F_X12_cut_208 0 (nI i) 0 0 s = some (.inl (nI (rn isDg n b i), tokS s T (nI (mkK (if 4 < rn isDg n b i - i then 1 else 3))) (nI i) V 0)) ∧ (rn isDg n b i - i ≤ 4 → V = nI (dn (fun j => b (i + j)) (rn isDg n b i - i))) := by
  have hn := h.2.2.1
  obtain ⟨r1, r2, r3⟩ := rn_b (p := isDg) (b := b) (show i ≤ n by omega)
  refine ⟨nI (dn (fun j => b (i + j)) (if rn isDg n b i - i ≤ 4 then rn isDg n b i - i else 4)), ?_, fun q => by rw [if_pos q]⟩
  unfold F_X12_cut_208
  refine lp_eq (rn isDg n b i - i) (by rw [fuel_v]; omega) (fun k w => w = (nI k, nI (dn (fun j => b (i + j)) (if k ≤ 4 then k else 4))) ∧ rn isDg n b (i + k) = rn isDg n b i) ⟨rfl, rfl⟩ (fun k w hk hw => ?_)
  obtain ⟨a1, a2⟩ := hw
  subst a1
  unfold S_X12_cut_208 F_X12_cut_208b
  dsimp only
  have e118 : ∀ x, F_X12_cut_244 0 (nI i) (nI k) x s = some (.inl (nI (k + 1), x)) := fun x => by
    unfold F_X12_cut_244 cL
    rw [nI_1]
  have e261 : ∀ K V, F_X12_cut_261 0 (nI i) (nI k) V 0 K s = some (.inl (nI (i + k), tokS s T K (nI i) V 0)) := fun K V => by
    unfold F_X12_cut_261 F_X12_cut_291 cL
    rw [token_eq h.1 hT e, Option.bind_some, nI_add]
  rw [nI_add, byteM_eq h (by omega), Option.bind_some]
  by_cases hlt : k < rn isDg n b i - i
  · left
    have hl := r3 (i + k) (by omega) (by omega)
    have lr := isDg_r hl
    rw [if_pos (show i + k < n by omega), isDg_M (h.2.2.2.2.1 _), hl, if_pos rfl, Option.bind_some, if_neg ne_10]
    by_cases q : 4 ≤ k
    · rw [if_pos (show (4 : Int32) ≤ nI k from nI_le (a := 4) q (by omega)), e118]
      refine ⟨_, hlt, rfl, ?_, by rw [← a2]; exact (rn_s (by omega) hl).symm⟩
      rw [if_neg (show ¬ k + 1 ≤ 4 by omega)]
      by_cases z : k ≤ 4
      · rw [if_pos z, show k = 4 by omega]
      · rw [if_neg z]
    · have dl := dn_lt (f := fun j => b (i + j)) k (fun j hj => isDg_r (r3 _ (by omega) (by omega)))
      have p10 : 10 ^ k ≤ 10 ^ 4 := Nat.pow_le_pow_right (by decide) (by omega)
      have up : (((10 : Int32) * nI (dn (fun j => b (i + j)) k)) + nI (b (i + k))) - (48 : Int32) = nI (dn (fun j => b (i + j)) (k + 1)) := by
        rw [show (10 : Int32) = nI 10 from rfl, pk_mul, nI_add, show (48 : Int32) = nI 48 from rfl, pk_sub (by omega)]
        refine congrArg nI ?_
        show 10 * dn (fun j => b (i + j)) k + b (i + k) - 48 = dn (fun j => b (i + j)) k * 10 + (b (i + k) - 48)
        omega
      rw [if_neg (show ¬ (4 : Int32) ≤ nI k from nI_ge (b := 4) (by omega) (by decide)), if_pos (show k ≤ 4 by omega), Option.bind_some, up]
      unfold cL
      dsimp only
      rw [e118]
      exact ⟨_, hlt, rfl, by rw [if_pos (show k + 1 ≤ 4 by omega)], by rw [← a2]; exact (rn_s (by omega) hl).symm⟩
  · right
    have ek : k = rn isDg n b i - i := by omega
    have e2 : i + k = rn isDg n b i := by omega
    have stop : ¬ (i + k < n ∧ isDg (b (i + k)) = true) := fun z => by
      have := rn_s z.1 z.2
      rw [e2] at a2 this
      have := (rn_b (p := isDg) (b := b) (show rn isDg n b i + 1 ≤ n by omega)).1
      omega
    have v0 : (F_X12_isDigit (if i + k < n then nI (b (i + k)) else 0) s) = some 0 := by
      by_cases q : i + k < n
      · rw [if_pos q, isDg_M (h.2.2.2.2.1 _), if_neg (fun z => stop ⟨q, z⟩)]
      · rw [if_neg q, show (0 : Int32) = nI 0 from rfl, isDg_M (by decide)]
        rfl
    rw [v0, Option.bind_some, if_pos rfl, ← ek, ← e2]
    by_cases q : k ≤ 4
    · rw [if_pos (show nI k ≤ (4 : Int32) from nI_le (b := 4) q (by decide)), if_pos q, if_neg (show ¬ 4 < k by omega), e261]
      rfl
    · rw [if_neg (show ¬ nI k ≤ (4 : Int32) from nI_ge (a := 4) (by omega) (by omega)), if_neg q, if_pos (show 4 < k by omega), e261]
      rfl
theorem sign_eq {n T c : Nat} {b : Nat → Nat} {i d : Int32} {s : hSt} (h : TpM n b s) (hT : T < 403) (e : s.1 0 10 = nI T) (hc : c < 256) : F_X12_sign 0 i (nI c) d s = some (1, tokS s T (nI (mkK (if isSg c then c else 1))) i 0 0) := by
  have e95 : ∀ x, F_X12_sign_95 0 i x s = some (1, tokS s T x i 0 0) := fun x => by
    unfold F_X12_sign_95
    rw [token_eq h.1 hT e, Option.bind_some]
  unfold F_X12_sign F_X12_sign_e F_X12_sign_43 F_X12_sign_55 F_X12_sign_65 F_X12_sign_75 F_X12_sign_85
  simp only [e95]
  by_cases c59 : c = 59
  · subst c59; rfl
  by_cases c61 : c = 61
  · subst c61; rfl
  by_cases c40 : c = 40
  · subst c40; rfl
  by_cases c41 : c = 41
  · subst c41; rfl
  by_cases c43 : c = 43
  · subst c43; rfl
  by_cases c45 : c = 45
  · subst c45; rfl
  by_cases c42 : c = 42
  · subst c42; rfl
  by_cases c47 : c = 47
  · subst c47; rfl
  by_cases c60 : c = 60
  · subst c60; rfl
  have ne : ∀ q, q < 256 → c ≠ q → ¬ nI c = nI q := fun q hq r z => r ((nI_eq (by omega) (by omega)).mp z)
  have sg : isSg c = false := by
    unfold isSg
    simp [c59, c61, c40, c41, c43, c45, c42, c47, c60]
  rw [if_neg (show ¬ nI c = 59 from ne 59 (by decide) c59), if_neg (show ¬ nI c = 61 from ne 61 (by decide) c61), if_neg (show ¬ nI c = 40 from ne 40 (by decide) c40), if_neg (show ¬ nI c = 41 from ne 41 (by decide) c41), if_neg (show ¬ nI c = 43 from ne 43 (by decide) c43), if_neg (show ¬ nI c = 45 from ne 45 (by decide) c45), if_neg (show ¬ nI c = 42 from ne 42 (by decide) c42), if_neg (show ¬ nI c = 47 from ne 47 (by decide) c47), if_neg (show ¬ nI c = 60 from ne 60 (by decide) c60), sg]
  rfl
theorem cut_eq {n : Nat} {b : Nat → Nat} {τ : hSt} (h : TpM n b τ) : ∃ s c, F_X12_cut 0 τ = some s ∧ cutF τ s ∧ TkM n b c s ∧ c ≤ 401 ∧ (c = 401 ∨ ∃ e, e + 1 = c ∧ tkK n b (tkP n b e) = 0) := by
  have hn := h.2.2.1
  have f0 : cutF τ (uI τ 0 10 0) := ⟨rfl, fun j q => uI_ne _ _ (by omega), fun k p _ _ _ => uI_row _ _ p, fun _ _ => rfl⟩
  unfold F_X12_cut F_X12_cut_7
  unfold cL
  dsimp only
  obtain ⟨s, g1, c, g2, g3, g4, g5⟩ := lp_go (s := S_X12_cut_7 0) (v := (0, uI τ 0 10 0)) n (by rw [fuel_v]; omega)
    (fun k w => ∃ i T s, w = (nI i, s) ∧ k ≤ i ∧ i ≤ n ∧ T ≤ 401 ∧ s.1 0 10 = nI T ∧ cutF τ s ∧ TkM n b T s ∧ rn isBl n b i = tkP n b T)
    (fun s => ∃ c, cutF τ s ∧ TkM n b c s ∧ c ≤ 401 ∧ (c = 401 ∨ ∃ e, e + 1 = c ∧ tkK n b (tkP n b e) = 0))
    ⟨0, 0, uI τ 0 10 0, rfl, Nat.le_refl _, Nat.zero_le _, by decide, by rw [uI_I, if_pos ⟨rfl, rfl⟩]; rfl, f0, fun i q => absurd q (by omega), rfl⟩ (fun k w hk hw => by
      obtain ⟨i, T, s, a1, a2, a3, a4, a5, a6, a7, a8⟩ := hw
      subst a1
      have hs := TpM_cut h a6
      unfold S_X12_cut_7 F_X12_cut_7b
      dsimp only
      have e291 : ∀ x z, F_X12_cut_291 0 x z = some (.inl (x, z)) := fun _ _ => rfl
      rw [a5]
      by_cases hT : T = 401
      · right
        subst hT
        rw [if_pos (show (400 : Int32) < nI 401 by decide)]
        exact ⟨s, rfl, 401, a6, a7, Nat.le_refl _, Or.inl rfl⟩
      · rw [if_neg (show ¬ (400 : Int32) < nI T from nI_nlt (a := 400) (by omega) (by decide)), byteM_eq hs (by omega), Option.bind_some, hs.2.1]
        by_cases q : i < n
        · left
          have hc := h.2.2.2.2.1 i
          have eqc : ∀ z, z < 256 → (nI (b i) = nI z ↔ b i = z) := fun z hz => nI_eq (by omega) (by omega)
          rw [if_pos (nI_lt q (by omega)), if_pos q]
          by_cases bl : isBl (b i) = true
          · have e67 : F_X12_cut_67 0 (nI i) s = some (.inl (nI (i + 1), s)) := by
              unfold F_X12_cut_67 cL
              rw [nI_1]
              rfl
            have br : b i = 9 ∨ b i = 10 ∨ b i = 13 ∨ b i = 32 := by simpa [isBl] using bl
            have val : (if nI (b i) = (9 : Int32) then F_X12_cut_67 0 (nI i) s else if nI (b i) = (10 : Int32) then F_X12_cut_67 0 (nI i) s else if nI (b i) = (13 : Int32) then F_X12_cut_67 0 (nI i) s else F_X12_cut_67 0 (nI i) s) = some (.inl (nI (i + 1), s)) := by
              rw [e67]
              split
              · rfl
              · split
                · rfl
                · split <;> rfl
            refine ⟨(nI (i + 1), s), by omega, ?_, i + 1, T, s, rfl, by omega, by omega, a4, a5, a6, a7, by rw [← rn_s q bl]; exact a8⟩
            rw [e67]
            rcases br with z | z | z | z
            · rw [if_pos (by rw [z]; rfl)]
            · rw [if_neg (by rw [z]; decide), if_pos (by rw [z]; rfl)]
            · rw [if_neg (by rw [z]; decide), if_neg (by rw [z]; decide), if_pos (by rw [z]; rfl)]
            · rw [if_neg (by rw [z]; decide), if_neg (by rw [z]; decide), if_neg (by rw [z]; decide), if_pos (by rw [z]; rfl)]
          · have nb : ¬ (b i = 9 ∨ b i = 10 ∨ b i = 13 ∨ b i = 32) := by simpa [isBl] using bl
            have hp : tkP n b T = i := by rw [← a8]; exact rn_e (fun z => bl z.2)
            rw [if_neg (show ¬ nI (b i) = (9 : Int32) from fun z => nb (Or.inl ((eqc 9 (by decide)).mp z))), if_neg (show ¬ nI (b i) = (10 : Int32) from fun z => nb (Or.inr (Or.inl ((eqc 10 (by decide)).mp z)))), if_neg (show ¬ nI (b i) = (13 : Int32) from fun z => nb (Or.inr (Or.inr (Or.inl ((eqc 13 (by decide)).mp z))))), if_neg (show ¬ nI (b i) = (32 : Int32) from fun z => nb (Or.inr (Or.inr (Or.inr ((eqc 32 (by decide)).mp z))))), isLt_M hc, Option.bind_some]
            have tT : ∀ K P V N, (tokS s T K P V N).1 0 10 = nI (T + 1) := fun K P V N => by rw [tokS_I, if_pos ⟨rfl, rfl⟩]
            have nx : rn isBl n b (tkN n b i) = tkP n b (T + 1) := by
              show _ = rn isBl n b (tkN n b (tkP n b T))
              rw [hp]
            have ni : ¬ n ≤ i := by omega
            by_cases lt : isLt (b i) = true
            · obtain ⟨N, m1, m2⟩ := letM_eq hs (show T < 403 by omega) a5 q
              have eN : tkN n b i = rn isLt n b i := by unfold tkN; rw [if_neg ni, if_pos lt]
              have eK : tkK n b i = if 8 < rn isLt n b i - i then 1 else wK (fun j => b (i + j)) (rn isLt n b i - i) := by unfold tkK; rw [if_neg ni, if_pos lt]
              have eV : tkV n b i = Int64.ofNat (an 32 (fun j => b (i + j)) (rn isLt n b i - i)) := by unfold tkV; rw [if_neg ni, if_pos lt]
              obtain ⟨r1, r2, r3⟩ := rn_b (p := isLt) (b := b) a3
              have gt : i < rn isLt n b i := by rw [rn_s q lt]; have := (rn_b (p := isLt) (b := b) (show i + 1 ≤ n by omega)).1; omega
              rw [lt, if_pos rfl, if_neg ne_10, m1]
              refine ⟨_, by omega, rfl, rn isLt n b i, T + 1, _, rfl, by omega, r2, by omega, tT _ _ _ _, cutF_tok a6, TkM_add a7 (by rw [hp, eK]) (by rw [hp]) (fun z => ?_) (fun z => ?_), by rw [← eN]; exact nx⟩
              · rw [hp, eK] at z
                revert z
                split
                · intro z; omega
                · intro z
                  rcases wK_r (f := fun j => b (i + j)) (k := rn isLt n b i - i) with y | y <;> omega
              · rw [hp, eK] at z
                have k8 : rn isLt n b i - i ≤ 8 := by
                  revert z
                  split
                  · intro z; omega
                  · intro _; omega
                exact ⟨fun j => b (i + j), rn isLt n b i - i, k8, fun j hj => isLt_r (r3 _ (by omega) (by omega)), m2 k8, by rw [hp, eV]⟩
            · rw [if_neg lt, if_pos rfl, isDg_M hc, Option.bind_some]
              by_cases dg : isDg (b i) = true
              · obtain ⟨V, m1, m2⟩ := digM_eq hs (show T < 403 by omega) a5 q
                have eN : tkN n b i = rn isDg n b i := by unfold tkN; rw [if_neg ni, if_neg lt, if_pos dg]
                have eK : tkK n b i = if 4 < rn isDg n b i - i then 1 else 3 := by unfold tkK; rw [if_neg ni, if_neg lt, if_pos dg]
                have eV : tkV n b i = Int64.ofNat (dn (fun j => b (i + j)) (rn isDg n b i - i)) := by unfold tkV; rw [if_neg ni, if_neg lt, if_pos dg]
                obtain ⟨r1, r2, r3⟩ := rn_b (p := isDg) (b := b) a3
                have gt : i < rn isDg n b i := by rw [rn_s q dg]; have := (rn_b (p := isDg) (b := b) (show i + 1 ≤ n by omega)).1; omega
                rw [dg, if_pos rfl, if_neg ne_10, m1]
                refine ⟨_, by omega, rfl, rn isDg n b i, T + 1, _, rfl, by omega, r2, by omega, tT _ _ _ _, cutF_tok a6, TkM_add a7 (by rw [hp, eK]) (by rw [hp]) (fun z => ?_) (fun z => ?_), by rw [← eN]; exact nx⟩
                · rw [hp, eK] at z
                  have k4 : rn isDg n b i - i ≤ 4 := by
                    revert z
                    split
                    · intro z; omega
                    · intro _; omega
                  refine ⟨_, ?_, m2 k4, by rw [hp, eV]⟩
                  exact Nat.lt_of_lt_of_le (dn_lt _ (fun j hj => isDg_r (r3 _ (by omega) (by omega)))) (Nat.pow_le_pow_right (by decide) k4)
                · rw [hp, eK] at z
                  revert z
                  split <;> intro z <;> omega
              · have eN : tkN n b i = i + 1 := by unfold tkN; rw [if_neg ni, if_neg lt, if_neg dg]
                have eK : tkK n b i = if isSg (b i) then b i else 1 := by unfold tkK; rw [if_neg ni, if_neg lt, if_neg dg]
                have gK : tkK n b i ≠ 2 ∧ tkK n b i ≠ 3 := by
                  rw [eK]
                  have : ∀ c, c < 256 → (if isSg c then c else 1) ≠ 2 ∧ (if isSg c then c else 1) ≠ 3 := by decide +kernel
                  exact this _ hc
                rw [if_neg dg, if_pos rfl, nI_1, byteM_eq hs (by omega), Option.bind_some, cC_t (sign_eq hs (show T < 403 by omega) a5 hc)]
                unfold cL
                dsimp only
                rw [e291, nI_1]
                refine ⟨_, by omega, rfl, i + 1, T + 1, _, rfl, by omega, by omega, by omega, tT _ _ _ _, cutF_tok a6, TkM_add a7 (by rw [hp, eK]) (by rw [hp]) (fun z => ?_) (fun z => ?_), by rw [← eN]; exact nx⟩
                · rw [hp] at z
                  exact absurd z gK.2
                · rw [hp] at z
                  exact absurd z gK.1
        · right
          have : i = n := by omega
          subst this
          have hp : tkP i b T = i := by rw [← a8]; exact rn_e (fun z => q z.1)
          have eK : tkK i b i = 0 := by unfold tkK; rw [if_pos (Nat.le_refl _)]
          rw [if_neg (nI_nlt (Nat.le_refl _) (by omega)), token_eq hs.1 (show T < 403 by omega) a5, Option.bind_some]
          exact ⟨_, rfl, T + 1, cutF_tok a6, TkM_add a7 (by rw [hp, eK]; rfl) (by rw [hp]) (fun z => by rw [hp, eK] at z; omega) (fun z => by rw [hp, eK] at z; omega), by omega, Or.inr ⟨T, rfl, by rw [hp, eK]⟩⟩)
  exact ⟨s, c, g1, g2, g3, g4, g5⟩
