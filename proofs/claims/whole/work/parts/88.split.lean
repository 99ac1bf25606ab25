/-! ===== PURE 53: tokens, in the class ===== -/
def bT (f : Nat → Int32) (i : Nat) : Nat := ((f i) &&& 255).toBitVec.toNat
theorem bT_eq {f : Nat → Int32} {i : Nat} : (f i) &&& 255 = nI (bT f i) ∧ bT f i < 256 := by
  constructor
  · exact Int32.toBitVec_inj.mp (by
      show ((f i) &&& 255).toBitVec = BitVec.ofNat 32 ((f i) &&& 255).toBitVec.toNat
      rw [BitVec.ofNat_toNat, BitVec.setWidth_eq])
  · unfold bT
    rw [Int32.toBitVec_and, BitVec.toNat_and]
    have := Nat.and_le_right (n := (f i).toBitVec.toNat) (m := (255 : Int32).toBitVec.toNat)
    have e : (255 : Int32).toBitVec.toNat = 255 := by decide
    omega
theorem uJ_I1 (σ : hSt) (c k : Nat) (v : Int64) (c' : Nat) : (uJ σ c k v).1 c' = σ.1 c' := rfl
theorem uJ_uJ (σ : hSt) (c k : Nat) (v w : Int64) : uJ (uJ σ c k v) c k w = uJ σ c k w := by
  unfold uJ
  refine Prod.ext rfl (Prod.ext ?_ rfl)
  funext c' k'
  show up2 (up2 σ.2.1 c k v) c k w c' k' = up2 σ.2.1 c k w c' k'
  unfold up2
  by_cases q : c' = c ∧ k' = k
  · rw [if_pos q, if_pos q]
  · rw [if_neg q, if_neg q, if_neg q]
/-- the tape the class reads -/
def TpC (n : Nat) (b : Nat → Nat) (s : hSt) : Prop := HC s.2.2 ∧ s.1 1 1 = nI n ∧ n ≤ 2000 ∧ (∀ i, i < n → (s.1 2 i) &&& 255 = nI (b i)) ∧ ∀ i, b i < 256
theorem TpC_fr {n : Nat} {b : Nat → Nat} {s s' : hSt} (h : TpC n b s) (h2 : s'.2.2 = s.2.2) (e1 : s'.1 1 = s.1 1) (e2 : s'.1 2 = s.1 2) : TpC n b s' := by
  unfold TpC
  rw [h2, e1, e2]
  exact h
theorem byteC_eq {n i : Nat} {b : Nat → Nat} {s : hSt} (h : TpC n b s) (hi : i < 2 ^ 30) : F_X6_byteAt 1 (nI i) s = some (if i < n then nI (b i) else -1) := by
  obtain ⟨h1, h2, h3, h4, -⟩ := h
  have f32 : F_X6_byteAt_32 s = some (-1) := rfl
  have f33 : ∀ x, F_X6_byteAt_33 x s = some x := fun _ => rfl
  unfold F_X6_byteAt
  rw [if_neg (nI_pos (by omega)), h2, f32]
  by_cases q : i < n
  · rw [if_neg (nI_ge q (by omega)), if_neg (show ¬ (2000 : Int32) ≤ nI i from nI_ge (b := 2000) (by omega) (by decide)), if_pos q, rC_6_0 h1 (c := 1) (by decide), cG_t (inb_nI (by rw [nC_6_0 (c := 1) (by decide)]; omega) (by decide)), cl_nI (by omega), show (1 + 1 : Nat) = 2 from rfl, h4 i q, f33]
  · rw [if_pos (nI_le (by omega) (by omega)), if_neg q]
theorem isBl_eq : ∀ c, c < 256 → F_X8_isBlank (nI c) hZ = some (if isBl c then 1 else 0) := by decide +kernel
theorem isLt_eq : ∀ c, c < 256 → F_X8_isLetter (nI c) hZ = some (if isLt c then 1 else 0) := by decide +kernel
theorem isDg_eq : ∀ c, c < 256 → F_X8_isDigit (nI c) hZ = some (if isDg c then 1 else 0) := by decide +kernel
theorem isBl_C {c : Nat} {s : hSt} (h : c < 256) : F_X8_isBlank (nI c) s = some (if isBl c then 1 else 0) := isBl_eq c h
theorem isLt_C {c : Nat} {s : hSt} (h : c < 256) : F_X8_isLetter (nI c) s = some (if isLt c then 1 else 0) := isLt_eq c h
theorem isDg_C {c : Nat} {s : hSt} (h : c < 256) : F_X8_isDigit (nI c) s = some (if isDg c then 1 else 0) := isDg_eq c h
theorem pastBl_eq {n i : Nat} {b : Nat → Nat} {s : hSt} (h : TpC n b s) (hi : i ≤ n) : F_X8_pastBlanks 1 (nI i) s = some (nI (rn isBl n b i)) := by
  have hn := h.2.2.1
  have f27 : ∀ x, F_X8_pastBlanks_27 x s = some x := fun _ => rfl
  unfold F_X8_pastBlanks F_X8_pastBlanks_2
  refine lp_eq n (by rw [fuel_v]; omega) (fun k v => ∃ j, v = nI j ∧ k ≤ j ∧ j ≤ n ∧ rn isBl n b j = rn isBl n b i) ⟨i, rfl, Nat.zero_le _, hi, rfl⟩ (fun k v hk hv => ?_)
  obtain ⟨j, a1, a2, a3, a4⟩ := hv
  subst a1
  unfold S_X8_pastBlanks_2 F_X8_pastBlanks_2b
  rw [h.2.1, f27]
  by_cases q : j < n
  · rw [if_neg (nI_ge q (by omega)), byteC_eq h (by omega), if_pos q, Option.bind_some, isBl_C (h.2.2.2.2 j), Option.bind_some, ite_10]
    by_cases r : isBl (b j) = true
    · left
      rw [if_pos r]
      unfold cL
      rw [nI_1]
      exact ⟨_, by omega, rfl, j + 1, rfl, by omega, by omega, by rw [← rn_s q r]; exact a4⟩
    · right
      rw [if_neg r, ← a4, rn_e (fun z => r z.2)]
      rfl
  · right
    rw [if_pos (nI_le (by omega) (by omega)), ← a4, rn_e (fun z => q z.1)]
    rfl
theorem letI64 : ∀ c, c < 256 → 97 ≤ c → (((nI c - (97 : Int32)) + (1 : Int32)).toInt64) = Int64.ofNat (c - 96) := by decide +kernel
theorem digI64 : ∀ c, c < 256 → 48 ≤ c → ((nI c - (48 : Int32)).toInt64) = Int64.ofNat (c - 48) := by decide +kernel
theorem an_64 {B c : Nat} (a : Nat) : Int64.ofNat a * Int64.ofNat B + Int64.ofNat c = Int64.ofNat (a * B + c) := by
  rw [Int64.ofNat_add, Int64.ofNat_mul]
theorem isLt_r {c : Nat} (h : isLt c = true) : 97 ≤ c ∧ c ≤ 122 := by simpa [isLt] using h
theorem isDg_r {c : Nat} (h : isDg c = true) : 48 ≤ c ∧ c ≤ 57 := by simpa [isDg] using h
theorem k39 : (kC (38 + 1)).2 = 401 := nC_8_0 (c := 38) (by decide)
theorem k40 : (kC (38 + 2)).2 = 401 := nC_8_1 (c := 38) (by decide)
theorem k41 : (kC (38 + 3)).2 = 401 := nC_8_2 (c := 38) (by decide)
/-- word or name, in the class -/
theorem wordC_eq {n p k : Nat} {b : Nat → Nat} {s : hSt} (h : TpC n b s) (hk : k ≤ 8) (hp : p + k ≤ n) (hf : ∀ j, j < k → 97 ≤ b (p + j) ∧ b (p + j) ≤ 122) : F_X8_wordOrName 1 (nI p) (nI (p + k)) s = some (nI (wK (fun j => b (p + j)) k)) := by
  have hn := h.2.2.1
  have inner : ∀ w, w < 19 → F_X8_wordOrName_14 1 (nI p) (nI (p + k)) (nI w) 1 0 s = some (@ite _ (mch (fun j => b (p + j)) k w) (Classical.propDecidable _) (.inr (nI (128 + w))) (.inl (nI (w + 1)))) := fun w hw => by
    unfold F_X8_wordOrName_14
    have e79 : ∀ x, F_X8_wordOrName_79 1 (nI p) (nI (p + k)) (nI w) x s = if x = 0 then some (.inl (nI (w + 1))) else some (.inr (nI (128 + w))) := fun x => by
      unfold F_X8_wordOrName_79 cL
      rw [nI_1, show (128 : Int32) = nI 128 from rfl, nI_add]
    refine lp_eq 8 (by rw [fuel_v]; decide) (fun i v => ∃ x, v = (x, nI i) ∧ ((x = 1 ∧ ∀ j, j < i → wN w j = if j < k then b (p + j) else 32) ∨ (x = 0 ∧ ¬ mch (fun j => b (p + j)) k w))) ⟨1, rfl, Or.inl ⟨rfl, fun j q => absurd q (by omega)⟩⟩ (fun i v hi hv => ?_)
    obtain ⟨x, a1, a2⟩ := hv
    subst a1
    unfold S_X8_wordOrName_14 F_X8_wordOrName_14b
    dsimp only
    rcases a2 with ⟨q1, q2⟩ | ⟨q1, q2⟩
    · subst q1
      by_cases hlt : i < 8
      · left
        have e47 : ∀ c, c < 256 → F_X8_wordOrName_47 1 (nI p) (nI (p + k)) (nI w) (nI i) (nI c) s = some (.inl (if wN w i = c then 1 else 0, nI (i + 1))) := fun c hc => by
          unfold F_X8_wordOrName_47 F_X8_wordOrName_71 cL
          obtain ⟨w1, w2⟩ := wN_eq w hw i hlt
          have wl : wN w i < 256 := by
            revert w2
            split <;> omega
          rw [show (8 : Int32) = nI 8 from rfl, pk_mul, nI_add, cG_t (inb_nI (by omega) (by decide)), cl_nI (by omega), w1, nI_1]
          by_cases z : wN w i = c
          · rw [if_pos (by rw [z]), if_pos z]
          · rw [if_neg (fun y => z ((nI_eq (by omega) (by omega)).mp y)), if_neg z]
        rw [if_neg (show ¬ (8 : Int32) ≤ nI i from nI_ge (b := 8) hlt (by decide)), if_neg ne_10, nI_add]
        have val : (if nI (p + k) ≤ nI (p + i) then F_X8_wordOrName_47 1 (nI p) (nI (p + k)) (nI w) (nI i) (32 : Int32) s else (F_X6_byteAt 1 (nI (p + i)) s).bind fun v6 => F_X8_wordOrName_47 1 (nI p) (nI (p + k)) (nI w) (nI i) v6 s) = some (.inl (if wN w i = (if i < k then b (p + i) else 32) then 1 else 0, nI (i + 1))) := by
          by_cases r : i < k
          · rw [if_neg (nI_ge (by omega) (by omega)), byteC_eq h (by omega), if_pos (by omega), Option.bind_some, e47 _ (h.2.2.2.2 _), if_pos r]
          · rw [if_pos (nI_le (by omega) (by omega)), show (32 : Int32) = nI 32 from rfl, e47 32 (by decide), if_neg r]
        rw [val]
        refine ⟨_, hlt, rfl, _, rfl, ?_⟩
        by_cases z : wN w i = if i < k then b (p + i) else 32
        · rw [if_pos z]
          refine Or.inl ⟨rfl, fun j hj => ?_⟩
          by_cases e : j = i
          · rw [e]; exact z
          · exact q2 j (by omega)
        · rw [if_neg z]
          exact Or.inr ⟨rfl, fun m => z (m i hlt)⟩
      · right
        have : i = 8 := by omega
        subst this
        rw [if_pos (show (8 : Int32) ≤ nI 8 by decide), e79, if_neg ne_10, if_pos (show mch (fun j => b (p + j)) k w from q2)]
        rfl
    · right
      subst q1
      rw [e79, if_pos rfl, if_pos rfl, if_neg q2]
      split <;> rfl
  unfold F_X8_wordOrName F_X8_wordOrName_2
  refine lp_eq 19 (by rw [fuel_v]; decide) (fun i v => v = nI i ∧ ∀ w, w < i → ¬ mch (fun j => b (p + j)) k w) ⟨rfl, fun w q => absurd q (by omega)⟩ (fun i v hi hv => ?_)
  obtain ⟨a1, a2⟩ := hv
  subst a1
  unfold S_X8_wordOrName_2 F_X8_wordOrName_2b
  by_cases hlt : i < 19
  · rw [if_neg (show ¬ (19 : Int32) ≤ nI i from nI_ge (b := 19) hlt (by decide)), inner i hlt]
    by_cases m : mch (fun j => b (p + j)) k i
    · right
      rw [if_pos m, wK_y hlt m]
    · left
      rw [if_neg m]
      refine ⟨_, hlt, rfl, rfl, fun w hw => ?_⟩
      by_cases e : w = i
      · rw [e]; exact m
      · exact a2 w (by omega)
  · right
    have : i = 19 := by omega
    subst this
    rw [if_pos (show (19 : Int32) ≤ nI 19 by decide), wK_n (fun ⟨w, w1, w2⟩ => a2 w w1 w2)]
    rfl
theorem keepL_eq {n p j : Nat} {b : Nat → Nat} {s : hSt} (h : TpC n b s) (hp : p < n) (hj : j < 401) : F_X8_keepLetters 38 1 (nI p) (nI j) (uJ s 41 j 0) = some (nI (rn isLt n b p), uI (uJ s 41 j (Int64.ofNat (an 32 (fun i => b (p + i)) (rn isLt n b p - p)))) 39 j (nI (if 8 < rn isLt n b p - p then 1 else wK (fun i => b (p + i)) (rn isLt n b p - p)))) := by
  have hn := h.2.2.1
  obtain ⟨r1, r2, r3⟩ := rn_b (p := isLt) (b := b) (show p ≤ n by omega)
  have hP : HC s.2.2 := h.1
  unfold F_X8_keepLetters F_X8_keepLetters_3
  refine lp_eq (rn isLt n b p - p) (by rw [fuel_v]; omega) (fun k w => w = (nI (p + k), uJ s 41 j (Int64.ofNat (an 32 (fun i => b (p + i)) k))) ∧ rn isLt n b (p + k) = rn isLt n b p) ⟨rfl, rfl⟩ (fun k w hk hw => ?_)
  obtain ⟨a1, a2⟩ := hw
  subst a1
  have hT : TpC n b (uJ s 41 j (Int64.ofNat (an 32 (fun i => b (p + i)) k))) := TpC_fr h rfl rfl rfl
  unfold S_X8_keepLetters_3 F_X8_keepLetters_3b
  dsimp only
  rw [hT.2.1]
  by_cases hlt : k < rn isLt n b p - p
  · left
    have hl := r3 (p + k) (by omega) (by omega)
    rw [if_neg (nI_ge (by omega) (by omega)), byteC_eq hT (by omega), if_pos (by omega), Option.bind_some, isLt_C (h.2.2.2.2 _), hl, Option.bind_some, if_pos rfl, if_neg ne_10, rC_8_2 hT.1 (c := 38) (by decide), rC_8_2 hT.1 (c := 38) (by decide), cG_t (inb_nI (by rw [k41]; omega) (by decide)), Option.bind_some, cG_t (inb_nI (by rw [k41]; omega) (by decide)), cl_nI (n := j) (by omega), show (38 + 3 : Nat) = 41 from rfl, uJ_uJ, letI64 _ (h.2.2.2.2 _) (isLt_r hl).1]
    unfold cL
    dsimp only
    rw [uJ_J, if_pos ⟨rfl, rfl⟩, show (32 : Int64) = Int64.ofNat 32 from rfl, an_64, nI_1]
    exact ⟨_, hlt, rfl, rfl, by rw [← a2]; exact (rn_s (by omega) hl).symm⟩
  · right
    have e : k = rn isLt n b p - p := by omega
    subst e
    have e2 : p + (rn isLt n b p - p) = rn isLt n b p := by omega
    have w59 : F_X8_keepLetters_59 38 1 (nI p) (nI j) (nI (p + (rn isLt n b p - p))) (uJ s 41 j (Int64.ofNat (an 32 (fun i => b (p + i)) (rn isLt n b p - p)))) = some (nI (p + (rn isLt n b p - p)), uI (uJ s 41 j (Int64.ofNat (an 32 (fun i => b (p + i)) (rn isLt n b p - p)))) 39 j (nI (if 8 < rn isLt n b p - p then 1 else wK (fun i => b (p + i)) (rn isLt n b p - p)))) := by
      have e84 : ∀ x, F_X8_keepLetters_84 (nI (p + (rn isLt n b p - p))) 39 (nI j) x (uJ s 41 j (Int64.ofNat (an 32 (fun i => b (p + i)) (rn isLt n b p - p)))) = some (nI (p + (rn isLt n b p - p)), uI (uJ s 41 j (Int64.ofNat (an 32 (fun i => b (p + i)) (rn isLt n b p - p)))) 39 j x) := fun x => by
        unfold F_X8_keepLetters_84 cL
        rw [cG_t (inb_nI (by rw [show (39 : Nat) = 38 + 1 from rfl, k39]; omega) (by decide)), cl_nI (n := j) (by omega)]
      unfold F_X8_keepLetters_59
      rw [rC_8_0 hT.1 (c := 38) (by decide), show nI (p + (rn isLt n b p - p)) - nI p = nI (rn isLt n b p - p) by rw [pk_sub (by omega)]; exact congrArg nI (by omega)]
      by_cases q : 8 < rn isLt n b p - p
      · rw [if_neg (show ¬ nI (rn isLt n b p - p) ≤ (8 : Int32) from nI_ge (a := 8) q (by omega)), if_pos q]
        exact e84 1
      · rw [if_pos (show nI (rn isLt n b p - p) ≤ (8 : Int32) from nI_le (b := 8) (by omega) (by decide)), if_neg q, wordC_eq hT (by omega) (by omega) (fun i hi => isLt_r (r3 _ (by omega) (by omega))), Option.bind_some]
        exact e84 _
    have stop : ¬ (rn isLt n b p < n ∧ isLt (b (rn isLt n b p)) = true) := fun z => by
      have := rn_s z.1 z.2
      rw [e2] at a2
      have := (rn_b (p := isLt) (b := b) (show rn isLt n b p + 1 ≤ n by omega)).1
      omega
    rw [w59]
    rw [e2]
    by_cases q : rn isLt n b p < n
    · rw [if_neg (nI_ge q (by omega)), byteC_eq hT (by omega), if_pos q, Option.bind_some, isLt_C (h.2.2.2.2 _), Option.bind_some, if_neg (fun z => stop ⟨q, z⟩), if_pos rfl]
      rfl
    · rw [if_pos (nI_le (by omega) (by omega))]
      rfl
theorem keepD_eq {n p j : Nat} {b : Nat → Nat} {s : hSt} (h : TpC n b s) (hp : p < n) (hj : j < 401) : F_X8_keepDigits 38 1 (nI p) (nI j) (uJ s 41 j 0) = some (nI (rn isDg n b p), uI (uJ s 41 j (Int64.ofNat (dn (fun i => b (p + i)) (rn isDg n b p - p)))) 39 j (nI (if 4 < rn isDg n b p - p then 1 else 3))) := by
  have hn := h.2.2.1
  obtain ⟨r1, r2, r3⟩ := rn_b (p := isDg) (b := b) (show p ≤ n by omega)
  have hP : HC s.2.2 := h.1
  unfold F_X8_keepDigits F_X8_keepDigits_3
  refine lp_eq (rn isDg n b p - p) (by rw [fuel_v]; omega) (fun k w => w = (nI (p + k), uJ s 41 j (Int64.ofNat (dn (fun i => b (p + i)) k))) ∧ rn isDg n b (p + k) = rn isDg n b p) ⟨rfl, rfl⟩ (fun k w hk hw => ?_)
  obtain ⟨a1, a2⟩ := hw
  subst a1
  have hT : TpC n b (uJ s 41 j (Int64.ofNat (dn (fun i => b (p + i)) k))) := TpC_fr h rfl rfl rfl
  unfold S_X8_keepDigits_3 F_X8_keepDigits_3b
  dsimp only
  rw [hT.2.1]
  by_cases hlt : k < rn isDg n b p - p
  · left
    have hl := r3 (p + k) (by omega) (by omega)
    rw [if_neg (nI_ge (by omega) (by omega)), byteC_eq hT (by omega), if_pos (by omega), Option.bind_some, isDg_C (h.2.2.2.2 _), hl, Option.bind_some, if_pos rfl, if_neg ne_10, rC_8_2 hT.1 (c := 38) (by decide), rC_8_2 hT.1 (c := 38) (by decide), cG_t (inb_nI (by rw [k41]; omega) (by decide)), Option.bind_some, cG_t (inb_nI (by rw [k41]; omega) (by decide)), cl_nI (n := j) (by omega), show (38 + 3 : Nat) = 41 from rfl, uJ_uJ, digI64 _ (h.2.2.2.2 _) (isDg_r hl).1]
    unfold cL
    dsimp only
    rw [uJ_J, if_pos ⟨rfl, rfl⟩, show (10 : Int64) = Int64.ofNat 10 from rfl, an_64, nI_1]
    exact ⟨_, hlt, rfl, rfl, by rw [← a2]; exact (rn_s (by omega) hl).symm⟩
  · right
    have e : k = rn isDg n b p - p := by omega
    subst e
    have e2 : p + (rn isDg n b p - p) = rn isDg n b p := by omega
    have w59 : F_X8_keepDigits_57 38 (nI p) (nI j) (nI (p + (rn isDg n b p - p))) (uJ s 41 j (Int64.ofNat (dn (fun i => b (p + i)) (rn isDg n b p - p)))) = some (nI (p + (rn isDg n b p - p)), uI (uJ s 41 j (Int64.ofNat (dn (fun i => b (p + i)) (rn isDg n b p - p)))) 39 j (nI (if 4 < rn isDg n b p - p then 1 else 3))) := by
      have e84 : ∀ x, F_X8_keepDigits_75 (nI (p + (rn isDg n b p - p))) 39 (nI j) x (uJ s 41 j (Int64.ofNat (dn (fun i => b (p + i)) (rn isDg n b p - p)))) = some (nI (p + (rn isDg n b p - p)), uI (uJ s 41 j (Int64.ofNat (dn (fun i => b (p + i)) (rn isDg n b p - p)))) 39 j x) := fun x => by
        unfold F_X8_keepDigits_75 cL
        rw [cG_t (inb_nI (by rw [show (39 : Nat) = 38 + 1 from rfl, k39]; omega) (by decide)), cl_nI (n := j) (by omega)]
      unfold F_X8_keepDigits_57
      rw [rC_8_0 hT.1 (c := 38) (by decide), show nI (p + (rn isDg n b p - p)) - nI p = nI (rn isDg n b p - p) by rw [pk_sub (by omega)]; exact congrArg nI (by omega)]
      by_cases q : 4 < rn isDg n b p - p
      · rw [if_neg (show ¬ nI (rn isDg n b p - p) ≤ (4 : Int32) from nI_ge (a := 4) q (by omega)), if_pos q]
        exact e84 1
      · rw [if_pos (show nI (rn isDg n b p - p) ≤ (4 : Int32) from nI_le (b := 4) (by omega) (by decide)), if_neg q]
        exact e84 3
    have stop : ¬ (rn isDg n b p < n ∧ isDg (b (rn isDg n b p)) = true) := fun z => by
      have := rn_s z.1 z.2
      rw [e2] at a2
      have := (rn_b (p := isDg) (b := b) (show rn isDg n b p + 1 ≤ n by omega)).1
      omega
    rw [w59]
    rw [e2]
    by_cases q : rn isDg n b p < n
    · rw [if_neg (nI_ge q (by omega)), byteC_eq hT (by omega), if_pos q, Option.bind_some, isDg_C (h.2.2.2.2 _), Option.bind_some, if_neg (fun z => stop ⟨q, z⟩), if_pos rfl]
      rfl
    · rw [if_pos (nI_le (by omega) (by omega))]
      rfl
theorem sigC : ∀ c, c < 256 → (nI c).toUInt32 % 65536 = (nI c).toUInt32 ∧ isC8 ((nI c).toUInt32.toInt32) = true ∧ ((signsIdx ((nI c).toUInt32.toInt32) < 0) ↔ isSg c = false) := by decide +kernel
theorem keep_eq {n p j : Nat} {b : Nat → Nat} {s : hSt} (h : TpC n b s) (hp : p ≤ n) (hj : j < 401) : F_X8_keep 38 1 (nI p) (nI j) s = some (nI (tkN n b p), uI (uJ s 41 j (tkV n b p)) 39 j (nI (tkK n b p))) := by
  have hn := h.2.2.1
  have h0 : TpC n b (uJ s 41 j 0) := TpC_fr h rfl rfl rfl
  unfold F_X8_keep
  rw [byteC_eq h (by omega), Option.bind_some, rC_8_2 h.1 (c := 38) (by decide), cG_t (inb_nI (by rw [k41]; omega) (by decide)), cl_nI (n := j) (by omega), show (38 + 3 : Nat) = 41 from rfl]
  unfold cL
  dsimp only
  unfold tkN tkV tkK
  by_cases q : p < n
  · have hc := h.2.2.2.2 p
    rw [if_pos q, if_neg (show ¬ nI (b p) = -1 from fun z => nI_pos (n := b p) (by omega) (by rw [z]; decide)), if_neg (show ¬ n ≤ p by omega), if_neg (show ¬ n ≤ p by omega), if_neg (show ¬ n ≤ p by omega), isLt_C hc, Option.bind_some]
    by_cases r : isLt (b p) = true
    · rw [if_pos r, if_neg ne_10, if_pos r, if_pos r, if_pos r, keepL_eq h q hj]
      rfl
    · rw [if_neg r, if_pos rfl, if_neg r, if_neg r, if_neg r, isDg_C hc, Option.bind_some]
      by_cases t : isDg (b p) = true
      · rw [if_pos t, if_neg ne_10, if_pos t, if_pos t, if_pos t, keepD_eq h q hj]
        rfl
      · obtain ⟨c1, c2, c3⟩ := sigC (b p) hc
        have e83 : ∀ x, F_X8_keep_83 (nI p) 39 (nI j) x (uJ s 41 j 0) = some (nI (p + 1), uI (uJ s 41 j 0) 39 j x) := fun x => by
          unfold F_X8_keep_83 cL
          rw [cG_t (inb_nI (by rw [show (39 : Nat) = 38 + 1 from rfl, k39]; omega) (by decide)), cl_nI (n := j) (by omega), nI_1]
        rw [if_neg t, if_pos rfl, if_neg t, if_neg t, if_neg t, rC_8_0 h0.1 (c := 38) (by decide), c1, cG_t c2, show (38 + 1 : Nat) = 39 from rfl]
        by_cases u : isSg (b p) = true
        · rw [if_neg (fun z => by rw [c3.mp z] at u; cases u), if_pos u]
          exact e83 _
        · rw [if_pos (c3.mpr (by simpa using u)), if_neg u]
          exact e83 1
  · have : p = n := by omega
    subst this
    rw [if_neg q, if_pos (show (-1 : Int32) = -1 from rfl), if_pos (Nat.le_refl _), if_pos (Nat.le_refl _), if_pos (Nat.le_refl _), rC_8_0 h0.1 (c := 38) (by decide), cG_t (inb_nI (by rw [k39]; omega) (by decide))]
    rfl
/-- the tokens, in the class -/
def TkC (n : Nat) (b : Nat → Nat) (c : Nat) (s : hSt) : Prop := ∀ i, i < c → s.1 39 i = nI (tkK n b (tkP n b i)) ∧ s.1 40 i = nI (tkP n b i) ∧ s.2.1 41 i = tkV n b (tkP n b i)
theorem split_eq {n : Nat} {b : Nat → Nat} {σ : hSt} (h : TpC n b σ) : ∃ s, F_X8_split 38 1 σ = some s ∧ s.2.2 = σ.2.2 ∧ (∀ k, k ≠ 39 → k ≠ 40 → s.1 k = σ.1 k) ∧ (∀ k, k ≠ 41 → s.2.1 k = σ.2.1 k) ∧ TkC n b 401 s := by
  have hn := h.2.2.1
  unfold F_X8_split F_X8_split_4
  refine lp_go 401 (by rw [fuel_v]; decide) (fun j w => ∃ at0 s, w = (nI at0, nI j, s) ∧ at0 ≤ n ∧ rn isBl n b at0 = tkP n b j ∧ s.2.2 = σ.2.2 ∧ (∀ k, k ≠ 39 → k ≠ 40 → s.1 k = σ.1 k) ∧ (∀ k, k ≠ 41 → s.2.1 k = σ.2.1 k) ∧ TkC n b j s) _ ⟨0, σ, rfl, Nat.zero_le _, rfl, rfl, fun _ _ _ => rfl, fun _ _ => rfl, fun i q => absurd q (by omega)⟩ (fun j w hj hw => ?_)
  obtain ⟨at0, s, a1, a2, a3, a4, a5, a6, a7⟩ := hw
  subst a1
  unfold S_X8_split_4 F_X8_split_4b
  dsimp only
  have hs : TpC n b s := TpC_fr h a4 (a5 1 (by decide) (by decide)) (a5 2 (by decide) (by decide))
  by_cases hlt : j < 401
  · left
    have hle := tkP_le (n := n) (b := b) j
    have hs2 : TpC n b (uI s 40 j (nI (tkP n b j))) := TpC_fr hs rfl (uI_row _ _ (by decide)) (uI_row _ _ (by decide))
    rw [if_neg (show ¬ (401 : Int32) ≤ nI j from nI_ge (b := 401) hlt (by decide)), pastBl_eq hs a2, Option.bind_some, a3, rC_8_1 hs.1 (c := 38) (by decide), cG_t (inb_nI (by rw [k40]; omega) (by decide)), cl_nI (n := j) (by omega), show (38 + 2 : Nat) = 40 from rfl]
    unfold cL
    dsimp only
    rw [cC_t (keep_eq hs2 hle hlt), nI_1]
    refine ⟨_, hlt, rfl, tkN n b (tkP n b j), _, rfl, (tkN_le hle).2, rfl, a4, fun k p q => ?_, fun k p => ?_, fun i hi => ?_⟩
    · rw [uI_row _ _ p, uJ_I1, uI_row _ _ q]
      exact a5 k p q
    · refine Eq.trans ?_ (a6 k p)
      funext i
      show (uJ (uI s 40 j (nI (tkP n b j))) 41 j (tkV n b (tkP n b j))).2.1 k i = s.2.1 k i
      rw [uJ_J, if_neg (fun z => p z.1)]
      rfl
    · have e2 : (uI (uJ (uI s 40 j (nI (tkP n b j))) 41 j (tkV n b (tkP n b j))) 39 j (nI (tkK n b (tkP n b j)))).2.1 41 i = if i = j then tkV n b (tkP n b j) else s.2.1 41 i := by
        show (uJ (uI s 40 j (nI (tkP n b j))) 41 j (tkV n b (tkP n b j))).2.1 41 i = _
        rw [uJ_J]
        by_cases q : i = j
        · rw [if_pos ⟨rfl, q⟩, if_pos q]
        · rw [if_neg (fun z => q z.2), if_neg q]
          rfl
      rw [e2]
      by_cases q : i = j
      · subst q
        rw [uI_I, if_pos ⟨rfl, rfl⟩, uI_row _ _ (by decide), uJ_I1, uI_I, if_pos ⟨rfl, rfl⟩, if_pos rfl]
        exact ⟨rfl, rfl, rfl⟩
      · rw [uI_ne _ _ (fun z => q z.2), uJ_I1, uI_row _ _ (by decide), uI_row _ _ (by decide), uJ_I1, uI_ne _ _ (fun z => q z.2), if_neg q]
        exact a7 i (by omega)
  · right
    have : j = 401 := by omega
    subst this
    rw [if_pos (show (401 : Int32) ≤ nI 401 by decide)]
    exact ⟨s, rfl, a4, a5, a6, a7⟩
