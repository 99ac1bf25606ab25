/-! ===== PURE 36: the world ahead is kept, in both ===== -/
/-- the model's working row: now's row, how, silent -/
def cpS (τ : hSt) (how sil : Int32) : hSt := uI (uI (uA τ 37 (cpR 380 (τ.1 36) (τ.1 37))) 0 55 how) 0 56 sil
theorem cpS_2 {τ : hSt} {how sil : Int32} : (cpS τ how sil).2 = τ.2 := rfl
theorem cpS_37 {τ : hSt} {how sil : Int32} : (cpS τ how sil).1 37 = cpR 380 (τ.1 36) (τ.1 37) := by
  unfold cpS
  rw [uI_row _ _ (by decide), uI_row _ _ (by decide)]
  funext j
  exact uA_own _ _ _ _
theorem cpS_55 {τ : hSt} {how sil : Int32} : (cpS τ how sil).1 0 55 = how := by
  unfold cpS
  rw [uI_ne _ _ (by decide), uI_I, if_pos ⟨rfl, rfl⟩]
theorem cpS_56 {τ : hSt} {how sil : Int32} : (cpS τ how sil).1 0 56 = sil := by
  unfold cpS
  rw [uI_I, if_pos ⟨rfl, rfl⟩]
theorem cpS_fr {τ : hSt} {how sil : Int32} : frM τ (cpS τ how sil) := by
  refine ⟨fun j a b c d => ?_, fun k a b c d e f g i => ?_⟩
  · unfold cpS
    rw [uI_ne _ _ (by omega), uI_ne _ _ (by omega), uA_row _ _ (by decide)]
  · unfold cpS
    rw [uI_row _ _ a, uI_row _ _ a, uA_row _ _ e]
theorem TM_M {li : Nat} {D : TxD} {τ τ' : hSt} (h : TM li D τ) (h2 : τ'.2 = τ.2) (g : frM τ τ') : TM li D τ' := TM_fr h h2 (g.1 18 (by decide) (by decide) (by decide) (by decide)) (fun k a b => g.2 k (by omega) (by omega) (by omega) (by omega) (by omega) (by omega) (by omega) (by omega))
theorem copiesM {li : Nat} {D : TxD} {τ : hSt} (hM : TM li D τ) : F_X12_copies 0 τ = some (cpS τ (nI (tO D)) (-1)) := by
  rw [copies_eq hM.1 hM.2.1.1 hM.2.1.2, hM.2.2.1.2.2.1]
  rfl
theorem okw : ∀ j, j < 40 → okr kC NC 10 (54 + 4 * j) = true := by decide +kernel
theorem oks : ∀ j, j < 3 → okr kC NC 10 (234 + 4 * j) = true := by decide +kernel
theorem rC_w {α : Type} {P : SPt} (h : HC P) {j : Nat} (hj : j < 40) (f : Nat → Option α) : cR (P 53 j) (okr kC NC 10) f = f (54 + 4 * j) := cR_t (h.2.1 j hj) (okw j hj)
theorem rC_s {α : Type} {P : SPt} (h : HC P) {j : Nat} (hj : j < 3) (f : Nat → Option α) : cR (P 214 j) (okr kC NC 10) f = f (234 + 4 * j) := cR_t (h.2.2.1 j hj) (oks j hj)
/-- the class's past with one more -/
def psC (σ : hSt) (s x : Nat) : hSt := uI (uI (cpC (54 + 4 * x) 44 σ) 52 1 (nI ((x + 1) % 40))) 52 2 (nI (if 40 < s + 1 then 40 else s + 1))
theorem push_eq {σ : hSt} {s x : Nat} (hP : HC σ.2.2) (hx : x < 40) (hs : s ≤ 40) (e1 : σ.1 52 1 = nI x) (e2 : σ.1 52 2 = nI s) : F_X2_push 52 44 σ = some (psC σ s x) := by
  have hP' : HC (cpC (54 + 4 * x) 44 σ).2.2 := hP
  unfold F_X2_push cL
  dsimp only
  rw [e1, if_neg (nI_pos (by omega)), if_neg (show ¬ (40 : Int32) ≤ nI x from nI_ge (b := 40) hx (by decide)), rC_2_0 hP (c := 52) (by decide), cG_t (inb_nI (by rw [nC_2_0 (by decide)]; omega) (by rw [nC_2_0 (by decide)]; decide)), cl_nI (by omega), rC_w hP hx, rC_2_0 hP (c := 52) (by decide), cG_t (inb_nI (by rw [nC_2_0 (by decide)]; omega) (by rw [nC_2_0 (by decide)]; decide)), rC_w hP hx, copy_eq hP (okw x hx) (by decide) (by omega)]
  simp only [Option.bind_some]
  rw [cG_t (by decide), cpC_row (by omega), e1, nI_1, show (40 : Int32) = nI 40 from rfl, pk_rem (by omega) (by decide) (by decide), uI_ne _ _ (by omega), cpC_row (by omega), e2, nI_1]
  unfold psC
  by_cases h : 40 < s + 1
  · rw [if_pos (nI_lt h (by omega)), if_pos h]
  · rw [if_neg (nI_nlt (by omega) (by decide)), if_neg h]
theorem psC_row {σ : hSt} {s x k : Nat} (h : k ≠ 52) (h2 : ¬ (54 + 4 * x ≤ k ∧ k < 54 + 4 * x + 4)) : (psC σ s x).1 k = σ.1 k := by
  unfold psC
  rw [uI_row _ _ h, uI_row _ _ h, cpC_row h2]
/-- the model's history shifted, then with one more -/
def shR (n : Nat) (f : Nat → Int32) : Nat → Int32 := fun k => if k < n then f (k + 380) else f k
def apR (s n : Nat) (g f : Nat → Int32) : Nat → Int32 := fun k => if 380 * s ≤ k ∧ k < 380 * s + n then g (k - 380 * s) else f k
theorem apR_0 {s : Nat} {g f : Nat → Int32} : apR s 0 g f = f := funext fun k => if_neg (by omega)
theorem apR_s {s n : Nat} {g f : Nat → Int32} : upd (apR s n g f) (380 * s + n) (g n) = apR s (n + 1) g f := by
  funext k
  unfold upd apR
  by_cases h : k = 380 * s + n
  · subst h
    rw [if_pos rfl, if_pos (by omega), show 380 * s + n - 380 * s = n by omega]
  · rw [if_neg h]
    by_cases h2 : 380 * s ≤ k ∧ k < 380 * s + n
    · rw [if_pos h2, if_pos (by omega)]
    · rw [if_neg h2, if_neg (by omega)]
theorem shR_0 {f : Nat → Int32} : shR 0 f = f := funext fun k => if_neg (by omega)
theorem shR_s {n : Nat} {f : Nat → Int32} : upd (shR n f) n (f (n + 380)) = shR (n + 1) f := by
  funext k
  unfold upd shR
  by_cases h : k = n
  · subst h
    rw [if_pos rfl, if_pos (by omega)]
  · rw [if_neg h]
    by_cases h2 : k < n
    · rw [if_pos h2, if_pos (by omega)]
    · rw [if_neg h2, if_neg (by omega)]
/-- the model behind keeps -/
def kpM (τ : hSt) (s : Nat) (f : Nat → Int32) : hSt := uA (uI (uA τ 38 (apR s 380 (τ.1 36) f)) 0 57 (nI (s + 1))) 36 (cpR 380 (τ.1 37) (τ.1 36))
theorem keepsM_50 {τ : hSt} {s : Nat} (hP : HM τ.2.2) (hs : s < 40) (e : τ.1 0 57 = nI s) : F_X12_keeps_50 0 τ = some (kpM τ s (τ.1 38)) := by
  unfold F_X12_keeps_50 F_X12_keeps_52
  refine lp_eq 380 (by rw [fuel_v]; decide) (fun i v => v = (nI i, uA τ 38 (apR s i (τ.1 36) (τ.1 38)))) ?_ (fun i v hi hv => ?_)
  · show (_, τ) = (nI 0, uA τ 38 (apR s 0 (τ.1 36) (τ.1 38)))
    rw [apR_0, uA_self]
    rfl
  · subst hv
    have hP' : HM (uA τ 38 (apR s i (τ.1 36) (τ.1 38))).2.2 := hP
    unfold S_X12_keeps_52 F_X12_keeps_52b
    dsimp only
    rw [show (380 : Int32) = nI 380 from rfl]
    by_cases h : i < 380
    · left
      unfold cL
      dsimp only
      rw [if_neg (nI_ge h (by decide)), rM_58 hP', rM_53 hP', cG_t (inb_nI (by rw [kM_36]; omega) (by decide)), uA_oth' _ _ _ (by decide), e, pk_mul, nI_add, cG_t (inb_nI (by rw [kM_38]; omega) (by decide)), cl_nI (by omega), cl_nI (by omega), uA_oth' _ _ _ (by decide), uA_uI, apR_s, nI_1]
      exact ⟨_, h, rfl, rfl⟩
    · right
      have : i = 380 := by omega
      subst this
      unfold cL
      dsimp only
      rw [if_pos (nI_le (Nat.le_refl _) (by decide)), uA_oth' _ _ _ (by decide), e, nI_1, keepsRow_eq (τ := uI (uA τ 38 _) 0 57 _) hP]
      simp only [Option.bind_some]
      unfold kpM
      rw [uI_row _ _ (by decide), uI_row _ _ (by decide), uA_row _ _ (by decide), uA_row _ _ (by decide)]
theorem keepsM_eq {τ : hSt} {s : Nat} (hP : HM τ.2.2) (hs : s ≤ 40) (e : τ.1 0 57 = nI s) : F_X12_keeps 0 τ = some (if s = 40 then kpM (uI (uA τ 38 (shR 14820 (τ.1 38))) 0 57 (nI 39)) 39 (shR 14820 (τ.1 38)) else kpM τ s (τ.1 38)) := by
  unfold F_X12_keeps
  rw [e]
  by_cases h : s = 40
  · subst h
    rw [if_pos (show nI 40 = 40 from rfl), if_pos rfl]
    unfold F_X12_keeps_11
    refine lp_eq 14820 (by rw [fuel_v]; decide) (fun i v => v = (nI i, uA τ 38 (shR i (τ.1 38)))) ?_ (fun i v hi hv => ?_)
    · show (_, τ) = (nI 0, uA τ 38 (shR 0 (τ.1 38)))
      rw [shR_0, uA_self]
      rfl
    · subst hv
      have hP' : HM (uA τ 38 (shR i (τ.1 38))).2.2 := hP
      unfold S_X12_keeps_11 F_X12_keeps_11b
      dsimp only
      rw [show (380 : Int32) = nI 380 from rfl, show (14820 : Int32) = nI 14820 from rfl, nI_add]
      by_cases h : i < 14820
      · left
        unfold cL
        dsimp only
        rw [if_neg (nI_ge h (by decide)), rM_58 hP', rM_58 hP', cG_t (inb_nI (by rw [kM_38]; omega) (by decide)), cG_t (inb_nI (by rw [kM_38]; omega) (by decide)), cl_nI (by omega), cl_nI (by omega), uA_own]
        refine ⟨_, h, rfl, ?_⟩
        rw [nI_1, uA_uI, show shR i (τ.1 38) (i + 380) = τ.1 38 (i + 380) from if_neg (by omega), shR_s]
      · right
        have : i = 14820 := by omega
        subst this
        unfold cL
        dsimp only
        rw [if_pos (nI_le (Nat.le_refl _) (by decide)), uA_oth' _ _ _ (by decide), e, show nI 40 - 1 = nI 39 from rfl, keepsM_50 (τ := uI (uA τ 38 (shR 14820 (τ.1 38))) 0 57 (nI 39)) (s := 39) hP (by decide) (by rw [uI_I, if_pos ⟨rfl, rfl⟩]), uI_row _ _ (by decide)]
        have own : (uA τ 38 (shR 14820 (τ.1 38))).1 38 = shR 14820 (τ.1 38) := funext fun j => uA_own _ _ _ _
        rw [own]
        rfl
  · rw [if_neg (show ¬ nI s = 40 from fun q => h ((nI_eq (b := 40) (by omega) (by decide)).mp q)), if_neg h]
    exact keepsM_50 hP (by omega) e
theorem kpM_36 {τ : hSt} {s : Nat} {f : Nat → Int32} : (kpM τ s f).1 36 = cpR 380 (τ.1 37) (τ.1 36) := by
  unfold kpM
  funext j
  exact uA_own _ _ _ _
theorem kpM_38 {τ : hSt} {s : Nat} {f : Nat → Int32} : (kpM τ s f).1 38 = apR s 380 (τ.1 36) f := by
  unfold kpM
  rw [uA_row _ _ (by decide), uI_row _ _ (by decide)]
  funext j
  exact uA_own _ _ _ _
theorem kpM_57 {τ : hSt} {s : Nat} {f : Nat → Int32} : (kpM τ s f).1 0 57 = nI (s + 1) := by
  unfold kpM
  rw [uA_row _ _ (by decide), uI_I, if_pos ⟨rfl, rfl⟩]
theorem kpM_row {τ : hSt} {s k : Nat} {f : Nat → Int32} (h0 : k ≠ 0) (h1 : k ≠ 36) (h2 : k ≠ 38) : (kpM τ s f).1 k = τ.1 k := by
  unfold kpM
  rw [uA_row _ _ h1, uI_row _ _ h0, uA_row _ _ h2]
theorem kpM_0 {τ : hSt} {s j : Nat} {f : Nat → Int32} (h : j ≠ 57) : (kpM τ s f).1 0 j = τ.1 0 j := by
  unfold kpM
  rw [uA_row _ _ (by decide), uI_ne _ _ (by omega), uA_row _ _ (by decide)]
/-- a thing done, in both: the world ahead goes into the past, now is another -/
theorem done_keep {b b' t li : Nat} {D : TxD} {σ σ0 σ' τ τ0 : hSt} (hD : TXok D) (ht : Rat t σ.2.2) (hR : Rst (tH D) (tM D) b σ τ) (hbb : b ≤ b')
    {s x : Nat} (hs : s ≤ 40) (hx : x < 40) (e1 : σ.1 52 1 = nI x) (e2 : σ.1 52 2 = nI s) (e3 : τ.1 0 57 = nI s)
    (f0 : frC t σ σ0) (f1 : σ'.2.2 = σ.2.2) (f2 : ∀ k, ¬ (t ≤ k ∧ k < t + 17) → ¬ (44 ≤ k ∧ k < 48) → σ'.1 k = (psC σ0 s x).1 k) (hC : TC t D σ')
    (g : frM τ τ0) (g2 : τ0.2.2 = τ.2.2) (hM : TM li D τ0) (hW : WR (tH D) b' σ'.1 44 (τ0.1 37)) :
    ∃ τ', F_X12_keeps 0 τ0 = some τ' ∧ Rr b' σ' τ' ∧ τ'.1 36 120 = τ0.1 37 120 := by
  obtain ⟨h1, h2, h3, ⟨s1, x1, k1, k2, k3, k4, k5, k6⟩, h5, h6⟩ := Rst_mono (Rst_fr hR ht.2 f0 g) hbb
  have ht2 := (Rat_ok ht).2
  have ht3 : 3 ≤ t := by rcases ht.2 with q | q <;> omega
  have e01 : σ0.1 52 1 = nI x := by rw [f0.2 52 (by omega) (by omega) (by omega)]; exact e1
  have e02 : σ0.1 52 2 = nI s := by rw [f0.2 52 (by omega) (by omega) (by omega)]; exact e2
  have e03 : τ0.1 0 57 = nI s := by rw [g.1 57 (by decide) (by decide) (by decide) (by decide)]; exact e3
  have es : s1 = s := (nI_eq (by omega) (by omega)).mp (k3.symm.trans e02)
  have ex : x1 = x := (nI_eq (by omega) (by omega)).mp (k4.symm.trans e01)
  subst es ex
  have F : ∀ k, ¬ (t ≤ k ∧ k < t + 17) → ¬ (44 ≤ k ∧ k < 48) → k ≠ 52 → ¬ (54 + 4 * x1 ≤ k ∧ k < 54 + 4 * x1 + 4) → σ'.1 k = σ0.1 k := fun k a b c d => (f2 k a b).trans (psC_row c d)
  have hnew : ∀ (r : Nat → Int32), (∀ j, j < 380 → r j = τ0.1 36 j) → WR (tH D) b' σ'.1 (54 + 4 * x1) r := fun r hr => by
    have := WR_rowlo (WR_copy (v := 54 + 4 * x1) h3) hr
    refine WR_same this (fun k q1 q2 => ?_)
    rw [f2 k (by omega) (by omega)]
    unfold psC
    rw [uI_row _ _ (by omega), uI_row _ _ (by omega)]
  have hold : ∀ y (r r' : Nat → Int32), y < 40 → y ≠ x1 → WR (tH D) b' σ0.1 (54 + 4 * y) r → (∀ j, j < 380 → r' j = r j) → WR (tH D) b' σ'.1 (54 + 4 * y) r' := fun y r r' hy hn hw hr => by
    refine WR_same (WR_rowlo hw hr) (fun k q1 q2 => F k (by omega) (by omega) (by omega) (by omega))
  have p1 : σ'.1 52 1 = nI ((x1 + 1) % 40) := by
    rw [f2 52 (by omega) (by omega)]
    unfold psC
    rw [uI_ne _ _ (by decide), uI_I, if_pos ⟨rfl, rfl⟩]
  have p2 : σ'.1 52 2 = nI (if 40 < s1 + 1 then 40 else s1 + 1) := by
    rw [f2 52 (by omega) (by omega)]
    unfold psC
    rw [uI_I, if_pos ⟨rfl, rfl⟩]
  refine ⟨_, keepsM_eq hM.1 hs e03, ?_, ?_⟩
  · have fin : ∀ τ', τ'.2 = τ0.2 → (∀ k, k ≠ 0 → k ≠ 36 → k ≠ 38 → τ'.1 k = τ0.1 k) → (∀ j, j ≠ 57 → τ'.1 0 j = τ0.1 0 j) → τ'.1 36 = cpR 380 (τ0.1 37) (τ0.1 36) → Rps (tH D) b' σ' τ' → Rr b' σ' τ' := fun τ' a1 a2 a3 a4 a5 => by
      refine ⟨t, li, D, by rw [f1]; exact ht, hD, hC, TM_fr hM a1 (a3 18 (by decide)) (fun k p q => a2 k (by omega) (by omega) (by omega)), ?_, ?_, ?_, a5, ?_, ?_⟩
      · exact Rtp_fr h1 (by rw [F 1 (by omega) (by omega) (by omega) (by omega)]) (F 2 (by omega) (by omega) (by omega) (by omega)) (a3 2 (by decide)) (a2 1 (by decide) (by decide) (by decide))
      · rw [F 0 (by omega) (by omega) (by omega) (by omega), a3 17 (by decide)]; exact h2
      · rw [a4]
        exact WR_rowlo hW (fun j hj => cpR_lo hj)
      · exact Rsl_fr h5 (by rw [F 0 (by omega) (by omega) (by omega) (by omega)]) (fun k p q => F k (by omega) (by omega) (by omega) (by omega)) (a2 45 (by decide) (by decide) (by decide)) (a2 46 (by decide) (by decide) (by decide))
      · exact Rtd_fr h6 (fun k p q => F k (by omega) (by omega) (by omega) (by omega)) (a3 63 (by decide)) (fun k p q => a2 k (by omega) (by omega) (by omega))
    by_cases h40 : s1 = 40
    · subst h40
      rw [if_pos rfl]
      have b1 : ∀ k, k ≠ 0 → k ≠ 38 → (uI (uA τ0 38 (shR 14820 (τ0.1 38))) 0 57 (nI 39)).1 k = τ0.1 k := fun k p q => by rw [uI_row _ _ p, uA_row _ _ q]
      refine fin _ rfl (fun k p q r => (kpM_row p q r).trans (b1 k p r)) (fun j hj => ?_) ?_ ⟨40, (x1 + 1) % 40, by omega, by omega, p2, p1, kpM_57, fun j hj => ?_⟩
      · rw [kpM_0 hj, uI_ne _ _ (by omega), uA_row _ _ (by decide)]
      · rw [kpM_36, b1 37 (by decide) (by decide), b1 36 (by decide) (by decide)]
      · rw [kpM_38, b1 36 (by decide) (by decide)]
        by_cases h39 : j = 39
        · subst h39
          rw [show ((x1 + 1) % 40 + 40 - 40 + 39) % 40 = x1 by omega]
          exact hnew _ (fun i hi => by
            show apR 39 380 (τ0.1 36) (shR 14820 (τ0.1 38)) (380 * 39 + i) = τ0.1 36 i
            unfold apR
            rw [if_pos (by omega), show 380 * 39 + i - 380 * 39 = i by omega])
        · rw [show ((x1 + 1) % 40 + 40 - 40 + j) % 40 = (x1 + 40 - 40 + (j + 1)) % 40 by omega]
          exact hold _ _ _ (by omega) (by omega) (k6 (j + 1) (by omega)) (fun i hi => by
            show apR 39 380 (τ0.1 36) (shR 14820 (τ0.1 38)) (380 * j + i) = τ0.1 38 (380 * (j + 1) + i)
            unfold apR shR
            rw [if_neg (by omega), if_pos (by omega), show 380 * j + i + 380 = 380 * (j + 1) + i by omega])
    · rw [if_neg h40]
      have p2' : σ'.1 52 2 = nI (s1 + 1) := by rw [p2, if_neg (by omega)]
      refine fin _ rfl (fun k p q r => kpM_row p q r) (fun j hj => kpM_0 hj) kpM_36 ⟨s1 + 1, (x1 + 1) % 40, by omega, by omega, p2', p1, kpM_57, fun j hj => ?_⟩
      rw [kpM_38]
      by_cases hjs : j = s1
      · subst hjs
        rw [show ((x1 + 1) % 40 + 40 - (j + 1) + j) % 40 = x1 by omega]
        exact hnew _ (fun i hi => by
          show apR j 380 (τ0.1 36) (τ0.1 38) (380 * j + i) = τ0.1 36 i
          unfold apR
          rw [if_pos (by omega), show 380 * j + i - 380 * j = i by omega])
      · rw [show ((x1 + 1) % 40 + 40 - (s1 + 1) + j) % 40 = (x1 + 40 - s1 + j) % 40 by omega]
        exact hold _ _ _ (by omega) (by omega) (k6 j (by omega)) (fun i hi => by
          show apR s1 380 (τ0.1 36) (τ0.1 38) (380 * j + i) = τ0.1 38 (380 * j + i)
          unfold apR
          rw [if_neg (by omega)])
  · by_cases h40 : s1 = 40
    · subst h40
      rw [if_pos rfl, kpM_36, cpR_lo (by decide), uI_row _ _ (by decide), uA_row _ _ (by decide)]
    · rw [if_neg h40, kpM_36, cpR_lo (by decide)]
