/-! ===== PURE 68: what stays, and what a tell notes ===== -/
def xD1 (D : TxD) (j v : Nat) : TxD := ((fun i => if i = j then v else D.1 i), D.2)
def xD2 (D : TxD) (r j v : Nat) : TxD := (D.1, (fun a i => if a = r ∧ i = j then v else D.2.1 a i), D.2.2)
section KE
variable {t s : Nat} {D D' : TxD} {G G' : Nat → Nat → Int32}
theorem CX_e (h : CX t D G) (e0 : tH D' = tH D) (eX : tX D' = tX D) (eY : tY D' = tY D) (e1 : G' (t + 1) = G (t + 1)) (e2 : G' (t + 2) = G (t + 2)) : CX t D' G' := by
  unfold CX; rw [e0, eX, eY, e1, e2]; exact h
theorem CH_e (h : CH t D G) (e0 : tM D' = tM D) (eX : tHm D' = tHm D) (e1 : G' (t + 3) = G (t + 3)) : CH t D' G' := by
  unfold CH; rw [e0, eX, e1]; exact h
theorem CL_e (h : CL t D G) (eb : tbs D' = tbs D) (ez : tz D' = tz D) (e1 : G' (t + 4) = G (t + 4)) (e2 : G' (t + 5) = G (t + 5)) : CL t D' G' := by
  unfold CL; rw [eb, ez, e1, e2]; exact h
theorem CW_e (h : CW t D G) (e0 : tWn D' = tWn D) (eX : tW D' = tW D) (e1 : G' (t + 7) = G (t + 7)) (e2 : G' (t + 8) = G (t + 8)) : CW t D' G' := by
  unfold CW; rw [e0, eX, e1, e2]; exact h
theorem CF_e (h : CF t D G) (e0 : tFn D' = tFn D) (eX : tF D' = tF D) (e1 : G' (t + 9) = G (t + 9)) (e2 : G' (t + 10) = G (t + 10)) : CF t D' G' := by
  unfold CF; rw [e0, eX, e1, e2]; exact h
theorem CSl_e (h : CSl t D G) (e0 : tS D' = tS D) (eA : tA D' = tA D) (eB : tB D' = tB D) (eD : tD D' = tD D) (e1 : G' (t + 11) = G (t + 11)) (e2 : G' (t + 12) = G (t + 12)) (e3 : G' (t + 13) = G (t + 13)) : CSl t D' G' := by
  unfold CSl; rw [e0, eA, eB, eD, e1, e2, e3]; exact h
theorem MX_e (h : MX s D G) (e0 : tH D' = tH D) (eX : tX D' = tX D) (eY : tY D' = tY D) (e1 : G' 12 = G 12) (e2 : G' 13 = G 13) : MX s D' G' := by
  unfold MX; rw [e0, eX, eY, e1, e2]; exact h
theorem MH_e (h : MH s D G) (e0 : tM D' = tM D) (eX : tHm D' = tHm D) (e1 : G' 15 = G 15) : MH s D' G' := by
  unfold MH; rw [e0, eX, e1]; exact h
theorem ML_e (h : ML s D G) (eb : tbs D' = tbs D) (ez : tz D' = tz D) (e : ∀ c, 23 ≤ c → c ≤ 31 → G' c = G c) : ML s D' G' := by
  obtain ⟨k, x, a1, a2, a3⟩ := h
  refine ⟨k, x, by rw [e 23 (by decide) (by decide)]; exact a1, by rw [e 24 (by decide) (by decide)]; exact a2, ?_⟩
  rw [eb, ez]
  exact a3.imp id (fun q G'' hG => q G'' (fun c i p r p' r' => (hG c i p r p' r').trans (congrFun (e c (by omega) r) i)))
theorem MW_e (h : MW s D G) (e0 : tWn D' = tWn D) (eX : tW D' = tW D) (e1 : G' 16 = G 16) (e2 : G' 17 = G 17) : MW s D' G' := by
  unfold MW; rw [e0, eX, e1, e2]; exact h
theorem MF_e (h : MF s D G) (e0 : tFn D' = tFn D) (eX : tF D' = tF D) (e1 : G' 16 = G 16) (e2 : G' 17 = G 17) : MF s D' G' := by
  unfold MF; rw [e0, eX, e1, e2]; exact h
theorem MS_e (h : MS s D G) (e0 : tS D' = tS D) (eA : tA D' = tA D) (eB : tB D' = tB D) (eD : tD D' = tD D) (e1 : G' 20 = G 20) (e2 : G' 21 = G 21) (e3 : G' 22 = G 22) : MS s D' G' := by
  unfold MS; rw [e0, eA, eB, eD, e1, e2, e3]; exact h
end KE
theorem notesM {k0 N : Nat} {so aw : Int32} {τ : hSt} (hQ : HM τ.2.2) (hk : k0 ≤ 400) (hN : N < 10) (e20 : τ.1 0 20 = nI N) : F_X12_notes 0 (nI k0) so aw τ = some (uI (uI (uI (uJ τ 8 N (τ.2.1 6 k0)) 9 N so) 10 N aw) 0 20 (nI (N + 1))) := by
  have Q1 : HM (uJ τ 8 N (τ.2.1 6 k0)).2.2 := hQ
  have Q2 : HM (uI (uJ τ 8 N (τ.2.1 6 k0)) 9 N so).2.2 := hQ
  have g8 : inb (nI N) (kM 8).2 = true := inb_nI (by rw [kM_8]; omega) (by decide)
  have g9 : inb (nI N) (kM 9).2 = true := inb_nI (by rw [kM_9]; omega) (by decide)
  have g10 : inb (nI N) (kM 10).2 = true := inb_nI (by rw [kM_10]; omega) (by decide)
  have a1 : (uJ τ 8 N (τ.2.1 6 k0)).1 0 20 = nI N := e20
  have a2 : (uI (uJ τ 8 N (τ.2.1 6 k0)) 9 N so).1 0 20 = nI N := by rw [uI_row _ _ (by decide)]; exact e20
  have a3 : (uI (uI (uJ τ 8 N (τ.2.1 6 k0)) 9 N so) 10 N aw).1 0 20 = nI N := by rw [uI_row _ _ (by decide)]; exact a2
  unfold F_X12_notes cL
  dsimp only
  rw [rM_21 hQ, rM_8 hQ, cG_t (inb_nI (by rw [kM_6]; omega) (by decide)), e20, cG_t g8, cl_nI (by omega), cl_nI (by omega), rM_22 Q1, a1, cG_t g9, cl_nI (by omega), rM_23 Q2, a2, cG_t g10, cl_nI (by omega), a3, nI_1]
/-- the class's hill, behind a stop -/
theorem hillC_dead {n t f j H M : Nat} {b : Nat → Nat} {z σ : hSt} {v : Int64} (hg : F_X4_take 37 (nI 128) σ = some (v, z)) (h : DdC n b t f j z) (hP : σ.2.2 37 3 = some t) (hH : H < 6) (hM : M ≤ 4) (eS : σ.1 t 0 = nI H) (eH : z.1 t 0 = nI H) (eM : z.1 t 3 = nI M) :
    ∃ σ', F_X4_parseHill 37 σ = some σ' ∧ DdC n b t f j σ' ∧ frPC t z σ' := by
  have ht := h.2.2.1
  obtain ⟨t1, t2, t3⟩ := t_ok ht
  have w6 : ∀ a, (kC a).2 = 6 → inb (nI H) (kC a).2 = true := fun a e => inb_nI (by rw [e]; exact hH) (by rw [e]; decide)
  have d1 : DdC n b t f j (uJ z 42 H 0) := DdC_e h ⟨rfl, rfl, rfl, rfl, uJ_row _ _ (by decide)⟩
  have d2 : DdC n b t f j (uI (uJ z 42 H 0) (t + 1) H 0) := DdC_e d1 ⟨rfl, uI_row _ _ (by omega), uI_row _ _ (by omega), uI_row _ _ (by omega), rfl⟩
  have d3 : DdC n b t f j (uI (uI (uJ z 42 H 0) (t + 1) H 0) (t + 2) H 0) := DdC_e d2 ⟨rfl, uI_row _ _ (by omega), uI_row _ _ (by omega), uI_row _ _ (by omega), rfl⟩
  have E : F_X4_parseHill 37 σ = some (uI (uI (uI (uJ z 42 H 0) (t + 1) H 0) (t + 2) H 0) t 0 (nI (H + 1))) := by
    unfold F_X4_parseHill cL
    dsimp only
    rw [r37 hP ht, eS, if_pos (show nI H < (6 : Int32) from nI_lt (b := 6) hH (by decide)), show F_X4_take 37 (128 : Int32) σ = F_X4_take 37 (nI 128) σ from rfl, cC_t hg, rC_4_1 h.1 (c := 37) (by decide), cC_t (newD_C h (by omega) hM eH eM), show (37 + 5 : Nat) = 42 from rfl, cG_t (w6 42 k42), cl_nI (by omega)]
    rw [r37 d1.2.1 ht, rC_7_1 d1.1 t1, cC_t (numD_C d1), cG_t (w6 _ (nC_7_1 t1))]
    rw [r37 d2.2.1 ht, rC_7_2 d2.1 t1, cC_t (numD_C d2), cG_t (w6 _ (nC_7_2 t1))]
    rw [r37 d3.2.1 ht, nI_1]
  refine ⟨_, E, DdC_e d3 ⟨rfl, uI_row _ _ (by omega), uI_row _ _ (by omega), uI_row _ _ (by omega), rfl⟩, ?_⟩
  exact frPC_trans (frPC_trans (frPC_trans (frPC_J (Or.inl rfl)) (frPC_I (c := t + 1) (by omega))) (frPC_I (c := t + 2) (by omega))) (frPC_I (c := t) (by omega))
theorem tellC_tail {z : hSt} : F_X4_parseTell_158 37 z = (F_X4_take 37 (nI 59) z).bind fun p => some p.2 := by
  unfold F_X4_parseTell_158
  show cC (F_X4_take 37 (nI 59) z) _ = _
  cases F_X4_take 37 (nI 59) z with
  | none => rfl
  | some p => rfl
theorem tellC_dead {n t f j : Nat} {b : Nat → Nat} {z : hSt} (h : DdC n b t f j z) : F_X4_parseTell_158 37 z = some z := by
  rw [tellC_tail, takeD h]
  rfl
theorem tellC_take {v : Int64} {z z' : hSt} (h : F_X4_take 37 (nI 59) z = some (v, z')) : F_X4_parseTell_158 37 z = some z' := by
  rw [tellC_tail, h]
  rfl
