/-! ===== PURE 28: the law as branches; its value in the class ===== -/
abbrev Ops : Type := List (Nat × Int32)
def val1 : Option (List Int32) → Int32
  | some (x :: _) => x
  | _ => 0
/-- the law's value: tests and terms, then the last term -/
def lawV (V : Nat → Int32) : List (Ops × Ops × Ops) → Ops → Int32
  | [], z => val1 (opsS V z [])
  | q :: bs, z => match opsS V q.1 [], opsS V q.2.1 [] with
    | some (x :: _), some (y :: _) => if x < y then val1 (opsS V q.2.2 []) else lawV V bs z
    | _, _ => 0
theorem opsS_rest {V : Nat → Int32} {D : Nat} : ∀ (os : Ops) (st rest : List Int32) (n : Nat), opsOk D os st.length n → opsS V os (st ++ rest) = (opsS V os st).map (fun x => x ++ rest)
  | [], _, _, _, _ => rfl
  | (kd, x) :: os, st, rest, n, hk => by
    unfold opsOk at hk
    dsimp only at hk
    by_cases h2 : kd < 2
    · rw [if_pos h2] at hk
      rcases (show kd = 0 ∨ kd = 1 by omega) with q | q <;> subst q
      · exact opsS_rest os (x :: st) rest n hk.2
      · exact opsS_rest os (V (x.toNatClampNeg % 6) :: st) rest n hk.2
    · rw [if_neg h2] at hk
      obtain ⟨h6, hk2, hk3⟩ := hk
      match st, hk2, hk3 with
      | y :: w :: st, _, hk3 =>
        rcases (show kd = 2 ∨ kd = 3 ∨ kd = 4 ∨ kd = 5 by omega) with q | q | q | q <;> subst q
        · exact opsS_rest os ((w + y) :: st) rest n hk3
        · exact opsS_rest os ((w - y) :: st) rest n hk3
        · exact opsS_rest os ((w * y) :: st) rest n hk3
        · show ((if y = 0 then none else some ((w / y) :: (st ++ rest))) : Option (List Int32)).bind (opsS V os) = (((if y = 0 then none else some ((w / y) :: st)) : Option (List Int32)).bind (opsS V os)).map _
          by_cases hy : y = 0
          · rw [if_pos hy, if_pos hy]; rfl
          · rw [if_neg hy, if_neg hy]
            exact opsS_rest os ((w / y) :: st) rest n hk3
theorem opsS_len {V : Nat → Int32} {D : Nat} : ∀ (os : Ops) (st st' : List Int32) (n : Nat), opsOk D os st.length n → opsS V os st = some st' → st'.length = n
  | [], _, _, _, hk, h => by cases h; exact hk
  | (kd, x) :: os, st, st', n, hk, h => by
    unfold opsOk at hk
    dsimp only at hk
    by_cases h2 : kd < 2
    · rw [if_pos h2] at hk
      rcases (show kd = 0 ∨ kd = 1 by omega) with q | q <;> subst q
      · exact opsS_len os (x :: st) st' n hk.2 h
      · exact opsS_len os (V (x.toNatClampNeg % 6) :: st) st' n hk.2 h
    · rw [if_neg h2] at hk
      obtain ⟨h6, hk2, hk3⟩ := hk
      match st, hk2, hk3, h with
      | y :: w :: st, _, hk3, h =>
        rcases (show kd = 2 ∨ kd = 3 ∨ kd = 4 ∨ kd = 5 by omega) with q | q | q | q <;> subst q
        · exact opsS_len os ((w + y) :: st) st' n hk3 h
        · exact opsS_len os ((w - y) :: st) st' n hk3 h
        · exact opsS_len os ((w * y) :: st) st' n hk3 h
        · have h : ((if y = 0 then none else some ((w / y) :: st)) : Option (List Int32)).bind (opsS V os) = some st' := h
          by_cases hy : y = 0
          · rw [if_pos hy] at h; cases h
          · rw [if_neg hy] at h
            exact opsS_len os ((w / y) :: st) st' n hk3 h
/-- a term's value is one, or none -/
theorem opsS_one {V : Nat → Int32} {D : Nat} {os : Ops} (hk : opsOk D os 0 1) : opsS V os [] = none ∨ ∃ v, opsS V os [] = some [v] := by
  cases h : opsS V os [] with
  | none => exact Or.inl rfl
  | some st' =>
    have := opsS_len os [] st' 1 hk h
    match st', this with
    | [v], _ => exact Or.inr ⟨v, rfl⟩
/-- the law in the class's cells from a on -/
def cLaw (C : Nat → Int32) (L : Nat) : Nat → List (Ops × Ops × Ops) → Ops → Prop
  | a, [], z => cOps C a z ∧ C (a + z.length) = -59 ∧ a + z.length + 1 ≤ L ∧ opsOk 16 z 0 1
  | a, q :: bs, z => cOps C a q.1 ∧ cOps C (a + q.1.length) q.2.1 ∧ C (a + q.1.length + q.2.1.length) = -60 ∧ C (a + q.1.length + q.2.1.length + 1) = nI (a + q.1.length + q.2.1.length + 2 + q.2.2.length + 1) ∧
    cOps C (a + q.1.length + q.2.1.length + 2) q.2.2 ∧ C (a + q.1.length + q.2.1.length + 2 + q.2.2.length) = -59 ∧ (opsOk 16 q.1 0 1 ∧ opsOk 16 q.2.1 0 1 ∧ opsOk 16 q.2.2 0 1) ∧ a + q.1.length + q.2.1.length + 2 + q.2.2.length + 1 ≤ L ∧ cLaw C L (a + q.1.length + q.2.1.length + 2 + q.2.2.length + 1) bs z
section VL
variable {σ : hSt} {c v L : Nat}
theorem valC_end {a s k : Nat} {f : Nat → Int32} (hP : HC σ.2.2) (hc : okr kC NC 0 c = true) (hL : σ.1 c 2 = nI L) (hL4 : L ≤ 401) (ha : a < L) (hs : s < L) (hk : k < 31) (e : σ.1 (c + 1) a = -59) :
    S_X0_value_9 c v (nI a, nI s, stC σ c f (k + 1)) = some (.inr (f k, stC σ c f k)) := by
  rw [valC_head hP hc hL hL4 ha hs, e, if_pos (by decide), if_pos (by decide)]
  unfold F_X0_value_93
  rw [if_pos rfl, cC_t (popC hP hc (by omega))]
theorem valC_term (hP : HC σ.2.2) (hc : okr kC NC 0 c = true) (hL : σ.1 c 2 = nI L) (hL4 : L ≤ 401) (hv : (kC v).2 = 6) (hvc : v ≠ c ∧ v ≠ c + 2) {os : Ops} {a s N : Nat} {f : Nat → Int32} (ho : cOps (σ.1 (c + 1)) a os) (h59 : σ.1 (c + 1) (a + os.length) = -59) (hl : a + os.length + 1 ≤ L) (hk : opsOk 16 os 0 1) (hs : s ≤ a) (hN : L < a + N) :
    ∃ f' k', lp (S_X0_value_9 c v) N (nI a, nI s, stC σ c f 0) = some (val1 (opsS (σ.1 v) os []), stC σ c f' k') := by
  obtain ⟨N', e⟩ : ∃ N', N = (N' + 1) + os.length := ⟨N - 1 - os.length, by omega⟩
  subst e
  obtain ⟨g1, g2⟩ := valC_ops hP hc hL hL4 hv hvc os (N' + 1) 1 a s [] f (by omega) hs ho (opsOk_mono (by decide) os 0 1 hk) (by decide) trivial
  rcases opsS_one (V := σ.1 v) hk with h | ⟨x, h⟩
  · obtain ⟨f', k', q⟩ := g2 h
    exact ⟨f', k', by rw [h]; exact q⟩
  · obtain ⟨f', q1, q2, q3⟩ := g1 _ h
    refine ⟨f', 0, ?_⟩
    rw [h]
    refine q3.trans ?_
    rw [lp_inr (valC_end hP hc hL hL4 (by omega) (by omega) (by decide) h59)]
    rw [show f' 0 = x from q1.1]
    rfl
theorem valC_law (hP : HC σ.2.2) (hc : okr kC NC 0 c = true) (hL : σ.1 c 2 = nI L) (hL4 : L ≤ 401) (hv : (kC v).2 = 6) (hvc : v ≠ c ∧ v ≠ c + 2) :
    ∀ (bs : List (Ops × Ops × Ops)) (z : Ops) (a s N : Nat) (f : Nat → Int32), cLaw (σ.1 (c + 1)) L a bs z → s ≤ a → L < a + N → ∃ f' k', lp (S_X0_value_9 c v) N (nI a, nI s, stC σ c f 0) = some (lawV (σ.1 v) bs z, stC σ c f' k')
  | [], z, a, s, N, f, h, hs, hN => valC_term hP hc hL hL4 hv hvc h.1 h.2.1 h.2.2.1 h.2.2.2 hs hN
  | (l, r, t) :: bs, z, a, s, N, f, h, hs, hN => by
    obtain ⟨h1, h2, h3, h4, h5, h6, ⟨k1, k2, k3⟩, h7, h8⟩ := h
    dsimp only at h1 h2 h3 h4 h5 h6 k1 k2 k3 h7 h8
    obtain ⟨N1, e⟩ : ∃ N1, N = N1 + l.length := ⟨N - l.length, by omega⟩
    subst e
    obtain ⟨g1, g2⟩ := valC_ops hP hc hL hL4 hv hvc l N1 1 a s [] f (by omega) hs h1 (opsOk_mono (by decide) l 0 1 k1) (by decide) trivial
    rcases opsS_one (V := σ.1 v) k1 with q | ⟨x, q⟩
    · obtain ⟨f', k', p⟩ := g2 q
      refine ⟨f', k', ?_⟩
      unfold lawV
      dsimp only
      rw [q]
      exact p
    · obtain ⟨f1, p1, p2, p3⟩ := g1 _ q
      obtain ⟨N2, e⟩ : ∃ N2, N1 = (N2 + 1) + r.length := ⟨N1 - 1 - r.length, by omega⟩
      subst e
      obtain ⟨g3, g4⟩ := valC_ops hP hc hL hL4 hv hvc r (N2 + 1) 2 (a + l.length) (s + l.length) [x] f1 (by omega) (by omega) h2 (opsOk_sh (D := 16) (D' := 32) (b := 1) (by decide) r 0 1 k2) (show 1 ≤ 32 by decide) p1
      have g3 : ∀ st', opsS (σ.1 v) r [x] = some st' → ∃ f', PL f' st' ∧ st'.length = 2 ∧ lp (S_X0_value_9 c v) (N2 + 1 + r.length) (nI (a + l.length), nI (s + l.length), stC σ c f1 1) = lp (S_X0_value_9 c v) (N2 + 1) (nI (a + l.length + r.length), nI (s + l.length + r.length), stC σ c f' 2) := g3
      have g4 : opsS (σ.1 v) r [x] = none → ∃ f' k', lp (S_X0_value_9 c v) (N2 + 1 + r.length) (nI (a + l.length), nI (s + l.length), stC σ c f1 1) = some (0, stC σ c f' k') := g4
      have e0 : opsS (σ.1 v) r [x] = (opsS (σ.1 v) r []).map (fun y => y ++ [x]) := opsS_rest r [] [x] 1 k2
      rcases opsS_one (V := σ.1 v) k2 with q2 | ⟨y, q2⟩
      · obtain ⟨f', k', p⟩ := g4 (by rw [e0, q2]; rfl)
        refine ⟨f', k', ?_⟩
        rw [show lp (S_X0_value_9 c v) (N2 + 1 + r.length + l.length) (nI a, nI s, stC σ c f 0) = _ from p3]
        unfold lawV
        dsimp only
        rw [q, q2]
        exact p
      · obtain ⟨f2, w1, w2, w3⟩ := g3 [y, x] (by rw [e0, q2]; rfl)
        have fy : f2 1 = y := w1.1
        have fx : f2 0 = x := w1.2.1
        have hd := valC_head (a := a + l.length + r.length) (s := s + l.length + r.length) (k := 2) (f := f2) (v := v) hP hc hL hL4 (by omega) (by omega)
        rw [h3, if_pos (by decide), if_pos (by decide), valC_two (k := 0) hP hc (by decide) (by decide), if_pos rfl, fx, fy] at hd
        rw [show lp (S_X0_value_9 c v) (N2 + 1 + r.length + l.length) (nI a, nI s, stC σ c f 0) = _ from p3, w3]
        unfold lawV
        dsimp only
        rw [q, q2]
        dsimp only
        by_cases hxy : x < y
        · rw [if_pos hxy] at hd ⊢
          have hd2 : S_X0_value_9 c v (nI (a + l.length + r.length), nI (s + l.length + r.length), stC σ c f2 2) = some (.inl (nI (a + l.length + r.length + 2), nI (s + l.length + r.length + 1), stC σ c f2 0)) := by
            rw [hd]
            unfold F_X0_value_138 F_X0_value_150 F_X0_value_182 cL
            rw [nI_1, nI_1]
          rw [lp_inl hd2]
          exact valC_term hP hc hL hL4 hv hvc h5 h6 h7 k3 (by omega) (by omega)
        · rw [if_neg hxy] at hd ⊢
          have hd2 : S_X0_value_9 c v (nI (a + l.length + r.length), nI (s + l.length + r.length), stC σ c f2 2) = some (.inl (nI (a + l.length + r.length + 2 + t.length + 1), nI (s + l.length + r.length + 1), stC σ c f2 0)) := by
            have hP' : HC (stC σ c f2 0).2.2 := hP
            rw [hd, if_pos (show nI (a + l.length + r.length + 1) < (401 : Int32) from nI_lt (b := 401) (by omega) (by decide)), rC_0_0 hP' hc, cG_t (inb_nI (by rw [nC_0_0 hc]; omega) (by rw [nC_0_0 hc]; decide)), cl_nI (by omega), stC_o (by omega) (by omega), h4]
            unfold F_X0_value_150 F_X0_value_182 cL
            rw [nI_1]
          rw [lp_inl hd2]
          exact valC_law hP hc hL hL4 hv hvc bs z _ _ N2 f2 h8 (by omega) (by omega)
theorem valC_eq (hP : HC σ.2.2) (hc : okr kC NC 0 c = true) (hL : σ.1 c 2 = nI L) (hL4 : L ≤ 401) (hv : (kC v).2 = 6) (hvc : v ≠ c ∧ v ≠ c + 2) {bs : List (Ops × Ops × Ops)} {z : Ops} (h : cLaw (σ.1 (c + 1)) L 0 bs z) :
    ∃ f' k', F_X0_value c v σ = some (lawV (σ.1 v) bs z, stC σ c f' k') := by
  have e : uI σ c 3 0 = stC σ c (σ.1 (c + 2)) 0 := by
    unfold stC
    rw [uA_self]
    rfl
  unfold F_X0_value cL
  rw [e]
  exact valC_law hP hc hL hL4 hv hvc bs z 0 0 fuel _ h (Nat.le_refl _) (by rw [fuel_v]; omega)
end VL
