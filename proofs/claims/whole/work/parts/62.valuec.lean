/-! ===== PURE 27: the law's value in the class ===== -/
/-- the class's law with the stack f of k -/
def stC (σ : hSt) (c : Nat) (f : Nat → Int32) (k : Nat) : hSt := uI (uA σ (c + 2) f) c 3 (nI k)
theorem stC_2 {σ : hSt} {c k : Nat} {f : Nat → Int32} : (stC σ c f k).2 = σ.2 := rfl
theorem stC_3 {σ : hSt} {c k : Nat} {f : Nat → Int32} : (stC σ c f k).1 c 3 = nI k := by
  unfold stC
  rw [uI_I, if_pos ⟨rfl, rfl⟩]
theorem stC_s {σ : hSt} {c k j : Nat} {f : Nat → Int32} : (stC σ c f k).1 (c + 2) j = f j := by
  unfold stC
  rw [uI_ne _ _ (by omega), uA_own]
theorem stC_o {σ : hSt} {c k c' j : Nat} {f : Nat → Int32} (h1 : c' ≠ c + 2) (h2 : ¬ (c' = c ∧ j = 3)) : (stC σ c f k).1 c' j = σ.1 c' j := by
  unfold stC
  rw [uI_ne _ _ (by omega), uA_oth' _ _ _ h1]
theorem stC_push {σ : hSt} {c k : Nat} {f : Nat → Int32} {v x : Int32} : uI (uI (stC σ c f k) (c + 2) k v) c 3 x = uI (uA σ (c + 2) (upd f k v)) c 3 x := by
  unfold stC uI uA up2 upd
  refine Prod.ext ?_ rfl
  funext c' k'
  dsimp only
  by_cases h1 : c' = c ∧ k' = 3
  · rw [if_pos h1, if_pos h1]
  · rw [if_neg h1, if_neg h1]
    by_cases h2 : c' = c + 2
    · subst h2
      by_cases h3 : k' = k
      · subst h3; simp
      · simp [h3]
    · simp [h2, h1]
theorem stC_pop {σ : hSt} {c k : Nat} {f : Nat → Int32} {x : Int32} : uI (stC σ c f k) c 3 x = uI (uA σ (c + 2) f) c 3 x := by
  unfold stC uI uA up2
  refine Prod.ext ?_ rfl
  funext c' k'
  dsimp only
  by_cases h1 : c' = c ∧ k' = 3
  · rw [if_pos h1, if_pos h1]
  · rw [if_neg h1, if_neg h1, if_neg h1]
theorem pushC {σ : hSt} {c k : Nat} {f : Nat → Int32} {v : Int32} (hP : HC σ.2.2) (hc : okr kC NC 0 c = true) (hk : k < 32) : F_X0_push c v (stC σ c f k) = some (stC σ c (upd f k v) (k + 1)) := by
  have hP' : HC (stC σ c f k).2.2 := hP
  unfold F_X0_push cL
  dsimp only
  rw [stC_3, if_neg (nI_pos (by omega)), if_neg (show ¬ (32 : Int32) ≤ nI k from nI_ge (b := 32) hk (by decide)), rC_0_1 hP' hc, cG_t (inb_nI (by rw [nC_0_1 hc]; omega) (by rw [nC_0_1 hc]; decide)), cl_nI (by omega), uI_ne _ _ (by omega), stC_3, nI_1, stC_push]
  rfl
theorem popC {σ : hSt} {c k : Nat} {f : Nat → Int32} (hP : HC σ.2.2) (hc : okr kC NC 0 c = true) (hk : k < 32) : F_X0_pop c (stC σ c f (k + 1)) = some (f k, stC σ c f k) := by
  have hP' : HC (uI (stC σ c f (k + 1)) c 3 (nI k)).2.2 := hP
  unfold F_X0_pop cL
  dsimp only
  rw [stC_3, if_neg (nI_nle (by omega) (by omega)), if_pos (show nI (k + 1) ≤ (32 : Int32) from nI_le (b := 32) (by omega) (by decide)), nI_pred, rC_0_1 hP' hc, uI_I, if_pos ⟨rfl, rfl⟩, cG_t (inb_nI (by rw [nC_0_1 hc]; omega) (by rw [nC_0_1 hc]; decide)), cl_nI (by omega), uI_ne _ _ (by omega), stC_s, stC_pop]
  rfl
/-- an op as the class keeps it -/
def encO : Nat × Int32 → Int32
  | (0, n) => n
  | (1, i) => -141 - i
  | (2, _) => -43
  | (3, _) => -45
  | (4, _) => -42
  | _ => -47
def cOps (C : Nat → Int32) (a : Nat) : List (Nat × Int32) → Prop
  | [] => True
  | o :: os => C a = encO o ∧ (o.1 = 0 → ¬ o.2 < 0) ∧ (o.1 = 1 → ∃ i, i < 6 ∧ o.2 = nI i) ∧ cOps C (a + 1) os
theorem enc_var : ∀ i, i < 6 → ((-141 - nI i) < 0 ∧ ¬ -141 < (-141 - nI i) ∧ ¬ (-141 - nI i < (-146 : Int32)) ∧ ((-(-141 - nI i)) - (141 : Int32)) = nI i) := by decide +kernel
section VC
variable {σ : hSt} {c v L : Nat}
theorem valC_head {a s k : Nat} {f : Nat → Int32} (hP : HC σ.2.2) (hc : okr kC NC 0 c = true) (hL : σ.1 c 2 = nI L) (hL4 : L ≤ 401) (ha : a < L) (hs : s < L) :
    S_X0_value_9 c v (nI a, nI s, stC σ c f k) = if σ.1 (c + 1) a < 0 then (
      if (-141 : Int32) < σ.1 (c + 1) a then F_X0_value_93 c v (nI (a + 1)) (nI s) (σ.1 (c + 1) a) (stC σ c f k) else (
      if σ.1 (c + 1) a < (-146 : Int32) then F_X0_value_93 c v (nI (a + 1)) (nI s) (σ.1 (c + 1) a) (stC σ c f k) else (
      cG (inb ((-(σ.1 (c + 1) a)) - (141 : Int32)) (kC v).2) <|
      (F_X0_push c ((stC σ c f k).1 v ((-(σ.1 (c + 1) a)) - (141 : Int32)).toNatClampNeg) (stC σ c f k)).bind fun σ23 => F_X0_value_182 c v (nI (a + 1)) (nI s) σ23))) else (
      (F_X0_push c (σ.1 (c + 1) a) (stC σ c f k)).bind fun σ25 => F_X0_value_182 c v (nI (a + 1)) (nI s) σ25) := by
  have hP' : HC (stC σ c f k).2.2 := hP
  unfold S_X0_value_9 F_X0_value_9b cL
  dsimp only
  rw [stC_o (by omega) (by omega), hL, if_neg (nI_ge hs (by omega)), if_neg (nI_pos (by omega)), if_neg (nI_ge ha (by omega)), if_neg (show ¬ (401 : Int32) ≤ nI a from nI_ge (b := 401) (by omega) (by decide)), rC_0_0 hP' hc, cG_t (inb_nI (by rw [nC_0_0 hc]; omega) (by rw [nC_0_0 hc]; decide)), cl_nI (by omega), stC_o (by omega) (by omega), nI_1]
theorem valC_num {a s k : Nat} {f : Nat → Int32} {n : Int32} (hP : HC σ.2.2) (hc : okr kC NC 0 c = true) (hL : σ.1 c 2 = nI L) (hL4 : L ≤ 401) (ha : a < L) (hs : s < L) (hk : k < 32) (e : σ.1 (c + 1) a = n) (hn : ¬ n < 0) :
    S_X0_value_9 c v (nI a, nI s, stC σ c f k) = some (.inl (nI (a + 1), nI (s + 1), stC σ c (upd f k n) (k + 1))) := by
  rw [valC_head hP hc hL hL4 ha hs, e, if_neg hn, pushC hP hc hk]
  unfold F_X0_value_182 cL
  simp only [Option.bind_some]
  rw [nI_1]
theorem valC_var {a s k i : Nat} {f : Nat → Int32} (hP : HC σ.2.2) (hc : okr kC NC 0 c = true) (hL : σ.1 c 2 = nI L) (hL4 : L ≤ 401) (ha : a < L) (hs : s < L) (hk : k < 32) (hi : i < 6) (e : σ.1 (c + 1) a = -141 - nI i) (hv : (kC v).2 = 6) (hvc : v ≠ c ∧ v ≠ c + 2) :
    S_X0_value_9 c v (nI a, nI s, stC σ c f k) = some (.inl (nI (a + 1), nI (s + 1), stC σ c (upd f k (σ.1 v i)) (k + 1))) := by
  obtain ⟨q1, q2, q3, q4⟩ := enc_var i hi
  rw [valC_head hP hc hL hL4 ha hs, e, if_pos q1, if_neg q2, if_neg q3, q4, cG_t (inb_nI (by rw [hv]; omega) (by rw [hv]; decide)), cl_nI (by omega), stC_o hvc.2 (fun q => hvc.1 q.1), pushC hP hc hk]
  unfold F_X0_value_182 cL
  simp only [Option.bind_some]
  rw [nI_1]
/-- the two on top come down -/
theorem valC_two {a s k : Nat} {f : Nat → Int32} {e : Int32} (hP : HC σ.2.2) (hc : okr kC NC 0 c = true) (hk : k < 31) (h59 : e ≠ -59) :
    F_X0_value_93 c v (nI a) (nI s) e (stC σ c f (k + 2)) = (
if e = (-60 : Int32) then (
if (f k) < (f (k + 1)) then (
F_X0_value_138 c v (nI a) (nI s) (stC σ c f k)) else (
if (nI a) < (401 : Int32) then (
cR ((stC σ c f k).2.2 c 0) (okr kC NC 101) fun z12 =>
cG (inb (nI a) (kC z12).2) <|
F_X0_value_150 c v (nI s) ((stC σ c f k).1 z12 (nI a).toNatClampNeg) (stC σ c f k)) else (
F_X0_value_138 c v (nI a) (nI s) (stC σ c f k)))) else (
if e = (-47 : Int32) then (
if (f (k + 1)) = 0 then (
some (.inr (((0 : Int32), (stC σ c f k))))) else (
F_X0_value_168 c v (nI a) (nI s) e (f (k + 1)) (f k) (stC σ c f k))) else (
F_X0_value_168 c v (nI a) (nI s) e (f (k + 1)) (f k) (stC σ c f k)))) := by
  unfold F_X0_value_93
  rw [if_neg h59, cC_t (popC hP hc (by omega)), cC_t (popC hP hc (by omega))]
theorem valC_168 {a s k : Nat} {f : Nat → Int32} {e x y z : Int32} (hP : HC σ.2.2) (hc : okr kC NC 0 c = true) (hk : k < 32) (hj : F_X0_joined (-e) x y (stC σ c f k) = some z) :
    F_X0_value_168 c v (nI a) (nI s) e y x (stC σ c f k) = some (.inl (nI a, nI (s + 1), stC σ c (upd f k z) (k + 1))) := by
  unfold F_X0_value_168
  rw [hj]
  simp only [Option.bind_some]
  rw [pushC hP hc hk]
  unfold F_X0_value_182 cL
  simp only [Option.bind_some]
  rw [nI_1]
theorem valC_op {a s k kd : Nat} {f : Nat → Int32} {x y z w : Int32} (hP : HC σ.2.2) (hc : okr kC NC 0 c = true) (hL : σ.1 c 2 = nI L) (hL4 : L ≤ 401) (ha : a < L) (hs : s < L) (hk : k < 31) (h2 : 2 ≤ kd) (h6 : kd < 6) (e : σ.1 (c + 1) a = encO (kd, w)) (fx : f k = x) (fy : f (k + 1) = y)
    (hz : (kd = 2 ∧ z = x + y) ∨ (kd = 3 ∧ z = x - y) ∨ (kd = 4 ∧ z = x * y) ∨ (kd = 5 ∧ y ≠ 0 ∧ z = x / y)) :
    S_X0_value_9 c v (nI a, nI s, stC σ c f (k + 2)) = some (.inl (nI (a + 1), nI (s + 1), stC σ c (upd f k z) (k + 1))) := by
  rcases hz with ⟨q, e2⟩ | ⟨q, e2⟩ | ⟨q, e2⟩ | ⟨q, q2, e2⟩ <;> subst q
  · rw [valC_head hP hc hL hL4 ha hs, e, show encO (2, w) = -43 from rfl, if_pos (by decide), if_pos (by decide), valC_two hP hc hk (by decide), if_neg (by decide), if_neg (by decide)]
    exact valC_168 hP hc (by omega) (by rw [fx, fy, e2]; rfl)
  · rw [valC_head hP hc hL hL4 ha hs, e, show encO (3, w) = -45 from rfl, if_pos (by decide), if_pos (by decide), valC_two hP hc hk (by decide), if_neg (by decide), if_neg (by decide)]
    exact valC_168 hP hc (by omega) (by rw [fx, fy, e2]; rfl)
  · rw [valC_head hP hc hL hL4 ha hs, e, show encO (4, w) = -42 from rfl, if_pos (by decide), if_pos (by decide), valC_two hP hc hk (by decide), if_neg (by decide), if_neg (by decide)]
    exact valC_168 hP hc (by omega) (by rw [fx, fy, e2]; rfl)
  · rw [valC_head hP hc hL hL4 ha hs, e, show encO (5, w) = -47 from rfl, if_pos (by decide), if_pos (by decide), valC_two hP hc hk (by decide), if_neg (by decide), if_pos rfl, fy, if_neg q2]
    refine valC_168 hP hc (by omega) ?_
    unfold F_X0_joined
    rw [if_neg (by decide), if_neg (by decide), if_neg (by decide), if_neg (by decide)]
    unfold F_X0_joined_44
    rw [if_neg q2, cG_t (by simpa using q2), fx, e2]
    rfl
theorem valC_div {a s k : Nat} {f : Nat → Int32} {w : Int32} (hP : HC σ.2.2) (hc : okr kC NC 0 c = true) (hL : σ.1 c 2 = nI L) (hL4 : L ≤ 401) (ha : a < L) (hs : s < L) (hk : k < 31) (e : σ.1 (c + 1) a = encO (5, w)) (fy : f (k + 1) = 0) :
    S_X0_value_9 c v (nI a, nI s, stC σ c f (k + 2)) = some (.inr (0, stC σ c f k)) := by
  rw [valC_head hP hc hL hL4 ha hs, e, show encO (5, w) = -47 from rfl, if_pos (by decide), if_pos (by decide), valC_two hP hc hk (by decide), if_neg (by decide), if_pos rfl, if_pos fy]
/-- the ops of a term, one after the other -/
theorem valC_ops (hP : HC σ.2.2) (hc : okr kC NC 0 c = true) (hL : σ.1 c 2 = nI L) (hL4 : L ≤ 401) (hv : (kC v).2 = 6) (hvc : v ≠ c ∧ v ≠ c + 2) :
    ∀ (os : List (Nat × Int32)) (N n a s : Nat) (st : List Int32) (f : Nat → Int32), a + os.length ≤ L → s ≤ a → cOps (σ.1 (c + 1)) a os → opsOk 32 os st.length n → st.length ≤ 32 → PL f st →
      (∀ st', opsS (σ.1 v) os st = some st' → ∃ f', PL f' st' ∧ st'.length = n ∧ lp (S_X0_value_9 c v) (N + os.length) (nI a, nI s, stC σ c f st.length) = lp (S_X0_value_9 c v) N (nI (a + os.length), nI (s + os.length), stC σ c f' n)) ∧
      (opsS (σ.1 v) os st = none → ∃ f' k', lp (S_X0_value_9 c v) (N + os.length) (nI a, nI s, stC σ c f st.length) = some (0, stC σ c f' k'))
  | [], N, n, a, s, st, f, _, _, _, hk, _, hf => by
    refine ⟨fun st' h => ?_, fun h => by cases h⟩
    cases h
    exact ⟨f, hf, hk, by rw [show n = st.length from hk.symm]; rfl⟩
  | (kd, x) :: os, N, n, a, s, st, f, hl, hs, hm, hk, hd, hf => by
    have hl' : a + 1 + os.length ≤ L := by simp at hl; omega
    obtain ⟨m1, m2, m3, m4⟩ := hm
    dsimp only at m2 m3
    unfold opsOk at hk
    dsimp only at hk
    have eN : N + ((kd, x) :: os).length = (N + os.length) + 1 := rfl
    have eA : a + ((kd, x) :: os).length = a + 1 + os.length := by simp; omega
    have eS : s + ((kd, x) :: os).length = s + 1 + os.length := by simp; omega
    rw [eN, eA, eS]
    by_cases h2 : kd < 2
    · rw [if_pos h2] at hk
      have go : ∀ z, S_X0_value_9 c v (nI a, nI s, stC σ c f st.length) = some (.inl (nI (a + 1), nI (s + 1), stC σ c (upd f st.length z) (st.length + 1))) → opsS (σ.1 v) ((kd, x) :: os) st = opsS (σ.1 v) os (z :: st) →
          (∀ st', opsS (σ.1 v) ((kd, x) :: os) st = some st' → ∃ f', PL f' st' ∧ st'.length = n ∧ lp (S_X0_value_9 c v) (N + os.length + 1) (nI a, nI s, stC σ c f st.length) = lp (S_X0_value_9 c v) N (nI (a + 1 + os.length), nI (s + 1 + os.length), stC σ c f' n)) ∧
          (opsS (σ.1 v) ((kd, x) :: os) st = none → ∃ f' k', lp (S_X0_value_9 c v) (N + os.length + 1) (nI a, nI s, stC σ c f st.length) = some (0, stC σ c f' k')) := fun z s1 e => by
        rw [lp_inl s1, e]
        exact valC_ops hP hc hL hL4 hv hvc os N n (a + 1) (s + 1) (z :: st) (upd f st.length z) hl' (by omega) m4 hk.2 hk.1 ⟨upd_eq, PL_upd (Nat.le_refl _) hf⟩
      rcases (show kd = 0 ∨ kd = 1 by omega) with q | q
      · subst q
        exact go x (valC_num hP hc hL hL4 (by omega) (by omega) hk.1 m1 (m2 rfl)) rfl
      · subst q
        obtain ⟨i, hi, m5⟩ := m3 rfl
        subst m5
        refine go _ (valC_var hP hc hL hL4 (by omega) (by omega) hk.1 hi m1 hv hvc) ?_
        show opsS (σ.1 v) os (σ.1 v ((nI i).toNatClampNeg % 6) :: st) = _
        rw [cl_nI (by omega), Nat.mod_eq_of_lt hi]
    · rw [if_neg h2] at hk
      obtain ⟨h6, hk2, hk3⟩ := hk
      match st, hk2, hk3, hd, hf with
      | y :: w :: st, _, hk3, hd, hf =>
        obtain ⟨f1, f2, f3⟩ := hf
        have f1 : f (st.length + 1) = y := f1
        have hlen : st.length + 2 ≤ 32 := hd
        have go : ∀ z, S_X0_value_9 c v (nI a, nI s, stC σ c f (st.length + 2)) = some (.inl (nI (a + 1), nI (s + 1), stC σ c (upd f st.length z) (st.length + 1))) → opsS (σ.1 v) ((kd, x) :: os) (y :: w :: st) = opsS (σ.1 v) os (z :: st) →
          (∀ st', opsS (σ.1 v) ((kd, x) :: os) (y :: w :: st) = some st' → ∃ f', PL f' st' ∧ st'.length = n ∧ lp (S_X0_value_9 c v) (N + os.length + 1) (nI a, nI s, stC σ c f (st.length + 2)) = lp (S_X0_value_9 c v) N (nI (a + 1 + os.length), nI (s + 1 + os.length), stC σ c f' n)) ∧
          (opsS (σ.1 v) ((kd, x) :: os) (y :: w :: st) = none → ∃ f' k', lp (S_X0_value_9 c v) (N + os.length + 1) (nI a, nI s, stC σ c f (st.length + 2)) = some (0, stC σ c f' k')) := fun z s1 e => by
          rw [lp_inl s1, e]
          exact valC_ops hP hc hL hL4 hv hvc os N n (a + 1) (s + 1) (z :: st) (upd f st.length z) hl' (by omega) m4 hk3 (by show st.length + 1 ≤ 32; omega) ⟨upd_eq, PL_upd (Nat.le_refl _) f3⟩
        have st1 : ∀ z, ((kd = 2 ∧ z = w + y) ∨ (kd = 3 ∧ z = w - y) ∨ (kd = 4 ∧ z = w * y) ∨ (kd = 5 ∧ y ≠ 0 ∧ z = w / y)) → S_X0_value_9 c v (nI a, nI s, stC σ c f (st.length + 2)) = some (.inl (nI (a + 1), nI (s + 1), stC σ c (upd f st.length z) (st.length + 1))) := fun z hz =>
          valC_op hP hc hL hL4 (by omega) (by omega) (by omega) (by omega) h6 m1 f2 f1 hz
        rcases (show kd = 2 ∨ kd = 3 ∨ kd = 4 ∨ kd = 5 by omega) with q | q | q | q
        · subst q
          exact go (w + y) (st1 _ (Or.inl ⟨rfl, rfl⟩)) rfl
        · subst q
          exact go (w - y) (st1 _ (Or.inr (Or.inl ⟨rfl, rfl⟩))) rfl
        · subst q
          exact go (w * y) (st1 _ (Or.inr (Or.inr (Or.inl ⟨rfl, rfl⟩)))) rfl
        · subst q
          by_cases hy : y = 0
          · have e : opsS (σ.1 v) ((5, x) :: os) (y :: w :: st) = none := by
              show ((if y = 0 then none else some ((w / y) :: st)) : Option (List Int32)).bind _ = none
              rw [if_pos hy]
              rfl
            rw [e]
            refine ⟨fun st' h => (by cases h), fun _ => ⟨f, st.length, lp_inr ?_⟩⟩
            exact valC_div hP hc hL hL4 (by omega) (by omega) (by omega) m1 (by rw [f1, hy])
          · refine go (w / y) (st1 _ (Or.inr (Or.inr (Or.inr ⟨rfl, hy, rfl⟩)))) ?_
            show ((if y = 0 then none else some ((w / y) :: st)) : Option (List Int32)).bind (opsS (σ.1 v) os) = _
            rw [if_neg hy]
            rfl
end VC
