/-! ===== PURE 55: terms, as a machine; the reader's first steps in the class ===== -/
abbrev Res : Type := (Nat × Ops) ⊕ (Nat × Nat)
def em (s : Nat) : Nat × Int32 := (if s = 43 then 2 else if s = 45 then 3 else if s = 42 then 4 else 5, 0)
abbrev isS (s : Nat) : Prop := s = 42 ∨ s = 47
abbrev isW (s : Nat) : Prop := s = 43 ∨ s = 45
abbrev isU (s : Nat) : Prop := s = 3 ∨ (141 ≤ s ∧ s ≤ 146)
def uOp (K : Nat → Nat) (V : Nat → Int32) (k : Nat) : Nat × Int32 := if K k = 3 then (0, V k) else (1, nI (K k - 141))
def pop (st : Bool) : List Nat → List Nat × Ops
  | [] => ([], [])
  | w :: W => if w = 40 ∨ (st = true ∧ isW w) then (w :: W, []) else ((pop st W).1, em w :: (pop st W).2)
def run (K : Nat → Nat) (V : Nat → Int32) : Nat → Bool → Nat → Nat → List Nat → Ops → Res
  | 0, _, k, _, _, _ => .inr (2, k)
  | f + 1, true, k, d, W, C => if K k = 40 then (if d = 6 ∨ k = 400 then .inr (2, k) else run K V f true (k + 1) (d + 1) (40 :: W) C) else
      if isU (K k) then (if k = 400 then .inr (2, k) else run K V f false (k + 1) d W (C ++ [uOp K V k])) else .inr (1, k)
  | f + 1, false, k, d, W, C => if K k = 41 ∧ 0 < d then (if k = 400 then .inr (2, k) else run K V f false (k + 1) (d - 1) (pop false W).1.tail (C ++ (pop false W).2)) else
      if isS (K k) ∨ isW (K k) then (if k = 400 then .inr (2, k) else run K V f true (k + 1) d (K k :: (pop (decide (isS (K k))) W).1) (C ++ (pop (decide (isS (K k))) W).2)) else
      if 0 < d then .inr (1, k) else .inl (k, C ++ (pop false W).2)
def Rm (K : Nat → Nat) (V : Nat → Int32) (m : Bool) (k d : Nat) (W : List Nat) (C : Ops) : Res := run K V (402 - k) m k d W C
theorem Rm_U {K : Nat → Nat} {V : Nat → Int32} {k d : Nat} {W : List Nat} {C : Ops} (hk : k ≤ 400) : Rm K V true k d W C = if K k = 40 then (if d = 6 ∨ k = 400 then .inr (2, k) else Rm K V true (k + 1) (d + 1) (40 :: W) C) else
      if isU (K k) then (if k = 400 then .inr (2, k) else Rm K V false (k + 1) d W (C ++ [uOp K V k])) else .inr (1, k) := by
  unfold Rm
  rw [show 402 - k = (401 - k) + 1 by omega, show 402 - (k + 1) = 401 - k by omega]
  rfl
theorem Rm_A {K : Nat → Nat} {V : Nat → Int32} {k d : Nat} {W : List Nat} {C : Ops} (hk : k ≤ 400) : Rm K V false k d W C = if K k = 41 ∧ 0 < d then (if k = 400 then .inr (2, k) else Rm K V false (k + 1) (d - 1) (pop false W).1.tail (C ++ (pop false W).2)) else
      if isS (K k) ∨ isW (K k) then (if k = 400 then .inr (2, k) else Rm K V true (k + 1) d (K k :: (pop (decide (isS (K k))) W).1) (C ++ (pop (decide (isS (K k))) W).2)) else
      if 0 < d then .inr (1, k) else .inl (k, C ++ (pop false W).2) := by
  unfold Rm
  rw [show 402 - k = (401 - k) + 1 by omega, show 402 - (k + 1) = 401 - k by omega]
  rfl
theorem pop_nil {st : Bool} : pop st [] = ([], []) := rfl
theorem pop_40 {st : Bool} {W : List Nat} : pop st (40 :: W) = (40 :: W, []) := if_pos (Or.inl rfl)
/-- what is waiting above a floor is put out -/
def flr (st : Bool) (W : List Nat) : Prop := ∀ w W', W = w :: W' → w = 40 ∨ (st = true ∧ isW w)
theorem pop_flr {st : Bool} {W : List Nat} (h : flr st W) : pop st W = (W, []) := by
  cases W with
  | nil => rfl
  | cons w W' => exact if_pos (h w W' rfl)
theorem pop_app {st : Bool} {W : List Nat} (h : flr st W) : ∀ P : List Nat, (∀ w, w ∈ P → ¬ (w = 40 ∨ (st = true ∧ isW w))) → pop st (P ++ W) = (W, P.map em)
  | [], _ => pop_flr h
  | w :: P, hP => by
    have ih := pop_app h P (fun x hx => hP x (List.mem_cons_of_mem _ hx))
    show (if w = 40 ∨ (st = true ∧ isW w) then (w :: (P ++ W), []) else ((pop st (P ++ W)).1, em w :: (pop st (P ++ W)).2)) = _
    rw [if_neg (hP w List.mem_cons_self), ih]
    rfl
/-! the reader in the class -/
noncomputable def KK (n : Nat) (b : Nat → Nat) (j : Nat) : Nat := tkK n b (tkP n b j)
def VV (n : Nat) (b : Nat → Nat) (j : Nat) : Int32 := (tkV n b (tkP n b j)).toInt32
/-- the reader goes on, at token k -/
def LvC (n : Nat) (b : Nat → Nat) (t k : Nat) (s : hSt) : Prop := HC s.2.2 ∧ s.2.2 37 3 = some t ∧ (t = 3 ∨ t = 20) ∧ (TkC n b 401 s ∧ s.1 37 6 = -1) ∧ s.1 37 4 = nI k ∧ k ≤ 400 ∧ s.1 37 5 = 0
/-- it has stopped, at fault f of token j -/
def DdC (n : Nat) (b : Nat → Nat) (t f j : Nat) (s : hSt) : Prop := HC s.2.2 ∧ s.2.2 37 3 = some t ∧ (t = 3 ∨ t = 20) ∧ (∃ k, s.1 37 4 = nI k ∧ k ≤ 400) ∧ (s.1 37 5 = nI f ∧ (f = 1 ∨ f = 2)) ∧ s.1 37 6 = nI (tkP n b j)
theorem t_ok {t : Nat} (h : t = 3 ∨ t = 20) : okr kC NC 7 t = true ∧ okr kC NC 0 (t + 4) = true ∧ t + 17 ≤ 37 := by
  rcases h with e | e <;> subst e <;> decide
theorem r37 {α : Type} {P : SPt} {t : Nat} (h : P 37 3 = some t) (ht : t = 3 ∨ t = 20) (f : Nat → Option α) : cR (P 37 3) (okr kC NC 7) f = f t := cR_t h (t_ok ht).1
theorem KK_lt {n : Nat} {b : Nat → Nat} (hb : ∀ i, b i < 256) (j : Nat) : KK n b j < 256 := by
  unfold KK tkK
  split
  · decide
  · split
    · split
      · decide
      · rcases wK_r (f := fun j' => b (tkP n b j + j')) (k := rn isLt n b (tkP n b j) - tkP n b j) with q | q <;> omega
    · split
      · split <;> decide
      · split
        · exact hb _
        · decide
theorem kindA {n t k : Nat} {b : Nat → Nat} {s : hSt} (h : LvC n b t k s) : F_X4_kind 37 s = some (nI (KK n b k)) := by
  obtain ⟨h1, h2, h3, h4, h5, h6, h7⟩ := h
  have f33 : ∀ x, F_X4_kind_33 x s = some x := fun _ => rfl
  unfold F_X4_kind
  rw [h7, if_pos rfl, h5, if_neg (show ¬ (401 : Int32) ≤ nI k from nI_ge (b := 401) (by omega) (by decide)), rC_4_0 h1 (c := 37) (by decide), rC_8_0 h1 (c := 37 + 1) (by decide), cG_t (inb_nI (by rw [show (37 + 1 + 1 : Nat) = 38 + 1 from rfl, k39]; omega) (by decide)), cl_nI (by omega), show (37 + 1 + 1 : Nat) = 39 from rfl, (h4.1 k (by omega)).1, f33]
  rfl
theorem kindD {n t f j : Nat} {b : Nat → Nat} {s : hSt} (h : DdC n b t f j s) : F_X4_kind 37 s = some 1 := by
  obtain ⟨h1, h2, h3, h4, ⟨h5, h5'⟩, h6⟩ := h
  unfold F_X4_kind
  rw [h5, if_neg (show ¬ nI f = 0 by rcases h5' with e | e <;> subst e <;> decide)]
  rfl
/-- the fields the reader changes as it goes -/
def frT (s s' : hSt) : Prop := s'.2 = s.2 ∧ (∀ j, j ≠ 4 → j ≠ 5 → j ≠ 6 → s'.1 37 j = s.1 37 j) ∧ ∀ k, k ≠ 37 → s'.1 k = s.1 k
theorem frT_rfl {s : hSt} : frT s s := ⟨rfl, fun _ _ _ _ => rfl, fun _ _ => rfl⟩
theorem TkC_fr {n c : Nat} {b : Nat → Nat} {s s' : hSt} (h : TkC n b c s) (e1 : s'.1 39 = s.1 39) (e2 : s'.1 40 = s.1 40) (e3 : s'.2.1 41 = s.2.1 41) : TkC n b c s' := fun i hi => by
  rw [e1, e2, e3]
  exact h i hi
theorem failA {n t k f : Nat} {b : Nat → Nat} {s : hSt} (h : LvC n b t k s) (hf : f = 1 ∨ f = 2) : ∃ s', F_X4_fail 37 (nI f) s = some s' ∧ DdC n b t f k s' ∧ frT s s' := by
  obtain ⟨h1, h2, h3, h4, h5, h6, h7⟩ := h
  have f38 : ∀ x, F_X4_fail_38 x = some x := fun _ => rfl
  have h1' : HC (uI s 37 5 (nI f)).2.2 := h1
  unfold F_X4_fail
  rw [h7, if_pos rfl, h5, if_neg (show ¬ (401 : Int32) ≤ nI k from nI_ge (b := 401) (by omega) (by decide))]
  unfold cL
  dsimp only
  rw [rC_4_0 h1' (c := 37) (by decide), rC_8_1 h1' (c := 37 + 1) (by decide), uI_ne _ _ (show ¬ (37 = 37 ∧ 4 = 5) by decide), h5, cG_t (inb_nI (by rw [show (37 + 1 + 2 : Nat) = 38 + 2 from rfl, k40]; omega) (by decide)), cl_nI (by omega), show (37 + 1 + 2 : Nat) = 40 from rfl, uI_row _ _ (show (40 : Nat) ≠ 37 by decide), (h4.1 k (by omega)).2.1, f38]
  refine ⟨_, rfl, ⟨h1, h2, h3, ⟨k, ?_, h6⟩, ⟨?_, hf⟩, ?_⟩, rfl, fun j a c d => ?_, fun j a => ?_⟩
  · rw [uI_ne _ _ (by omega), uI_ne _ _ (by omega)]; exact h5
  · rw [uI_ne _ _ (by omega), uI_I, if_pos ⟨rfl, rfl⟩]
  · rw [uI_I, if_pos ⟨rfl, rfl⟩]
  · rw [uI_ne _ _ (by omega), uI_ne _ _ (by omega)]
  · rw [uI_row _ _ a, uI_row _ _ a]
theorem failD {n t f j : Nat} {b : Nat → Nat} {s : hSt} {x : Int32} (h : DdC n b t f j s) : F_X4_fail 37 x s = some s := by
  obtain ⟨h1, h2, h3, h4, ⟨h5, h5'⟩, h6⟩ := h
  unfold F_X4_fail
  rw [h5, if_neg (show ¬ nI f = 0 by rcases h5' with e | e <;> subst e <;> decide)]
  rfl
theorem takeD {n t f j : Nat} {b : Nat → Nat} {s : hSt} {x : Int32} (h : DdC n b t f j s) : F_X4_take 37 x s = some (0, s) := by
  obtain ⟨h1, h2, h3, h4, ⟨h5, h5'⟩, h6⟩ := h
  unfold F_X4_take
  rw [h5, if_neg (show ¬ nI f = 0 by rcases h5' with e | e <;> subst e <;> decide)]
  rfl
/-- a token taken: it is the one that is wanted, and not too far behind -/
theorem takeA {n t k w : Nat} {b : Nat → Nat} {s : hSt} (h : LvC n b t k s) (hb : ∀ i, b i < 256) (hw : w < 256) : ∃ v s', F_X4_take 37 (nI w) s = some (v, s') ∧ frT s s' ∧
    ((KK n b k = w ∧ k < 400 ∧ v = tkV n b (tkP n b k) ∧ LvC n b t (k + 1) s') ∨ (¬ (KK n b k = w ∧ k < 400) ∧ v = 0 ∧ DdC n b t (if KK n b k = w then 2 else 1) k s')) := by
  have hA := h
  obtain ⟨h1, h2, h3, h4, h5, h6, h7⟩ := h
  have hK := KK_lt (n := n) hb k
  have e63 : ∀ f, (f = 1 ∨ f = 2) → ∃ s', F_X4_take_63 37 (nI k) 37 (nI f) s = some (0, s') ∧ frT s s' ∧ DdC n b t f k s' := fun f hf => by
    have h1' : HC (uI s 37 5 (nI f)).2.2 := h1
    unfold F_X4_take_63 cL
    dsimp only
    rw [rC_4_0 h1' (c := 37) (by decide), rC_8_1 h1' (c := 37 + 1) (by decide), cG_t (inb_nI (by rw [show (37 + 1 + 2 : Nat) = 38 + 2 from rfl, k40]; omega) (by decide)), cl_nI (by omega), show (37 + 1 + 2 : Nat) = 40 from rfl, uI_row _ _ (show (40 : Nat) ≠ 37 by decide), (h4.1 k (by omega)).2.1]
    refine ⟨_, rfl, ⟨rfl, fun j a c d => ?_, fun j a => ?_⟩, h1, h2, h3, ⟨k, ?_, h6⟩, ⟨?_, hf⟩, ?_⟩
    · rw [uI_ne _ _ (by omega), uI_ne _ _ (by omega)]
    · rw [uI_row _ _ a, uI_row _ _ a]
    · rw [uI_ne _ _ (by omega), uI_ne _ _ (by omega)]; exact h5
    · rw [uI_ne _ _ (by omega), uI_I, if_pos ⟨rfl, rfl⟩]
    · rw [uI_I, if_pos ⟨rfl, rfl⟩]
  have e44 : F_X4_take_44 37 (nI w) (nI k) s = if KK n b k = w then F_X4_take_63 37 (nI k) 37 2 s else F_X4_take_63 37 (nI k) 37 1 s := by
    unfold F_X4_take_44
    rw [rC_4_0 h1 (c := 37) (by decide), rC_8_0 h1 (c := 37 + 1) (by decide), cG_t (inb_nI (by rw [show (37 + 1 + 1 : Nat) = 38 + 1 from rfl, k39]; omega) (by decide)), cl_nI (by omega), show (37 + 1 + 1 : Nat) = 39 from rfl, (h4.1 k (by omega)).1]
    by_cases q : KK n b k = w
    · rw [if_pos (show nI (tkK n b (tkP n b k)) = nI w from congrArg nI q), if_pos q]
    · rw [if_neg (show ¬ nI (tkK n b (tkP n b k)) = nI w from fun z => q ((nI_eq (a := KK n b k) (by omega) (by omega)).mp z)), if_neg q]
  unfold F_X4_take
  rw [h7, if_pos rfl, h5, if_pos (show nI k < (401 : Int32) from nI_lt (b := 401) (by omega) (by decide))]
  unfold cL
  dsimp only
  rw [rC_4_0 h1 (c := 37) (by decide), rC_8_0 h1 (c := 37 + 1) (by decide), cG_t (inb_nI (by rw [show (37 + 1 + 1 : Nat) = 38 + 1 from rfl, k39]; omega) (by decide)), cl_nI (by omega), show (37 + 1 + 1 : Nat) = 39 from rfl, (h4.1 k (by omega)).1]
  by_cases q : KK n b k = w
  · rw [if_pos (show nI (tkK n b (tkP n b k)) = nI w from congrArg nI q)]
    by_cases r : k < 400
    · have h1' : HC (uI s 37 4 (nI k + 1)).2.2 := h1
      rw [if_pos (show nI k < (400 : Int32) from nI_lt (b := 400) r (by decide)), rC_4_0 h1' (c := 37) (by decide), rC_8_2 h1' (c := 37 + 1) (by decide), cG_t (inb_nI (by rw [show (37 + 1 + 3 : Nat) = 38 + 3 from rfl, k41]; omega) (by decide))]
      refine ⟨_, _, rfl, ⟨rfl, fun j a c d => uI_ne _ _ (by omega), fun j a => uI_row _ _ a⟩, Or.inl ⟨q, r, (h4.1 k (by omega)).2.2, h1, h2, h3, ⟨TkC_fr h4.1 (uI_row _ _ (by decide)) (uI_row _ _ (by decide)) rfl, by rw [uI_ne _ _ (by omega)]; exact h4.2⟩, ?_, by omega, ?_⟩⟩
      · rw [uI_I, if_pos ⟨rfl, rfl⟩, nI_1]
      · rw [uI_ne _ _ (by omega)]; exact h7
    · rw [if_neg (show ¬ nI k < (400 : Int32) from nI_nlt (b := 400) (by omega) (by omega)), e44, if_pos q]
      obtain ⟨s', g1, g2, g3⟩ := e63 2 (Or.inr rfl)
      exact ⟨0, s', g1, g2, Or.inr ⟨fun z => r z.2, rfl, by rw [if_pos q]; exact g3⟩⟩
  · rw [if_neg (show ¬ nI (tkK n b (tkP n b k)) = nI w from fun z => q ((nI_eq (a := KK n b k) (by omega) (by omega)).mp z)), e44, if_neg q]
    obtain ⟨s', g1, g2, g3⟩ := e63 1 (Or.inl rfl)
    exact ⟨0, s', g1, g2, Or.inr ⟨fun z => q z.1, rfl, by rw [if_neg q]; exact g3⟩⟩
/-- what the reading of a term changes -/
def frX (t : Nat) (s s' : hSt) : Prop := s'.2 = s.2 ∧ (∀ j, j ≠ 4 → j ≠ 5 → j ≠ 6 → s'.1 37 j = s.1 37 j) ∧ (∀ j, j ≠ 2 → s'.1 (t + 4) j = s.1 (t + 4) j) ∧ ∀ k, k ≠ 37 → k ≠ t + 4 → k ≠ t + 5 → s'.1 k = s.1 k
theorem frX_rfl {t : Nat} {s : hSt} : frX t s s := ⟨rfl, fun _ _ _ _ => rfl, fun _ _ => rfl, fun _ _ _ _ => rfl⟩
theorem frX_trans {t : Nat} {s s' s'' : hSt} (h : frX t s s') (h' : frX t s' s'') : frX t s s'' := ⟨h'.1.trans h.1, fun j a c d => (h'.2.1 j a c d).trans (h.2.1 j a c d), fun j a => (h'.2.2.1 j a).trans (h.2.2.1 j a), fun k a c d => (h'.2.2.2 k a c d).trans (h.2.2.2 k a c d)⟩
theorem frX_T {t : Nat} {s s' : hSt} (ht : t = 3 ∨ t = 20) (h : frT s s') : frX t s s' := ⟨h.1, h.2.1, fun j _ => by rw [h.2.2 (t + 4) (by have := (t_ok ht).2.2; omega)], fun k a _ _ => h.2.2 k a⟩
/-- the law so far: its length and its cells -/
def LwC (t L : Nat) (c : Nat → Int32) (s : hSt) : Prop := s.1 (t + 4) 2 = nI L ∧ L ≤ 401 ∧ ∀ j, j < L → s.1 (t + 5) j = c j
theorem addA {t L : Nat} {x : Int32} {s : hSt} (hP : HC s.2.2) (ht : t = 3 ∨ t = 20) (e : s.1 (t + 4) 2 = nI L) (hL : L ≤ 401) : ∃ v s', F_X0_add (t + 4) x s = some (v, s') ∧ frX t s s' ∧ (∀ k, k ≠ t + 4 → k ≠ t + 5 → s'.1 k = s.1 k) ∧ (∃ L', L' ≤ 401 ∧ s'.1 (t + 4) 2 = nI L') ∧ (L < 401 → v = nI L ∧ s'.1 (t + 4) 2 = nI (L + 1) ∧ s'.1 (t + 5) L = x ∧ ∀ j, j ≠ L → s'.1 (t + 5) j = s.1 (t + 5) j) := by
  obtain ⟨t1, t2, t3⟩ := t_ok ht
  have t45 : ¬ t + 5 = t + 4 := by omega
  unfold F_X0_add
  rw [e]
  by_cases q : L < 401
  · rw [if_pos (show nI L < (401 : Int32) from nI_lt (b := 401) q (by decide)), rC_0_0 hP t2, cG_t (inb_nI (by rw [nC_0_0 t2]; omega) (by rw [nC_0_0 t2]; decide)), cl_nI (by omega)]
    unfold cL
    dsimp only
    have eL : (uI s (t + 4 + 1) L x).1 (t + 4) 2 = nI L := by rw [uI_row _ _ (by omega)]; exact e
    rw [eL, nI_1, uI_I, if_pos ⟨rfl, rfl⟩, nI_pred]
    refine ⟨_, _, rfl, ⟨rfl, fun j a c d => ?_, fun j a => ?_, fun k a c d => ?_⟩, fun k c d => ?_, ⟨L + 1, by omega, ?_⟩, fun _ => ⟨rfl, ?_, ?_, fun j hj => ?_⟩⟩
    · rw [uI_row _ _ (show 37 ≠ t + 4 by omega), uI_row _ _ (show 37 ≠ t + 4 + 1 by omega)]
    · rw [uI_ne _ _ (by omega), uI_row _ _ (by omega)]
    · rw [uI_row _ _ c, uI_row _ _ (by omega)]
    · rw [uI_row _ _ c, uI_row _ _ (by omega)]
    · rw [uI_I, if_pos ⟨rfl, rfl⟩]
    · rw [uI_I, if_pos ⟨rfl, rfl⟩]
    · rw [uI_row _ _ (by omega), uI_I, if_pos ⟨by omega, rfl⟩]
    · rw [uI_row _ _ (by omega), uI_ne _ _ (by omega)]
  · rw [if_neg (show ¬ nI L < (401 : Int32) from nI_nlt (b := 401) (by omega) (by omega))]
    exact ⟨_, s, rfl, frX_rfl, fun _ _ _ => rfl, ⟨L, hL, e⟩, fun z => absurd z q⟩
theorem LvC_fr {n t k : Nat} {b : Nat → Nat} {s s' : hSt} (h : LvC n b t k s) (e2 : s'.2 = s.2) (e : ∀ c, c ≠ t + 4 → c ≠ t + 5 → s'.1 c = s.1 c) : LvC n b t k s' := by
  obtain ⟨h1, h2, h3, h4, h5, h6, h7⟩ := h
  have t3 := (t_ok h3).2.2
  refine ⟨by rw [e2]; exact h1, by rw [e2]; exact h2, h3, ⟨TkC_fr h4.1 (e 39 (by omega) (by omega)) (e 40 (by omega) (by omega)) (by rw [e2]), by rw [e 37 (by omega) (by omega)]; exact h4.2⟩, ?_, h6, ?_⟩
  · rw [e 37 (by omega) (by omega)]; exact h5
  · rw [e 37 (by omega) (by omega)]; exact h7
theorem DdC_fr {n t f j : Nat} {b : Nat → Nat} {s s' : hSt} (h : DdC n b t f j s) (e2 : s'.2 = s.2) (e : ∀ c, c ≠ t + 4 → c ≠ t + 5 → s'.1 c = s.1 c) : DdC n b t f j s' := by
  obtain ⟨h1, h2, h3, h4, h5, h6⟩ := h
  have t3 := (t_ok h3).2.2
  unfold DdC
  rw [e2, e 37 (by omega) (by omega)]
  exact ⟨h1, h2, h3, h4, h5, h6⟩
theorem LwC_T {t L : Nat} {c : Nat → Int32} {s s' : hSt} (ht : t = 3 ∨ t = 20) (h : LwC t L c s) (f : frT s s') : LwC t L c s' := by
  have t3 := (t_ok ht).2.2
  unfold LwC
  rw [f.2.2 (t + 4) (by omega), f.2.2 (t + 5) (by omega)]
  exact h
