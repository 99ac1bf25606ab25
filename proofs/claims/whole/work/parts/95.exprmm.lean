/-! ===== PURE 60: terms in the model, against the machine ===== -/
def pnd (P : List Nat) : Prop := P = [] ∨ (∃ s, isS s ∧ P = [s]) ∨ (∃ w, isW w ∧ P = [w]) ∨ ∃ s w, isS s ∧ isW w ∧ P = [s, w]
def shF : Nat → List Nat → Prop
  | 0, W => W = []
  | d + 1, W => ∃ P W', W = 40 :: (P ++ W') ∧ pnd P ∧ shF d W'
def shU (d : Nat) (W : List Nat) : Prop := ∃ P W', W = P ++ W' ∧ pnd P ∧ shF d W'
theorem pnd_len {P : List Nat} (h : pnd P) : P.length ≤ 2 ∧ ∀ w, w ∈ P → isS w ∨ isW w := by
  rcases h with h | ⟨s, h1, h⟩ | ⟨w, h1, h⟩ | ⟨s, w, h1, h2, h⟩ <;> subst h
  · exact ⟨by decide, fun w hw => absurd hw (by simp)⟩
  · exact ⟨by simp, fun w hw => by rw [List.mem_singleton.mp hw]; exact Or.inl h1⟩
  · exact ⟨by simp, fun v hw => by rw [List.mem_singleton.mp hw]; exact Or.inr h1⟩
  · refine ⟨by simp, fun v hw => ?_⟩
    rcases List.mem_cons.mp hw with q | q
    · rw [q]; exact Or.inl h1
    · rw [List.mem_singleton.mp q]; exact Or.inr h2
theorem shF_len : ∀ d W, shF d W → W.length ≤ 3 * d ∧ sgW W
  | 0, W, h => by
    have h : W = [] := h
    subst h
    exact ⟨by decide, fun w hw => absurd hw (by simp)⟩
  | d + 1, W, h => by
    obtain ⟨P, W', e, h1, h2⟩ := h
    obtain ⟨i1, i2⟩ := shF_len d W' h2
    obtain ⟨j1, j2⟩ := pnd_len h1
    subst e
    refine ⟨by rw [List.length_cons, List.length_append]; omega, fun w hw => ?_⟩
    rcases List.mem_cons.mp hw with q | q
    · exact Or.inl q
    · rcases List.mem_append.mp q with r | r
      · exact Or.inr (j2 w r)
      · exact i2 w r
theorem shU_len {d : Nat} {W : List Nat} (h : shU d W) : W.length ≤ 3 * d + 2 ∧ sgW W := by
  obtain ⟨P, W', e, h1, h2⟩ := h
  obtain ⟨i1, i2⟩ := shF_len d W' h2
  obtain ⟨j1, j2⟩ := pnd_len h1
  subst e
  refine ⟨by rw [List.length_append]; omega, fun w hw => ?_⟩
  rcases List.mem_append.mp hw with r | r
  · exact Or.inr (j2 w r)
  · exact i2 w r
theorem shF_flr {st : Bool} : ∀ d W, shF d W → flr st W
  | 0, W, h => by
    have h : W = [] := h
    subst h
    exact fun w W' q => by cases q
  | d + 1, W, h => by
    obtain ⟨P, W', e, -, -⟩ := h
    subst e
    exact fun w W'' q => Or.inl (List.cons.inj q).1.symm
theorem pop_F {d : Nat} {W : List Nat} (h : shU d W) : ∃ P W', W = P ++ W' ∧ pop false W = (W', P.map em) ∧ shF d W' ∧ P.length + W'.length = W.length := by
  obtain ⟨P, W', e, h1, h2⟩ := h
  subst e
  refine ⟨P, W', rfl, pop_app (shF_flr d W' h2) P (fun w hw => ?_), h2, List.length_append.symm⟩
  rintro (q | q)
  · rcases (pnd_len h1).2 w hw with (r | r) | (r | r) <;> omega
  · exact absurd q.1 (by decide)
theorem pop_T {d x : Nat} {W : List Nat} (h : shU d W) (hx : isS x) : ∃ Q O, pop true W = (Q, O) ∧ shU d (x :: Q) ∧ O.length + Q.length = W.length := by
  obtain ⟨P, W', e, h1, h2⟩ := h
  subst e
  have fl : flr true W' := shF_flr d W' h2
  rcases h1 with h | ⟨s, h1, h⟩ | ⟨w, h1, h⟩ | ⟨s, w, h1, h3, h⟩ <;> subst h
  · exact ⟨W', [], pop_flr fl, ⟨[x], W', rfl, Or.inr (Or.inl ⟨x, hx, rfl⟩), h2⟩, by simp⟩
  · refine ⟨W', [em s], pop_app fl [s] (fun w hw => ?_), ⟨[x], W', rfl, Or.inr (Or.inl ⟨x, hx, rfl⟩), h2⟩, by simp; omega⟩
    rw [List.mem_singleton.mp hw]
    rcases h1 with r | r <;> subst r <;> decide
  · refine ⟨w :: W', [], if_pos (Or.inr ⟨rfl, h1⟩), ⟨[x, w], W', rfl, Or.inr (Or.inr (Or.inr ⟨x, w, hx, h1, rfl⟩)), h2⟩, by simp⟩
  · have e1 : pop true (w :: W') = (w :: W', []) := if_pos (Or.inr ⟨rfl, h3⟩)
    have e2 : pop true (s :: (w :: W')) = ((pop true (w :: W')).1, em s :: (pop true (w :: W')).2) := if_neg (by rcases h1 with r | r <;> subst r <;> decide)
    refine ⟨w :: W', [em s], ?_, ⟨[x, w], W', rfl, Or.inr (Or.inr (Or.inr ⟨x, w, hx, h3, rfl⟩)), h2⟩, by simp; omega⟩
    show pop true (s :: (w :: W')) = _
    rw [e2, e1]
section EX
variable {n : Nat} {b : Nat → Nat} {c0 B k0 : Nat} {s0 : hSt} {r : Res}
/-- alive within a term -/
def StM (n : Nat) (b : Nat → Nat) (c0 B k0 : Nat) (s0 : hSt) (r : Res) (m : Bool) (k d : Nat) (W : List Nat) (C : Ops) (s : hSt) : Prop :=
  LvM n b k s ∧ ExR c0 B d W C s0 s ∧ shU d W ∧ d ≤ 6 ∧ C.length + W.length + k0 ≤ k ∧ r = Rm (KK n b) (VV n b) m k d W C
/-- dead within a term -/
def DeM (n : Nat) (b : Nat → Nat) (c0 B : Nat) (s0 : hSt) (r : Res) (s : hSt) : Prop :=
  ∃ f j d W C, DdM n b f j s ∧ ExR c0 B d W C s0 s ∧ sgW W ∧ W.length ≤ 40 ∧ c0 + C.length + W.length ≤ B ∧ r = .inr (f, j)
theorem LvM_ok {k : Nat} {s s' : hSt} (h : LvM n b k s) (e2 : s'.2 = s.2) (e : ∀ j, j ≠ 44 → j ≠ 48 → s'.1 0 j = s.1 0 j) (er : ∀ c, c ≠ 0 → c ≠ 30 → c ≠ 31 → s'.1 c = s.1 c) : LvM n b k s' := LvM_fr h e2 (e 11 (by decide) (by decide)) (e 13 (by decide) (by decide)) (fun c p q => er c (by omega) (by omega) (by omega))
theorem DdM_ok {f j : Nat} {s s' : hSt} (h : DdM n b f j s) (e2 : s'.2 = s.2) (e : ∀ j, j ≠ 44 → j ≠ 48 → s'.1 0 j = s.1 0 j) : DdM n b f j s' := DdM_fr h e2 (e 11 (by decide) (by decide)) (e 13 (by decide) (by decide)) (e 14 (by decide) (by decide))
theorem unitM_put {k d : Nat} {W : List Nat} {C : Ops} {s : hSt} (hB : B = c0 + (401 - k0)) (hB2 : B ≤ 840) (h : StM n b c0 B k0 s0 r true k d W C s) (hU : isU (KK n b k)) :
    ∃ s', F_X12_unit_137 0 0 (nI (uOp (KK n b) (VV n b) k).1) (uOp (KK n b) (VV n b) k).2 s = some s' ∧ ((k < 400 ∧ StM n b c0 B k0 s0 r false (k + 1) d W (C ++ [uOp (KK n b) (VV n b) k]) s') ∨ DeM n b c0 B s0 r s') := by
  obtain ⟨h1, h2, h3, h4, h5, h6⟩ := h
  have hk := h1.2.2.2.2.1
  obtain ⟨l1, l2⟩ := shU_len h3
  have n40 : ¬ KK n b k = 40 := fun z => by rw [z] at hU; revert hU; decide
  have ho : (uOp (KK n b) (VV n b) k).1 = 1 → ∃ i, i < 6 ∧ (uOp (KK n b) (VV n b) k).2 = nI i := by
    unfold uOp
    by_cases q : KK n b k = 3
    · rw [if_pos q]
      intro z
      exact absurd (show (0 : Nat) = 1 from z) (by decide)
    · rw [if_neg q]
      exact fun _ => ⟨_, by rcases hU with z | z <;> omega, rfl⟩
  obtain ⟨s1, g1, g2, g3, g4, g5⟩ := emit_eq (o := uOp (KK n b) (VV n b) k) h1.1 h2 (by omega) hB2 ho
  have L1 : LvM n b k s1 := LvM_ok h1 g3 (fun j p _ => g4 j p) g5
  obtain ⟨s2, p1, p2, p3⟩ := goA L1 (fun z => by rw [z] at hU; revert hU; decide)
  unfold F_X12_unit_137
  rw [g1, Option.bind_some, p1, Option.bind_some]
  refine ⟨s2, rfl, ?_⟩
  rcases p3 with ⟨q1, q2⟩ | ⟨q1, q2⟩
  · refine Or.inl ⟨q1, q2, ExR_N g2 p2, h3, h4, by rw [List.length_append, List.length_singleton]; omega, ?_⟩
    rw [h6, Rm_U hk, if_neg n40, if_pos hU, if_neg (by omega)]
  · refine Or.inr ⟨2, k, d, W, _, q2, ExR_N g2 p2, l2, by omega, by rw [List.length_append, List.length_singleton]; omega, ?_⟩
    rw [h6, Rm_U hk, if_neg n40, if_pos hU, if_pos q1]
theorem unitM_eq {k d : Nat} {W : List Nat} {C : Ops} {s : hSt} (hB : B = c0 + (401 - k0)) (hB2 : B ≤ 840) (h : StM n b c0 B k0 s0 r true k d W C s) (n40 : ¬ KK n b k = 40) :
    ∃ s', F_X12_unit 0 s = some s' ∧ ((∃ C', k < 400 ∧ StM n b c0 B k0 s0 r false (k + 1) d W C' s') ∨ DeM n b c0 B s0 r s') := by
  have h' := h
  obtain ⟨h1, h2, h3, h4, h5, h6⟩ := h
  have hk := h1.2.2.2.2.1
  obtain ⟨l1, l2⟩ := shU_len h3
  have b1 : W.length ≤ 40 := by omega
  have b2 : c0 + C.length + W.length ≤ B := by omega
  obtain ⟨t1, -, t3, -⟩ := LvM_tok h1
  have hv := KK_v (n := n) (b := b) k
  have ml := mkK_lt _ hv
  have e11 := h1.2.2.2.1
  have f152 : ∀ z, F_X12_unit_152 z = some z := fun _ => rfl
  have put := unitM_put hB hB2 h'
  have wrap : ∀ x, (∃ s', x = some s' ∧ ((k < 400 ∧ StM n b c0 B k0 s0 r false (k + 1) d W (C ++ [uOp (KK n b) (VV n b) k]) s') ∨ DeM n b c0 B s0 r s')) → ∃ s', x = some s' ∧ ((∃ C', k < 400 ∧ StM n b c0 B k0 s0 r false (k + 1) d W C' s') ∨ DeM n b c0 B s0 r s') := fun x hx => by
    obtain ⟨s', a1, a2⟩ := hx
    exact ⟨s', a1, a2.imp (fun z => ⟨_, z⟩) id⟩
  unfold F_X12_unit
  rw [show F_X12_is 0 (2 : Int32) s = F_X12_is 0 (nI (mkK 3)) s from rfl, isA h1 (by decide), Option.bind_some]
  by_cases k3 : KK n b k = 3
  · rw [if_pos k3, if_neg ne_10, rM_7 h1.1, e11, cG_t (inb_nI (by rw [kM_5]; omega) (by decide)), cl_nI (by omega), (t3 k3).1]
    refine wrap _ ?_
    have hu := put (Or.inl k3)
    unfold uOp at hu
    rw [if_pos k3] at hu
    unfold uOp
    rw [if_pos k3]
    exact hu
  · rw [if_neg k3, if_pos rfl, h1.2.2.2.2.2, if_pos rfl, rM_5 h1.1, e11, cG_t (inb_nI (by rw [kM_3]; omega) (by decide)), cl_nI (by omega), t1, rM_5 h1.1, cG_t (inb_nI (by rw [kM_3]; omega) (by decide)), t1]
    by_cases kv : 141 ≤ KK n b k ∧ KK n b k ≤ 146
    · refine wrap _ ?_
      have v82 : F_X12_unit_82 0 s = F_X12_unit_137 0 0 (nI (uOp (KK n b) (VV n b) k).1) (uOp (KK n b) (VV n b) k).2 s := by
        unfold F_X12_unit_82 uOp
        rw [if_neg k3, show F_X12_is 0 (24 : Int32) s = F_X12_is 0 (nI (mkK 142)) s from rfl, isA h1 (by decide), Option.bind_some, show F_X12_is 0 (25 : Int32) s = F_X12_is 0 (nI (mkK 143)) s from rfl, isA h1 (by decide), Option.bind_some, show F_X12_is 0 (35 : Int32) s = F_X12_is 0 (nI (mkK 141)) s from rfl, isA h1 (by decide), Option.bind_some, rM_5 h1.1, e11, cG_t (inb_nI (by rw [kM_3]; omega) (by decide)), cl_nI (by omega), t1]
        rcases (show KK n b k = 141 ∨ KK n b k = 142 ∨ KK n b k = 143 ∨ KK n b k = 144 ∨ KK n b k = 145 ∨ KK n b k = 146 by omega) with q | q | q | q | q | q <;> rw [q] <;> rfl
      have v64 : F_X12_unit_64 0 s = if KK n b k = 142 ∨ KK n b k = 143 then F_X12_unit_82 0 s else F_X12_unit_147 0 s := by
        unfold F_X12_unit_64
        rw [show F_X12_is 0 (24 : Int32) s = F_X12_is 0 (nI (mkK 142)) s from rfl, isA h1 (by decide), Option.bind_some, show F_X12_is 0 (25 : Int32) s = F_X12_is 0 (nI (mkK 143)) s from rfl, isA h1 (by decide), Option.bind_some]
        rcases (show KK n b k = 141 ∨ KK n b k = 142 ∨ KK n b k = 143 ∨ KK n b k = 144 ∨ KK n b k = 145 ∨ KK n b k = 146 by omega) with q | q | q | q | q | q <;> rw [q] <;> rfl
      have vv : (if nI (mkK (KK n b k)) < (35 : Int32) then F_X12_unit_64 0 s else if nI (mkK (KK n b k)) ≤ (38 : Int32) then F_X12_unit_82 0 s else F_X12_unit_64 0 s) = F_X12_unit_82 0 s := by
        rw [v64]
        rcases (show KK n b k = 141 ∨ KK n b k = 142 ∨ KK n b k = 143 ∨ KK n b k = 144 ∨ KK n b k = 145 ∨ KK n b k = 146 by omega) with q | q | q | q | q | q <;> rw [q] <;> rfl
      rw [vv, v82]
      exact put (Or.inr kv)
    · have nu : ¬ isU (KK n b k) := fun z => z.elim k3 kv
      have v147 : ∃ s', F_X12_unit_147 0 s = some s' ∧ DdM n b 1 k s' ∧ frN s s' := by
        obtain ⟨s', g1, g2, g3⟩ := mfailA (f := 1) h1 (Or.inl rfl)
        refine ⟨s', ?_, g2, g3⟩
        unfold F_X12_unit_147
        rw [show F_X12_fail 0 (1 : Int32) s = F_X12_fail 0 (nI 1) s from rfl, g1, Option.bind_some, f152]
      have v64 : F_X12_unit_64 0 s = F_X12_unit_147 0 s := by
        unfold F_X12_unit_64
        rw [show F_X12_is 0 (24 : Int32) s = F_X12_is 0 (nI (mkK 142)) s from rfl, isA h1 (by decide), Option.bind_some, show F_X12_is 0 (25 : Int32) s = F_X12_is 0 (nI (mkK 143)) s from rfl, isA h1 (by decide), Option.bind_some, if_neg (show ¬ KK n b k = 142 by omega), if_neg (show ¬ KK n b k = 143 by omega), if_pos rfl, if_pos rfl]
      have hle : ∀ x, x ∈ vL → ¬ (141 ≤ x ∧ x ≤ 146) → mkK x < 35 := by decide +kernel
      rw [if_pos (show nI (mkK (KK n b k)) < (35 : Int32) from nI_lt (b := 35) (hle _ hv kv) (by decide)), v64]
      obtain ⟨s', g1, g2, g3⟩ := v147
      refine ⟨s', g1, Or.inr ⟨1, k, d, W, C, g2, ExR_N h2 g3, l2, b1, b2, ?_⟩⟩
      rw [h6, Rm_U hk, if_neg n40, if_neg nu]
theorem unitM_D {f j : Nat} {s : hSt} (h : DdM n b f j s) : F_X12_unit 0 s = some s := by
  have f152 : ∀ z, F_X12_unit_152 z = some z := fun _ => rfl
  unfold F_X12_unit F_X12_unit_147
  rw [isD h, Option.bind_some, if_pos rfl, if_neg (DdM_pos h).1, mfailD h, Option.bind_some, f152]
end EX
