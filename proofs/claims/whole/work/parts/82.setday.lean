/-! ===== PURE 47: which sets can drum, in the model; the class's table of sets ===== -/
theorem src_iff {x : Int32} {L i : Nat} (hL : L < 64) (hi : i < 6) : ((x &&& nI L) &&& (((1 : Int32) <<< (nI i &&& 31)) ^^^ (-1 : Int32)) = 0) ↔ ∀ y, inS L y → y ≠ i → ¬ bt x y = true := by
  rw [eq0_bt]
  constructor
  · intro q y h1 h2 h3
    have h6 := inS_lt hL h1
    have := q y (by omega)
    rw [bt_and, bt_and, bt_xor, bt_pow (by omega) (by omega), bt_m1 (by omega)] at this
    simp [h3, h2, show bt (nI L) y = true from h1] at this
  · intro q b hb
    rw [bt_and, bt_and, bt_xor, bt_pow (by omega) hb, bt_m1 hb]
    by_cases h1 : bt (nI L) b = true
    · by_cases h2 : b = i
      · simp [h2]
      · have := q b h1 h2
        simp [this]
    · simp [h1]
theorem canIn {L0 H li : Nat} {τ : hSt} {e : Nat → Int32} (hQ : HM τ.2.2) (e18 : τ.1 0 18 = nI li) (hli : li < 2) (e11 : τ.1 11 li = nI H) (hH : H ≤ 6) (he : ∀ h, h < H → τ.1 35 h = e h) (h64 : L0 < 2 ^ H) :
    ∃ L ch, F_X12_canDrum_44 0 (nI L0) 0 0 τ = some (.inl (nI L, nI ch)) ∧ L ≤ L0 ∧ (OrdP (hsP e) (inS L) ↔ OrdP (hsP e) (inS L0)) ∧ ((ch = 0 ∧ L = L0 ∧ ∀ h, inS L h → ¬ ∀ y, inS L y → y ≠ h → ¬ hsP e y h) ∨ (ch = 1 ∧ L < L0)) := by
  have p64 : (2 : Nat) ^ H ≤ 64 := Nat.pow_le_pow_right (n := 2) (by decide) hH
  unfold F_X12_canDrum_44
  obtain ⟨x, g1, L, ch, g2, g3, g4, g5⟩ := lp_go (s := S_X12_canDrum_44 0 τ) (v := (nI L0, 0, 0)) H (by rw [fuel_v]; omega)
    (fun i v => ∃ L ch, v = (nI L, nI ch, nI i) ∧ L ≤ L0 ∧ (OrdP (hsP e) (inS L) ↔ OrdP (hsP e) (inS L0)) ∧ ((ch = 0 ∧ L = L0 ∧ ∀ h, h < i → inS L h → ¬ ∀ y, inS L y → y ≠ h → ¬ hsP e y h) ∨ (ch = 1 ∧ L < L0)))
    (fun x => ∃ L ch, x = .inl (nI L, nI ch) ∧ L ≤ L0 ∧ (OrdP (hsP e) (inS L) ↔ OrdP (hsP e) (inS L0)) ∧ ((ch = 0 ∧ L = L0 ∧ ∀ h, inS L h → ¬ ∀ y, inS L y → y ≠ h → ¬ hsP e y h) ∨ (ch = 1 ∧ L < L0)))
    ⟨L0, 0, rfl, Nat.le_refl _, Iff.rfl, Or.inl ⟨rfl, rfl, fun h q => absurd q (by omega)⟩⟩ (fun i v hi hv => by
      obtain ⟨L, ch, a1, a2, a3, a4⟩ := hv
      subst a1
      unfold S_X12_canDrum_44 F_X12_canDrum_44b
      dsimp only
      rw [rM_24 hQ, e18, cG_t (inb_nI (by rw [kM_11]; exact hli) (by decide)), cl_nI (by omega), e11]
      have e103 : ∀ x y, F_X12_canDrum_103 0 x y (nI i) τ = some (.inl (x, y, nI (i + 1))) := fun x y => by
        unfold F_X12_canDrum_103 cL
        rw [nI_1]
      by_cases hlt : i < H
      · left
        rw [if_neg (nI_ge hlt (by omega))]
        by_cases hb : bt (nI L) i = true
        · rw [if_neg (fun q => by rw [(bt_is0 (by omega)).mp q] at hb; cases hb), rM_52 hQ, cG_t (inb_nI (by rw [kM_35]; omega) (by decide)), cl_nI (by omega), he i hlt]
          obtain ⟨d1, d2⟩ := set_del L (by omega) i (by omega) hb
          have pp : 0 < 2 ^ i := Nat.pow_pos (by decide)
          by_cases hs : ∀ y, inS L y → y ≠ i → ¬ bt (e i) y = true
          · rw [if_pos ((src_iff (by omega) (by omega)).mpr hs), d1]
            unfold cL
            dsimp only
            rw [e103]
            refine ⟨_, hlt, rfl, L - 2 ^ i, 1, rfl, by omega, Iff.trans ?_ a3, Or.inr ⟨rfl, by omega⟩⟩
            exact ⟨fun q => OrdP_add q (inS L) i (inS_del (by omega) hb) hb hs, fun q => OrdP_sub q _ (fun x hx => ((inS_del (by omega) hb x).mp hx).1)⟩
          · rw [if_neg (fun q => hs ((src_iff (by omega) (by omega)).mp q)), e103]
            refine ⟨_, hlt, rfl, L, ch, rfl, a2, a3, ?_⟩
            rcases a4 with ⟨q1, q2, q3⟩ | q
            · refine Or.inl ⟨q1, q2, fun h hh hin => ?_⟩
              by_cases e1 : h = i
              · rw [e1]
                exact hs
              · exact q3 h (by omega) hin
            · exact Or.inr q
        · rw [if_pos ((bt_is0 (by omega)).mpr (by simpa using hb)), e103]
          refine ⟨_, hlt, rfl, L, ch, rfl, a2, a3, ?_⟩
          rcases a4 with ⟨q1, q2, q3⟩ | q
          · refine Or.inl ⟨q1, q2, fun h hh hin => ?_⟩
            by_cases e1 : h = i
            · exact absurd (e1 ▸ hin) hb
            · exact q3 h (by omega) hin
          · exact Or.inr q
      · right
        rw [if_pos (nI_le (by omega) (by omega))]
        refine ⟨_, rfl, L, ch, rfl, a2, a3, ?_⟩
        rcases a4 with ⟨q1, q2, q3⟩ | q
        · exact Or.inl ⟨q1, q2, fun h hin => q3 h (by have := inS_H H hH L (by omega) h (inS_lt (by omega) hin) hin; omega) hin⟩
        · exact Or.inr q)
  exact ⟨L, ch, by rw [g1, g2], g3, g4, g5⟩
theorem canDrum_eq {S H li how : Nat} {τ : hSt} {e : Nat → Int32} (hQ : HM τ.2.2) (e18 : τ.1 0 18 = nI li) (hli : li < 2) (e11 : τ.1 11 li = nI H) (eo : τ.1 18 li = nI how) (hw : how < 4) (hH : H ≤ 6) (he : ∀ h, h < H → τ.1 35 h = e h) (h64 : S < 2 ^ H) :
    (lwP how e S → F_X12_canDrum 0 (nI S) τ = some 1) ∧ (¬ lwP how e S → F_X12_canDrum 0 (nI S) τ = some 0) := by
  have p64 : (2 : Nat) ^ H ≤ 64 := Nat.pow_le_pow_right (n := 2) (by decide) hH
  have f25 : F_X12_canDrum_25 τ = some 1 := rfl
  unfold F_X12_canDrum
  rw [rM_31 hQ, e18, cG_t (inb_nI (by rw [kM_18]; exact hli) (by decide)), cl_nI (by omega), eo]
  by_cases h0 : how = 0
  · rw [if_pos (by rw [h0]; rfl)]
    exact ⟨fun _ => f25, fun q => absurd (Or.inl (by omega)) q⟩
  rw [if_neg (show ¬ nI how = 0 from fun q => h0 ((nI_eq (b := 0) (by omega) (by decide)).mp q)), rM_31 hQ, cG_t (inb_nI (by rw [kM_18]; exact hli) (by decide)), eo]
  by_cases h3 : how = 3
  · rw [if_pos (by rw [h3]; rfl)]
    exact ⟨fun _ => f25, fun q => absurd (Or.inl (by omega)) q⟩
  rw [if_neg (show ¬ nI how = 3 from fun q => h3 ((nI_eq (b := 3) (by omega) (by decide)).mp q))]
  have hl : lwP how e S ↔ OrdP (hsP e) (inS S) := ⟨fun q => q.resolve_left (fun g => g (by omega)), Or.inr⟩
  rw [hl]
  unfold F_X12_canDrum_31
  have done0 : F_X12_canDrum_112 0 τ = some 1 := rfl
  have done1 : ∀ L, L < 64 → L ≠ 0 → F_X12_canDrum_112 (nI L) τ = some 0 := fun L a b => by
    unfold F_X12_canDrum_112
    rw [if_neg (show ¬ nI L = 0 from fun q => b ((nI_eq (b := 0) (by omega) (by decide)).mp q))]
    rfl
  obtain ⟨x, g1, g2⟩ := lp_go (s := S_X12_canDrum_31 0 τ) (v := (nI S, 1)) 64 (by rw [fuel_v]; decide)
    (fun i v => ∃ L ch, v = (nI L, nI ch) ∧ L < 2 ^ H ∧ L + i + ch ≤ 64 ∧ (OrdP (hsP e) (inS L) ↔ OrdP (hsP e) (inS S)) ∧ ((ch = 0 ∧ ∀ h, inS L h → ¬ ∀ y, inS L y → y ≠ h → ¬ hsP e y h) ∨ ch = 1))
    (fun x => (OrdP (hsP e) (inS S) → x = 1) ∧ (¬ OrdP (hsP e) (inS S) → x = 0))
    ⟨S, 1, rfl, h64, by omega, Iff.rfl, Or.inr rfl⟩ (fun i v hi hv => by
      obtain ⟨L, ch, a1, a2, a3, a4, a5⟩ := hv
      subst a1
      unfold S_X12_canDrum_31 F_X12_canDrum_31b
      dsimp only
      by_cases hL : L = 0
      · right
        subst hL
        rw [show nI 0 = 0 from rfl, if_pos rfl, done0]
        exact ⟨1, rfl, fun _ => rfl, fun q => absurd (a4.mp (OrdP_nil inS_0)) q⟩
      · rw [if_neg (show ¬ nI L = 0 from fun q => hL ((nI_eq (b := 0) (by omega) (by decide)).mp q))]
        rcases a5 with ⟨q1, q2⟩ | q1
        · right
          subst q1
          rw [show nI 0 = 0 from rfl, if_pos rfl, done1 L (by omega) hL]
          refine ⟨0, rfl, fun q => ?_, fun _ => rfl⟩
          obtain ⟨x, -, hx⟩ := inS_ex L (by omega) hL
          obtain ⟨f, f1, f2⟩ := OrdP_src (a4.mpr q) ⟨x, hx⟩
          exact absurd f2 (q2 f f1)
        · left
          subst q1
          obtain ⟨L', ch', c1, c2, c3, c4⟩ := canIn hQ e18 hli e11 hH he a2
          rw [if_neg (show ¬ nI 1 = 0 by decide), c1]
          rcases c4 with ⟨k1, k2, k3⟩ | ⟨k1, k2⟩
          · exact ⟨_, by omega, rfl, L', ch', rfl, by omega, by omega, c3.trans a4, Or.inl ⟨k1, k3⟩⟩
          · exact ⟨_, by omega, rfl, L', ch', rfl, by omega, by omega, c3.trans a4, Or.inr k1⟩)
  exact ⟨fun q => by rw [show (1 : Int32) = nI 1 from rfl] at *; rw [g1, g2.1 q], fun q => by rw [g1, g2.2 q]⟩
/-! the class's table -/
def uW (s : hSt) (f g : Nat → Int32) : hSt := uA (uA s 220 f) 221 g
theorem uW_f {s : hSt} {f g : Nat → Int32} : (uW s f g).1 220 = f := funext fun j => by
  unfold uW
  rw [uA_row _ _ (by decide)]
  exact uA_own _ _ _ _
theorem uW_g {s : hSt} {f g : Nat → Int32} : (uW s f g).1 221 = g := funext fun j => uA_own _ _ _ _
theorem uW_row {s : hSt} {f g : Nat → Int32} {k : Nat} (h : k ≠ 220) (h2 : k ≠ 221) : (uW s f g).1 k = s.1 k := by
  unfold uW
  rw [uA_row _ _ h2, uA_row _ _ h]
theorem uW_If {s : hSt} {f g : Nat → Int32} {k : Nat} {x : Int32} : uI (uW s f g) 220 k x = uW s (upd f k x) g := by
  refine Prod.ext (funext fun c => ?_) rfl
  by_cases h1 : c = 221
  · subst h1
    rw [uI_row _ _ (by decide), uW_g, uW_g]
  · by_cases h0 : c = 220
    · subst h0
      rw [uW_f]
      funext j
      rw [uI_I]
      unfold upd
      by_cases hj : j = k
      · rw [if_pos ⟨rfl, hj⟩, if_pos hj]
      · rw [if_neg (fun q => hj q.2), if_neg hj, uW_f]
    · rw [uI_row _ _ h0, uW_row h0 h1, uW_row h0 h1]
theorem uW_Ig {s : hSt} {f g : Nat → Int32} {k : Nat} {x : Int32} : uI (uW s f g) 221 k x = uW s f (upd g k x) := by
  refine Prod.ext (funext fun c => ?_) rfl
  by_cases h1 : c = 221
  · subst h1
    rw [uW_g]
    funext j
    rw [uI_I]
    unfold upd
    by_cases hj : j = k
    · rw [if_pos ⟨rfl, hj⟩, if_pos hj]
    · rw [if_neg (fun q => hj q.2), if_neg hj, uW_g]
  · by_cases h0 : c = 220
    · subst h0
      rw [uI_row _ _ (by decide), uW_f, uW_f]
    · rw [uI_row _ _ h1, uW_row h0 h1, uW_row h0 h1]
theorem uW_self {s : hSt} : uW s (s.1 220) (s.1 221) = s := by
  refine Prod.ext (funext fun c => ?_) rfl
  by_cases h1 : c = 221
  · subst h1
    rw [uW_g]
  · by_cases h0 : c = 220
    · subst h0
      rw [uW_f]
    · rw [uW_row h0 h1]
theorem k220 : (kC (219 + 1)).2 = 64 := nC_3_0 (c := 219) (by decide)
theorem k221 : (kC (219 + 2)).2 = 64 := nC_3_1 (c := 219) (by decide)
theorem narB : vp_nar .boolean ((0 : Int32) ||| 0) = 0 ∧ vp_nar .boolean ((1 : Int32) ||| 0) = 1 ∧ vp_nar .boolean ((0 : Int32) ||| 1) = 1 ∧ vp_nar .boolean ((1 : Int32) ||| 1) = 1 ∧ vp_nar .boolean 0 = 0 ∧ vp_nar .boolean 1 = 1 := by decide
theorem hb_split {e : Nat → Int32} {S i H : Nat} (hS : S < 64) (hi : inS S i) (hH : i < H) : hb e S H = hb e (S - 2 ^ i) H ||| e i := bt_ext (fun b _ => by
  rw [bt_or, Bool.eq_iff_iff, Bool.or_eq_true, hb_bt, hb_bt]
  constructor
  · rintro ⟨h, a, c, d⟩
    by_cases q : h = i
    · exact Or.inr (q ▸ d)
    · exact Or.inl ⟨h, a, (inS_del hS hi h).mpr ⟨c, q⟩, d⟩
  · rintro (⟨h, a, c, d⟩ | d)
    · exact ⟨h, a, ((inS_del hS hi h).mp c).1, d⟩
    · exact ⟨i, hH, hi, d⟩)
theorem setIn {t H S : Nat} {s : hSt} {f g : Nat → Int32} {v : Int64} {b5 l5 l6 : Int32} (hP : HC s.2.2) (ht : t < 44) (e0 : s.1 t 0 = nI H) (hH : H ≤ 6) (hS0 : S ≠ 0) (hS : S < 2 ^ H) (hf : ∀ T, T < S → f T = hb (fun h => hC v h) T H) (hg : ∀ T, T < S → g T = 0 ∨ g T = 1) (h5 : b5 = 0 ∨ b5 = 1) :
    ∃ f' g', F_X3_setDay_86 219 t v l5 l6 (nI S) 0 (uW s (upd f S 0) (upd g S b5)) = some (.inl (nI (S + 1), uW s f' g')) ∧ (∀ T, T ≠ S → f' T = f T ∧ g' T = g T) ∧ f' S = hb (fun h => hC v h) S H ∧
      ((g' S = 1 ∧ (b5 = 1 ∨ ∃ h, h < H ∧ inS S h ∧ g (S - 2 ^ h) = 1 ∧ ¬ bt (f (S - 2 ^ h)) h = true)) ∨ (g' S = 0 ∧ ¬ (b5 = 1 ∨ ∃ h, h < H ∧ inS S h ∧ g (S - 2 ^ h) = 1 ∧ ¬ bt (f (S - 2 ^ h)) h = true))) := by
  have p64 : (2 : Nat) ^ H ≤ 64 := Nat.pow_le_pow_right (n := 2) (by decide) hH
  obtain ⟨n00, n10, n01, n11, -, -⟩ := narB
  unfold F_X3_setDay_86
  obtain ⟨x, g1, f', g', g2, g3, g4, g5⟩ := lp_go (s := S_X3_setDay_86 219 t v l5 l6 (nI S)) (v := (0, uW s (upd f S 0) (upd g S b5))) H (by rw [fuel_v]; omega)
    (fun i w => ∃ f' g', w = (nI i, uW s f' g') ∧ (∀ T, T ≠ S → f' T = f T ∧ g' T = g T) ∧ (((∀ h, h < i → ¬ inS S h) ∧ f' S = 0) ∨ ((∃ h, h < i ∧ inS S h) ∧ f' S = hb (fun h => hC v h) S H)) ∧
      ((g' S = 1 ∧ (b5 = 1 ∨ ∃ h, h < i ∧ inS S h ∧ g (S - 2 ^ h) = 1 ∧ ¬ bt (f (S - 2 ^ h)) h = true)) ∨ (g' S = 0 ∧ ¬ (b5 = 1 ∨ ∃ h, h < i ∧ inS S h ∧ g (S - 2 ^ h) = 1 ∧ ¬ bt (f (S - 2 ^ h)) h = true))))
    (fun x => ∃ f' g', x = .inl (nI (S + 1), uW s f' g') ∧ (∀ T, T ≠ S → f' T = f T ∧ g' T = g T) ∧ f' S = hb (fun h => hC v h) S H ∧
      ((g' S = 1 ∧ (b5 = 1 ∨ ∃ h, h < H ∧ inS S h ∧ g (S - 2 ^ h) = 1 ∧ ¬ bt (f (S - 2 ^ h)) h = true)) ∨ (g' S = 0 ∧ ¬ (b5 = 1 ∨ ∃ h, h < H ∧ inS S h ∧ g (S - 2 ^ h) = 1 ∧ ¬ bt (f (S - 2 ^ h)) h = true))))
    ⟨_, _, rfl, fun T hT => ⟨upd_ne hT, upd_ne hT⟩, Or.inl ⟨fun h q => absurd q (by omega), upd_eq⟩, by
      rw [upd_eq]
      rcases h5 with q | q
      · refine Or.inr ⟨q, ?_⟩
        rintro (r | ⟨h, a, -⟩)
        · rw [q] at r; exact absurd r (by decide)
        · exact absurd a (by omega)
      · exact Or.inl ⟨q, Or.inl q⟩⟩ (fun i w hi hw => by
      obtain ⟨f', g', a1, a2, a3, a4⟩ := hw
      subst a1
      have hPw : HC (uW s f' g').2.2 := hP
      unfold S_X3_setDay_86 F_X3_setDay_86b
      dsimp only
      rw [uW_row (by omega) (by omega), e0]
      have e177 : ∀ z, F_X3_setDay_177 219 t v l5 l6 (nI S) (nI i) z = some (.inl (nI (i + 1), z)) := fun z => by
        unfold F_X3_setDay_177 cL
        rw [nI_1]
      by_cases hlt : i < H
      · left
        rw [if_neg (nI_ge hlt (by omega))]
        by_cases hb0 : bt (nI S) i = true
        · obtain ⟨d1, d2⟩ := set_del S (by omega) i (by omega) hb0
          have pp : 0 < 2 ^ i := Nat.pow_pos (by decide)
          have hT : S - 2 ^ i < S := by omega
          rw [if_neg (fun q => by rw [(bt_is0 (by omega)).mp q] at hb0; cases hb0), d1]
          unfold cL
          dsimp only
          rw [rC_3_0 hPw (c := 219) (by decide), rC_3_0 hPw (c := 219) (by decide), cG_t (inb_nI (by rw [k220]; omega) (by decide)), hearersOf_eq]
          simp only [Option.bind_some]
          rw [cG_t (inb_nI (by rw [k220]; omega) (by decide)), cl_nI (n := S) (by omega), cl_nI (n := S - 2 ^ i) (by omega), show (219 + 1 : Nat) = 220 from rfl, uW_f, uW_If, (a2 _ (by omega)).1, hf _ hT]
          generalize hF : upd f' S (hb (fun h => hC v h) (S - 2 ^ i) H ||| hC v i) = F'
          have hPx : HC (uW s F' g').2.2 := hP
          rw [rC_3_1 hPx (c := 219) (by decide), cG_t (inb_nI (by rw [k221]; omega) (by decide)), rC_3_1 hPx (c := 219) (by decide), cG_t (inb_nI (by rw [k221]; omega) (by decide)), rC_3_0 hPx (c := 219) (by decide), cG_t (inb_nI (by rw [k220]; omega) (by decide)), show (219 + 2 : Nat) = 221 from rfl, show (219 + 1 : Nat) = 220 from rfl, uW_g, uW_f, (a2 _ (by omega)).2]
          have FT : F' (S - 2 ^ i) = f (S - 2 ^ i) := by rw [← hF, upd_ne (by omega)]; exact (a2 _ (by omega)).1
          have FS : F' S = hb (fun h => hC v h) S H := by rw [← hF, upd_eq, hb_split (by omega) hb0 hlt]
          have Fo : ∀ T, T ≠ S → F' T = f T := fun T q => by rw [← hF, upd_ne q]; exact (a2 _ q).1
          rw [FT]
          have e175 : ∀ x y, F_X3_setDay_175 219 t v l5 l6 (nI S) (nI i) 221 (nI S) x y (uW s F' g') = some (.inl (nI (i + 1), uW s F' (upd g' S (vp_nar .boolean (x ||| y))))) := fun x y => by
            unfold F_X3_setDay_175 cL
            rw [cG_t (inb_nI (by rw [show (221 : Nat) = 219 + 2 from rfl, k221]; omega) (by decide)), cl_nI (by omega), uW_Ig]
            exact e177 _
          have hq : (∃ h, h < i + 1 ∧ inS S h ∧ g (S - 2 ^ h) = 1 ∧ ¬ bt (f (S - 2 ^ h)) h = true) ↔ (∃ h, h < i ∧ inS S h ∧ g (S - 2 ^ h) = 1 ∧ ¬ bt (f (S - 2 ^ h)) h = true) ∨ (g (S - 2 ^ i) = 1 ∧ ¬ bt (f (S - 2 ^ i)) i = true) := by
            constructor
            · rintro ⟨h, a, c, d⟩
              by_cases q : h = i
              · exact Or.inr (q ▸ d)
              · exact Or.inl ⟨h, by omega, c, d⟩
            · rintro (⟨h, a, c, d⟩ | d)
              · exact ⟨h, by omega, c, d⟩
              · exact ⟨i, by omega, hb0, d⟩
          rw [hq]
          have keep : (¬ (g (S - 2 ^ i) = 1 ∧ ¬ bt (f (S - 2 ^ i)) i = true)) → F_X3_setDay_174 219 t v l5 l6 (nI S) (nI i) 221 (nI S) (g' S) (uW s F' g') = some (.inl (nI (i + 1), uW s F' (upd g' S (vp_nar .boolean (g' S ||| 0))))) ∧ vp_nar .boolean (g' S ||| 0) = g' S := fun _ => by
            refine ⟨e175 _ _, ?_⟩
            rcases a4 with ⟨q, -⟩ | ⟨q, -⟩ <;> rw [q]
            · exact n10
            · exact n00
          by_cases hn : g (S - 2 ^ i) = 1 ∧ ¬ bt (f (S - 2 ^ i)) i = true
          · rw [if_neg (by rw [hn.1]; decide), if_pos ((bt_is0 (by omega)).mpr (by simpa using hn.2)), e175]
            refine ⟨_, hlt, rfl, _, _, rfl, fun T q => ⟨Fo T q, by rw [upd_ne q]; exact (a2 T q).2⟩, Or.inr ⟨⟨i, by omega, hb0⟩, FS⟩, Or.inl ⟨?_, Or.inr (Or.inr hn)⟩⟩
            rw [upd_eq]
            rcases a4 with ⟨q, -⟩ | ⟨q, -⟩ <;> rw [q]
            · exact n11
            · exact n01
          · obtain ⟨k1, k2⟩ := keep hn
            have : (if g (S - 2 ^ i) = 0 then F_X3_setDay_174 219 t v l5 l6 (nI S) (nI i) 221 (nI S) (g' S) (uW s F' g') else if (f (S - 2 ^ i) >>> (nI i &&& 31)) &&& (1 : Int32) = 0 then F_X3_setDay_175 219 t v l5 l6 (nI S) (nI i) 221 (nI S) (g' S) (1 : Int32) (uW s F' g') else F_X3_setDay_174 219 t v l5 l6 (nI S) (nI i) 221 (nI S) (g' S) (uW s F' g')) = some (.inl (nI (i + 1), uW s F' (upd g' S (g' S)))) := by
              rw [k1, k2]
              rcases hg _ hT with q | q
              · rw [if_pos q]
              · rw [if_neg (by rw [q]; decide), if_neg (fun r => hn ⟨q, by rw [(bt_is0 (by omega)).mp r]; decide⟩)]
            rw [this]
            refine ⟨_, hlt, rfl, _, _, rfl, fun T q => ⟨Fo T q, by rw [upd_ne q]; exact (a2 T q).2⟩, Or.inr ⟨⟨i, by omega, hb0⟩, FS⟩, ?_⟩
            rw [upd_eq]
            rcases a4 with ⟨q, r⟩ | ⟨q, r⟩
            · refine Or.inl ⟨q, ?_⟩
              rcases r with r | r
              · exact Or.inl r
              · exact Or.inr (Or.inl r)
            · refine Or.inr ⟨q, ?_⟩
              rintro (z | z | z)
              · exact r (Or.inl z)
              · exact r (Or.inr z)
              · exact hn z
        · rw [if_pos ((bt_is0 (by omega)).mpr (by simpa using hb0)), e177]
          have hq : (∃ h, h < i + 1 ∧ inS S h ∧ g (S - 2 ^ h) = 1 ∧ ¬ bt (f (S - 2 ^ h)) h = true) ↔ (∃ h, h < i ∧ inS S h ∧ g (S - 2 ^ h) = 1 ∧ ¬ bt (f (S - 2 ^ h)) h = true) := by
            constructor
            · rintro ⟨h, a, c, d⟩
              by_cases q : h = i
              · exact absurd (q ▸ c) hb0
              · exact ⟨h, by omega, c, d⟩
            · rintro ⟨h, a, c⟩
              exact ⟨h, by omega, c⟩
          rw [hq]
          refine ⟨_, hlt, rfl, _, _, rfl, a2, ?_, a4⟩
          rcases a3 with ⟨q, r⟩ | ⟨⟨h, a, c⟩, r⟩
          · refine Or.inl ⟨fun h hh hin => ?_, r⟩
            by_cases q' : h = i
            · exact hb0 (q' ▸ hin)
            · exact q h (by omega) hin
          · exact Or.inr ⟨⟨h, by omega, c⟩, r⟩
      · right
        have : i = H := by omega
        subst this
        rw [if_pos (nI_le (by omega) (by omega))]
        unfold cL
        rw [nI_1]
        refine ⟨_, rfl, _, _, rfl, a2, ?_, a4⟩
        rcases a3 with ⟨q, -⟩ | ⟨-, r⟩
        · obtain ⟨x, x6, hx⟩ := inS_ex S (by omega) hS0
          exact absurd hx (q x (inS_H i hH S hS x x6 hx))
        · exact r)
  exact ⟨f', g', by rw [g1, g2], g3, g4, g5⟩
/-- the table of a day -/
def PlT (how H : Nat) (e : Nat → Int32) (I : Nat → Nat → Int32) : Prop := ∀ S, S < 2 ^ H → I 220 S = hb e S H ∧ (lwP how e S → I 221 S = 1) ∧ (¬ lwP how e S → I 221 S = 0)
theorem setOut {t H how : Nat} {s : hSt} {v : Int64} {b5 : Int32} (hP : HC s.2.2) (ht : t < 44) (e0 : s.1 t 0 = nI H) (hH : H ≤ 6) (h5 : (b5 = 0 ∧ (how = 1 ∨ how = 2)) ∨ (b5 = 1 ∧ ¬ (how = 1 ∨ how = 2))) :
    ∃ f g, F_X3_setDay_27 219 t v b5 s = some (uW s f g) ∧ PlT how H (fun h => hC v h) (uW s f g).1 := by
  have p64 : (2 : Nat) ^ H ≤ 64 := Nat.pow_le_pow_right (n := 2) (by decide) hH
  have sets : (if (64 : Int32) < ((1 : Int32) <<< (nI H &&& 31)) then (64 : Int32) else ((1 : Int32) <<< (nI H &&& 31))) = nI (2 ^ H) := by
    have : ∀ H, H ≤ 6 → (if (64 : Int32) < ((1 : Int32) <<< (nI H &&& 31)) then (64 : Int32) else ((1 : Int32) <<< (nI H &&& 31))) = nI (2 ^ H) := by decide +kernel
    exact this H hH
  obtain ⟨n00, n10, n01, n11, n0, n1⟩ := narB
  have b01 : b5 = 0 ∨ b5 = 1 := by
    rcases h5 with q | q
    · exact Or.inl q.1
    · exact Or.inr q.1
  have nb5 : vp_nar .boolean b5 = b5 := by rcases b01 with q | q <;> rw [q] <;> assumption
  unfold F_X3_setDay_27 F_X3_setDay_59
  rw [e0, sets]
  unfold cL
  dsimp only
  rw [rC_3_0 hP (c := 219) (by decide), cG_t (show inb (0 : Int32) (kC (219 + 1)).2 = true by rw [k220]; decide), show (0 : Int32).toNatClampNeg = 0 from rfl, show (219 + 1 : Nat) = 220 from rfl]
  have w0 : uI s 220 0 0 = uW s (upd (s.1 220) 0 0) (s.1 221) := by
    conv => lhs; rw [← uW_self (s := s)]
    rw [uW_If]
  rw [w0]
  have hP1 : HC (uW s (upd (s.1 220) 0 0) (s.1 221)).2.2 := hP
  rw [rC_3_1 hP1 (c := 219) (by decide), cG_t (show inb (0 : Int32) (kC (219 + 2)).2 = true by rw [k221]; decide), show (219 + 2 : Nat) = 221 from rfl, uW_Ig, n1]
  obtain ⟨x, g1, f, g, g2, g3⟩ := lp_go (s := S_X3_setDay_59 219 t v b5 (nI (2 ^ H))) (v := (1, uW s (upd (s.1 220) 0 0) (upd (s.1 221) 0 1))) (2 ^ H) (by rw [fuel_v]; omega)
    (fun i w => ∃ f g, w = (nI (i + 1), uW s f g) ∧ ∀ S, S < i + 1 → f S = hb (fun h => hC v h) S H ∧ (lwP how (fun h => hC v h) S → g S = 1) ∧ (¬ lwP how (fun h => hC v h) S → g S = 0))
    (fun x => ∃ f g, x = uW s f g ∧ ∀ S, S < 2 ^ H → f S = hb (fun h => hC v h) S H ∧ (lwP how (fun h => hC v h) S → g S = 1) ∧ (¬ lwP how (fun h => hC v h) S → g S = 0))
    ⟨_, _, rfl, fun S hS => by
      have : S = 0 := by omega
      subst this
      refine ⟨?_, fun _ => upd_eq, fun q => absurd lwP_0 q⟩
      rw [upd_eq]
      refine (eq0_bt.mpr (fun b _ => ?_)).symm
      by_cases q : bt (hb (fun h => hC v h) 0 H) b = true
      · obtain ⟨h, -, a, -⟩ := (hb_bt H).mp q
        exact absurd a (inS_0 h)
      · simpa using q⟩ (fun i w hi hw => by
      obtain ⟨f, g, a1, a2⟩ := hw
      subst a1
      have hPw : HC (uW s f g).2.2 := hP
      unfold S_X3_setDay_59 F_X3_setDay_59b cL
      dsimp only
      by_cases hlt : i + 1 < 2 ^ H
      · left
        rw [if_neg (nI_ge hlt (by omega)), rC_3_0 hPw (c := 219) (by decide), cG_t (inb_nI (by rw [k220]; omega) (by decide)), cl_nI (by omega), show (219 + 1 : Nat) = 220 from rfl, uW_If]
        have hPx : HC (uW s (upd f (i + 1) 0) g).2.2 := hP
        rw [rC_3_1 hPx (c := 219) (by decide), cG_t (inb_nI (by rw [k221]; omega) (by decide)), show (219 + 2 : Nat) = 221 from rfl, uW_Ig, nb5]
        obtain ⟨f', g', c1, c2, c3, c4⟩ := setIn (t := t) (S := i + 1) (f := f) (g := g) (v := v) (b5 := b5) (l5 := b5) (l6 := nI (2 ^ H)) hP ht e0 hH (by omega) hlt (fun T hT => (a2 T hT).1) (fun T hT => by
          by_cases q : lwP how (fun h => hC v h) T
          · exact Or.inr ((a2 T hT).2.1 q)
          · exact Or.inl ((a2 T hT).2.2 q)) b01
        rw [c1]
        refine ⟨_, by omega, rfl, f', g', rfl, fun S hS => ?_⟩
        by_cases hSi : S = i + 1
        · subst hSi
          have key : (b5 = 1 ∨ ∃ h, h < H ∧ inS (i + 1) h ∧ g (i + 1 - 2 ^ h) = 1 ∧ ¬ bt (f (i + 1 - 2 ^ h)) h = true) ↔ lwP how (fun h => hC v h) (i + 1) := by
            rcases h5 with ⟨q, r⟩ | ⟨q, r⟩
            · have hl : ∀ T, lwP how (fun h => hC v h) T ↔ OrdP (hsP (fun h => hC v h)) (inS T) := fun T => ⟨fun z => z.resolve_left (fun z => z r), Or.inr⟩
              rw [hl, ord_last hH hlt (by omega)]
              constructor
              · rintro (z | ⟨h, z1, z2, z3, z4⟩)
                · rw [q] at z; exact absurd z (by decide)
                · have pp : 0 < 2 ^ h := Nat.pow_pos (by decide)
                  have hT := a2 (i + 1 - 2 ^ h) (by omega)
                  refine ⟨h, z1, z2, ?_, by rw [← hT.1]; exact z4⟩
                  rw [← hl]
                  by_cases y : lwP how (fun h => hC v h) (i + 1 - 2 ^ h)
                  · exact y
                  · rw [hT.2.2 y] at z3; exact absurd z3 (by decide)
              · rintro ⟨h, z1, z2, z3, z4⟩
                have pp : 0 < 2 ^ h := Nat.pow_pos (by decide)
                have hT := a2 (i + 1 - 2 ^ h) (by omega)
                exact Or.inr ⟨h, z1, z2, hT.2.1 ((hl _).mpr z3), by rw [hT.1]; exact z4⟩
            · exact ⟨fun _ => Or.inl r, fun _ => Or.inl q⟩
          refine ⟨c3, fun q => ?_, fun q => ?_⟩
          · rcases c4 with ⟨z, -⟩ | ⟨-, z⟩
            · exact z
            · exact absurd (key.mpr q) z
          · rcases c4 with ⟨-, z⟩ | ⟨z, -⟩
            · exact absurd (key.mp z) q
            · exact z
        · rw [(c2 S hSi).1, (c2 S hSi).2]
          exact a2 S (by omega)
      · right
        rw [if_pos (nI_le (by omega) (by omega))]
        exact ⟨_, rfl, f, g, rfl, fun S hS => a2 S (by omega)⟩)
  refine ⟨f, g, by rw [g1, g2], fun S hS => ?_⟩
  rw [uW_f, uW_g]
  exact g3 S hS
