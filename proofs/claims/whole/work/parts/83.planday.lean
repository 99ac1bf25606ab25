/-! ===== PURE 48: a day of the plan, in the model ===== -/
def mn (P : Nat → Prop) : Option Nat → Prop
  | none => ∀ n, ¬ P n
  | some n => P n ∧ ∀ m, P m → n ≤ m
theorem mn_eq {P : Nat → Prop} {o o' : Option Nat} (h : mn P o) (h' : mn P o') : o = o' := by
  cases o with
  | none =>
    cases o' with
    | none => rfl
    | some n => exact absurd h'.1 (h n)
  | some n =>
    cases o' with
    | none => exact absurd h.1 (h' n)
    | some m => exact congrArg some (Nat.le_antisymm (h.2 m h'.1) (h'.2 n h.1))
theorem mn_congr {P Q : Nat → Prop} {o : Option Nat} (h : mn P o) (e : ∀ n, P n ↔ Q n) : mn Q o := by
  cases o with
  | none => exact fun n q => h n ((e n).mpr q)
  | some n => exact ⟨(e n).mp h.1, fun m q => h.2 m ((e m).mpr q)⟩
def minO (o : Option Nat) (x : Nat) : Nat := match o with
  | none => x
  | some y => if x < y then x else y
theorem mn_add {P : Nat → Prop} {o : Option Nat} {x : Nat} (h : mn P o) : mn (fun n => P n ∨ n = x) (some (minO o x)) := by
  cases o with
  | none =>
    refine ⟨Or.inr rfl, fun m q => ?_⟩
    rcases q with q | q
    · exact absurd q (h m)
    · exact Nat.le_of_eq q.symm
  | some y =>
    show (P (if x < y then x else y) ∨ (if x < y then x else y) = x) ∧ ∀ m, (P m ∨ m = x) → (if x < y then x else y) ≤ m
    by_cases q : x < y
    · rw [if_pos q]
      refine ⟨Or.inr rfl, fun m r => ?_⟩
      rcases r with r | r
      · have := h.2 m r; omega
      · omega
    · rw [if_neg q]
      refine ⟨Or.inl h.1, fun m r => ?_⟩
      rcases r with r | r
      · exact h.2 m r
      · omega
def encC : Option Nat → Int32
  | none => 1000000
  | some n => nI n
def encM : Option Nat → Int32
  | none => -1
  | some n => nI n
/-- how many a set holds -/
def pc (S : Nat) : Nat := (bcF (nI S)).toNatClampNeg
theorem pc_eq : ∀ S, S < 64 → bcF (nI S) = nI (pc S) ∧ pc S ≤ 6 ∧ (S ≠ 0 → 0 < pc S) := by decide +kernel
theorem bits_eq {S : Nat} {τ : hSt} (hS : S < 64) : F_X12_bits (nI S) τ = some (nI (pc S)) := by
  have : ∀ S, S < 64 → F_X12_bits (nI S) hZ = some (nI (pc S)) := by decide +kernel
  exact this S hS
theorem sub_le : ∀ S, S < 64 → ∀ K, K < 64 → (∀ x, x < 6 → bt (nI S) x = true → bt (nI K) x = true) → S ≤ K := by decide +kernel
theorem sub_in {S K : Nat} (hS : S < 64) : (nI S &&& (nI K ^^^ (-1 : Int32)) = 0) ↔ ∀ x, inS S x → inS K x := by
  rw [eq0_bt]
  constructor
  · intro q x hx
    have h6 := inS_lt hS hx
    have := q x (by omega)
    rw [bt_and, bt_xor, bt_m1 (by omega), show bt (nI S) x = true from hx] at this
    simpa [inS] using this
  · intro q b hb
    rw [bt_and, bt_xor, bt_m1 hb]
    by_cases h1 : bt (nI S) b = true
    · have := q b h1
      simp [show bt (nI K) b = true from this]
    · simp [h1]
/-- one step of a plan -/
def cnd (how H : Nat) (e : Nat → Int32) (c : Nat → Option Nat) (pr : Nat → Nat → Prop) (k n : Nat) : Prop :=
  ∃ K S n0, pr K S ∧ K < 2 ^ H ∧ S < 2 ^ H ∧ c K = some n0 ∧ (∀ x, inS S x → inS K x) ∧ lwP how e S ∧ nI k = nI K ||| hb e S H ∧ n = n0 + pc S
theorem then_lt {e : Nat → Int32} {K S H : Nat} (hH : H ≤ 6) (he : ∀ h, h < H → ∀ b, b < 32 → bt (e h) b = true → b < H) (hK : K < 2 ^ H) : ∃ k, k < 2 ^ H ∧ nI K ||| hb e S H = nI k := by
  have p64 : (2 : Nat) ^ H ≤ 64 := Nat.pow_le_pow_right (n := 2) (by decide) hH
  obtain ⟨n, h1, h2⟩ := lt2_of (x := nI K ||| hb e S H) hH (fun i a b => by
    by_cases q : bt (nI K ||| hb e S H) i = true
    · rw [bt_or, Bool.or_eq_true] at q
      rcases q with q | q
      · have := inS_H H hH K hK i (inS_lt (by omega) q) q
        omega
      · obtain ⟨h, x1, -, x3⟩ := (hb_bt H).mp q
        have := he h x1 i b x3
        omega
    · simpa using q)
  exact ⟨n, h1, h2⟩
theorem then_M {e : Nat → Int32} {K S H : Nat} (hs : ∀ x, inS S x → inS K x) : nI K ||| (nI S ||| hb e S H) = nI K ||| hb e S H := bt_ext (fun b _ => by
  rw [bt_or, bt_or, bt_or]
  by_cases q : bt (nI S) b = true
  · rw [show bt (nI K) b = true from hs b q]; rfl
  · simp [q])
theorem cnd_bound {how H k n B : Nat} {e : Nat → Int32} {c : Nat → Option Nat} {pr : Nat → Nat → Prop} (hH : H ≤ 6) (hc : ∀ k n, c k = some n → n ≤ B) (h : cnd how H e c pr k n) : n ≤ B + 6 := by
  have p64 : (2 : Nat) ^ H ≤ 64 := Nat.pow_le_pow_right (n := 2) (by decide) hH
  obtain ⟨K, S, n0, -, -, h1, h2, -, -, -, h3⟩ := h
  have := hc K n0 h2
  have := (pc_eq S (by omega)).2.1
  omega
theorem cnd_step {how H k n K S n0 kn : Nat} {e : Nat → Int32} {c : Nat → Option Nat} {pr pr' : Nat → Nat → Prop} (hpr : ∀ K' S', pr' K' S' ↔ pr K' S' ∨ (K' = K ∧ S' = S)) (hK : K < 2 ^ H) (hS : S < 2 ^ H) (hc : c K = some n0) (hs : ∀ x, inS S x → inS K x) (hl : lwP how e S) (hk : nI K ||| hb e S H = nI kn) (h1 : kn < 64) (h2 : k < 64) :
    cnd how H e c pr' k n ↔ cnd how H e c pr k n ∨ (k = kn ∧ n = n0 + pc S) := by
  constructor
  · rintro ⟨K', S', m, q1, q2, q3, q4, q5, q6, q7, q8⟩
    rcases (hpr K' S').mp q1 with r | ⟨r1, r2⟩
    · exact Or.inl ⟨K', S', m, r, q2, q3, q4, q5, q6, q7, q8⟩
    · subst r1 r2
      right
      rw [hk] at q7
      have : m = n0 := by rw [hc] at q4; exact (Option.some.inj q4).symm
      exact ⟨(nI_eq (by omega) (by omega)).mp q7, by rw [q8, this]⟩
  · rintro (⟨K', S', m, q1, q2⟩ | ⟨q1, q2⟩)
    · exact ⟨K', S', m, (hpr K' S').mpr (Or.inl q1), q2⟩
    · exact ⟨K, S, n0, (hpr K S).mpr (Or.inr ⟨rfl, rfl⟩), hK, hS, hc, hs, hl, by rw [q1, hk], q2⟩
theorem cnd_skip {how H k n K S : Nat} {e : Nat → Int32} {c : Nat → Option Nat} {pr pr' : Nat → Nat → Prop} (hpr : ∀ K' S', pr' K' S' ↔ pr K' S' ∨ (K' = K ∧ S' = S)) (hno : c K = none ∨ ¬ (∀ x, inS S x → inS K x) ∨ ¬ lwP how e S) :
    cnd how H e c pr k n ↔ cnd how H e c pr' k n := by
  constructor
  · rintro ⟨K', S', m, q1, q2⟩
    exact ⟨K', S', m, (hpr K' S').mpr (Or.inl q1), q2⟩
  · rintro ⟨K', S', m, q1, q2, q3, q4, q5, q6, q7⟩
    rcases (hpr K' S').mp q1 with r | ⟨r1, r2⟩
    · exact ⟨K', S', m, r, q2, q3, q4, q5, q6, q7⟩
    · subst r1 r2
      rcases hno with z | z | z
      · rw [z] at q4; cases q4
      · exact absurd q5 z
      · exact absurd q6 z
theorem cnd_pr {how H k n : Nat} {e : Nat → Int32} {c : Nat → Option Nat} {pr pr' : Nat → Nat → Prop} (h : ∀ K S, K < 2 ^ H → S < 2 ^ H → (∀ x, inS S x → inS K x) → c K ≠ none → lwP how e S → (pr K S ↔ pr' K S)) : cnd how H e c pr k n ↔ cnd how H e c pr' k n := by
  constructor
  · rintro ⟨K, S, m, q1, q2, q3, q4, q5, q6, q7⟩
    exact ⟨K, S, m, (h K S q2 q3 q5 (by rw [q4]; exact Option.some_ne_none _) q6).mp q1, q2, q3, q4, q5, q6, q7⟩
  · rintro ⟨K, S, m, q1, q2, q3, q4, q5, q6, q7⟩
    exact ⟨K, S, m, (h K S q2 q3 q5 (by rw [q4]; exact Option.some_ne_none _) q6).mpr q1, q2, q3, q4, q5, q6, q7⟩
/-- a row and the best counts of its steps -/
def rowQ (enc : Option Nat → Int32) (P : Nat → Nat → Prop) (r : Nat → Int32) : Prop := ∀ k, k < 64 → ∃ o, mn (P k) o ∧ r k = enc o
theorem rowQ_congr {enc : Option Nat → Int32} {P Q : Nat → Nat → Prop} {r : Nat → Int32} (h : rowQ enc P r) (e : ∀ k n, k < 64 → (P k n ↔ Q k n)) : rowQ enc Q r := fun k hk => by
  obtain ⟨o, h1, h2⟩ := h k hk
  exact ⟨o, mn_congr h1 (fun n => e k n hk), h2⟩
/-- the model's inner loop: one set, all that may know -/
theorem planIn {how H li S B : Nat} {e : Nat → Int32} {c : Nat → Option Nat} {τ : hSt} {g : Nat → Int32} (hQ : HM τ.2.2) (e18 : τ.1 0 18 = nI li) (hli : li < 2) (e11 : τ.1 11 li = nI H) (hH : H ≤ 6) (he : ∀ h, h < H → ∀ b, b < 32 → bt (e h) b = true → b < H)
    (hc : ∀ k, k < 64 → τ.1 39 k = encM (c k)) (hB : ∀ k n, c k = some n → n ≤ B) (hB2 : B + 6 < 1000000) (hS : S < 2 ^ H) (hl : lwP how e S) (hg : rowQ encM (cnd how H e c (fun _ S' => S' < S)) g) :
    ∃ g', F_X12_planDay_63 0 (nI S) (nI S ||| hb e S H) 0 (uA τ 40 g) = some (.inl (nI (S + 1), uA τ 40 g')) ∧ rowQ encM (cnd how H e c (fun _ S' => S' < S + 1)) g' := by
  have p64 : (2 : Nat) ^ H ≤ 64 := Nat.pow_le_pow_right (n := 2) (by decide) hH
  have p1 : (1 : Int32) <<< (nI H &&& 31) = nI (2 ^ H) := by
    have : ∀ H, H ≤ 6 → (1 : Int32) <<< (nI H &&& 31) = nI (2 ^ H) := by decide +kernel
    exact this H hH
  obtain ⟨p, hp⟩ : ∃ p, p = pc S := ⟨_, rfl⟩
  have pcS : p ≤ 6 := by rw [hp]; exact (pc_eq S (by omega)).2.1
  have hbits : ∀ z, F_X12_bits (nI S) z = some (nI p) := fun z => by rw [hp]; exact bits_eq (by omega)
  unfold F_X12_planDay_63
  obtain ⟨x, g1, g', g2, g3⟩ := lp_go (s := S_X12_planDay_63 0 (nI S) (nI S ||| hb e S H)) (v := (0, uA τ 40 g)) (2 ^ H) (by rw [fuel_v]; omega)
    (fun i w => ∃ g', w = (nI i, uA τ 40 g') ∧ rowQ encM (cnd how H e c (fun K' S' => S' < S ∨ (S' = S ∧ K' < i))) g')
    (fun x => ∃ g', x = .inl (nI (S + 1), uA τ 40 g') ∧ rowQ encM (cnd how H e c (fun _ S' => S' < S + 1)) g')
    ⟨g, rfl, rowQ_congr hg (fun k n _ => cnd_pr (fun K S' _ _ _ _ _ => ⟨fun q => Or.inl q, fun q => by omega⟩))⟩ (fun i w hi hw => by
      obtain ⟨g', a1, a2⟩ := hw
      subst a1
      have hQ' : HM (uA τ 40 g').2.2 := hQ
      unfold S_X12_planDay_63 F_X12_planDay_63b
      dsimp only
      have r0 : (uA τ 40 g').1 0 = τ.1 0 := uA_row _ _ (by decide)
      have r11 : (uA τ 40 g').1 11 = τ.1 11 := uA_row _ _ (by decide)
      have r39 : (uA τ 40 g').1 39 = τ.1 39 := uA_row _ _ (by decide)
      have r40 : (uA τ 40 g').1 40 = g' := funext fun j => uA_own _ _ _ _
      rw [rM_24 hQ', r0, e18, cG_t (inb_nI (by rw [kM_11]; exact hli) (by decide)), cl_nI (by omega), r11, e11, p1]
      have e152 : ∀ l3 z, F_X12_planDay_152 0 (nI S) l3 (nI i) z = some (.inl (nI (i + 1), z)) := fun l3 z => by
        unfold F_X12_planDay_152 cL
        rw [nI_1]
      have hpr : ∀ K' S', (S' < S ∨ (S' = S ∧ K' < i + 1)) ↔ (S' < S ∨ (S' = S ∧ K' < i)) ∨ (K' = i ∧ S' = S) := fun K' S' => by omega
      by_cases hlt : i < 2 ^ H
      · left
        rw [if_neg (nI_ge hlt (by omega)), rM_59 hQ', cG_t (inb_nI (by rw [kM_39]; omega) (by decide)), cl_nI (by omega), r39, hc i (by omega)]
        cases hci : c i with
        | none =>
          rw [if_pos (show encM none < 0 by decide), e152]
          exact ⟨_, hlt, rfl, g', rfl, rowQ_congr a2 (fun k n _ => cnd_skip hpr (Or.inl hci))⟩
        | some n0 =>
          have hn0 := hB i n0 hci
          rw [if_neg (show ¬ encM (some n0) < 0 from nI_pos (by omega))]
          by_cases hs : ∀ x, inS S x → inS i x
          · rw [if_pos ((sub_in (by omega)).mpr hs), rM_59 hQ', cG_t (inb_nI (by rw [kM_39]; omega) (by decide)), hbits]
            rw [Option.bind_some, r39, hc i (by omega), hci]
            obtain ⟨kn, k1, k2⟩ := then_lt (S := S) hH he hlt
            have eadd : encM (some n0) + nI p = nI (n0 + p) := by rw [show encM (some n0) = nI n0 from rfl, nI_add]
            unfold cL
            dsimp only
            rw [then_M hs, k2, eadd, rM_60 hQ', cG_t (inb_nI (by rw [kM_40]; omega) (by decide)), cl_nI (n := kn) (by omega), r40]
            have w143 : ∀ l3, F_X12_planDay_143 0 (nI S) l3 (nI i) (nI (n0 + p)) (nI kn) (uA τ 40 g') = some (.inl (nI (i + 1), uA τ 40 (upd g' kn (nI (n0 + p))))) := fun l3 => by
              unfold F_X12_planDay_143 cL
              rw [rM_60 hQ', cG_t (inb_nI (by rw [kM_40]; omega) (by decide)), cl_nI (by omega), uI_as, r40]
              dsimp only
              rw [e152, uA_uA]
            obtain ⟨o, o1, o2⟩ := a2 kn (by omega)
            have step : ∀ k n, k < 64 → (cnd how H e c (fun K' S' => S' < S ∨ (S' = S ∧ K' < i + 1)) k n ↔ cnd how H e c (fun K' S' => S' < S ∨ (S' = S ∧ K' < i)) k n ∨ (k = kn ∧ n = n0 + p)) := fun k n hk => by rw [hp]; exact cnd_step hpr hlt hS hci hs hl k2 (by omega) hk
            have new : ∀ k, k < 64 → k ≠ kn → ∃ o, mn (cnd how H e c (fun K' S' => S' < S ∨ (S' = S ∧ K' < i + 1)) k) o ∧ g' k = encM o := fun k hk q => by
              obtain ⟨o, p1, p2⟩ := a2 k hk
              exact ⟨o, mn_congr p1 (fun n => by rw [step k n hk]; exact ⟨Or.inl, fun r => r.resolve_right (fun r => q r.1)⟩), p2⟩
            have own : mn (cnd how H e c (fun K' S' => S' < S ∨ (S' = S ∧ K' < i + 1)) kn) (some (minO o (n0 + p))) := mn_congr (mn_add (x := n0 + p) o1) (fun n => by rw [step kn n (by omega)]; exact ⟨fun r => r.elim Or.inl (fun r => Or.inr ⟨rfl, r⟩), fun r => r.elim Or.inl (fun r => Or.inr r.2)⟩)
            rw [rM_60 hQ', cG_t (inb_nI (by rw [kM_40]; omega) (by decide)), r40, o2]
            have put : minO o (n0 + p) = n0 + p → rowQ encM (cnd how H e c (fun K' S' => S' < S ∨ (S' = S ∧ K' < i + 1))) (upd g' kn (nI (n0 + p))) := fun em k hk => by
              by_cases q : k = kn
              · subst q
                refine ⟨_, own, ?_⟩
                rw [upd_eq, em]
                rfl
              · rw [upd_ne q]
                exact new k hk q
            cases o with
            | none =>
              rw [if_pos (show encM none < 0 by decide), w143]
              exact ⟨_, hlt, rfl, _, rfl, put rfl⟩
            | some y =>
              have hy := cnd_bound hH hB o1.1
              rw [if_neg (show ¬ encM (some y) < 0 from nI_pos (by omega))]
              by_cases hyx : y ≤ n0 + p
              · rw [if_pos (show encM (some y) ≤ nI (n0 + p) from nI_le hyx (by omega)), e152]
                refine ⟨_, hlt, rfl, g', rfl, fun k hk => ?_⟩
                by_cases q : k = kn
                · subst q
                  refine ⟨_, own, ?_⟩
                  rw [o2]
                  show nI y = nI (if n0 + p < y then n0 + p else y)
                  rw [if_neg (by omega)]
                · exact new k hk q
              · rw [if_neg (show ¬ encM (some y) ≤ nI (n0 + p) from nI_ge (by omega) (by omega)), w143]
                exact ⟨_, hlt, rfl, _, rfl, put (if_pos (by omega))⟩
          · rw [if_neg (fun q => hs ((sub_in (by omega)).mp q)), e152]
            exact ⟨_, hlt, rfl, g', rfl, rowQ_congr a2 (fun k n _ => cnd_skip hpr (Or.inr (Or.inl hs)))⟩
      · right
        rw [if_pos (nI_le (by omega) (by omega))]
        unfold F_X12_planDay_158 cL
        rw [nI_1]
        refine ⟨_, rfl, g', rfl, rowQ_congr a2 (fun k n _ => cnd_pr (fun K S' hK _ _ _ _ => by omega))⟩)
  exact ⟨g', by rw [g1, g2], g3⟩
theorem planDay_eq {li d B : Nat} {D : TxD} {τ : hSt} {v : Int64} {c : Nat → Option Nat} (hD : TXok D) (hM : TM li D τ) (hd : d < 2 ^ 30) (hv : earJ D d v)
    (hc : ∀ k, k < 64 → τ.1 39 k = encM (c k)) (hB : ∀ k n, c k = some n → n ≤ B) (hB2 : B + 6 < 1000000) :
    ∃ τ', F_X12_planDay 0 (nI d) τ = some τ' ∧ TM li D τ' ∧ frM τ τ' ∧ τ'.2 = τ.2 ∧ rowQ encM (cnd (tO D) (tH D) (fun h => hC v h) c (fun _ _ => True)) (τ'.1 39) := by
  have d1 := hD.1
  have d4 := hD.2.2.2.1
  have p64 : (2 : Nat) ^ tH D ≤ 64 := Nat.pow_le_pow_right (n := 2) (by decide) d1
  have p1 : (1 : Int32) <<< (nI (tH D) &&& 31) = nI (2 ^ tH D) := by
    have : ∀ H, H ≤ 6 → (1 : Int32) <<< (nI H &&& 31) = nI (2 ^ H) := by decide +kernel
    exact this _ d1
  obtain ⟨s, z1, z2, z3, z4, z5, z6⟩ := fillsM_eq hD hM hd
  have hQ : HM s.2.2 := z2.1
  have e18 := z2.2.1.1
  have hli := z2.2.1.2
  have e11 := z2.2.2.1.1
  have he : ∀ h, h < tH D → s.1 35 h = hC v h := fun h hh => (ear_hC d1 z6 (fun a b p q => hv a b p q) hh).symm
  have hbits : ∀ h, h < tH D → ∀ b, b < 32 → bt (hC v h) b = true → b < tH D := fun h hh => by rw [← he h hh]; exact ear_lt z6 hh
  have hc' : ∀ k, k < 64 → s.1 39 k = encM (c k) := fun k hk => by rw [z5 39 (by decide) (by decide) (by decide) (by decide)]; exact hc k hk
  have f1 : frM τ s := ⟨fun j a _ _ _ => z4 j a, fun k p1 p2 p3 p4 _ _ _ _ => z5 k p1 p2 p3 p4⟩
  unfold F_X12_planDay F_X12_planDay_7
  rw [z1]
  simp only [Option.bind_some]
  have L166 : ∀ g : Nat → Int32, F_X12_planDay_166 0 0 (uA s 40 g) = some (uA (uA s 40 g) 39 (cpR 64 g (s.1 39))) := fun g => by
    unfold F_X12_planDay_166
    refine lp_eq 64 (by rw [fuel_v]; decide) (fun i w => w = (nI i, uA (uA s 40 g) 39 (cpR i g (s.1 39)))) (by
      show _ = (nI 0, uA (uA s 40 g) 39 (cpR 0 g (s.1 39)))
      have : uA (uA s 40 g) 39 (cpR 0 g (s.1 39)) = uA s 40 g := by
        refine Prod.ext (funext fun k => ?_) rfl
        by_cases q : k = 39
        · subst q
          funext j
          rw [uA_own]
          unfold cpR
          rw [if_neg (by omega), uA_row _ _ (by decide)]
        · exact uA_row _ _ q
      rw [this]
      rfl) (fun i w hi hw => ?_)
    subst hw
    have hQ' : HM (uA (uA s 40 g) 39 (cpR i g (s.1 39))).2.2 := hQ
    unfold S_X12_planDay_166 F_X12_planDay_166b cL
    dsimp only
    by_cases hlt : i < 64
    · left
      rw [if_neg (show ¬ (64 : Int32) ≤ nI i from nI_ge (b := 64) hlt (by decide)), rM_59 hQ', rM_60 hQ', cG_t (inb_nI (by rw [kM_40]; omega) (by decide)), cG_t (inb_nI (by rw [kM_39]; omega) (by decide)), cl_nI (by omega), uI_as, uA_uA]
      refine ⟨_, hlt, rfl, ?_⟩
      rw [nI_1]
      refine congrArg (fun f => (nI (i + 1), uA (uA s 40 g) 39 f)) (funext fun j => ?_)
      rw [uA_row _ _ (show (40 : Nat) ≠ 39 by decide), show (uA s 40 g).1 40 i = g i from uA_own _ _ _ _]
      unfold upd cpR
      by_cases q : j = i
      · rw [if_pos q, if_pos (by omega), q]
      · rw [if_neg q, show (uA (uA s 40 g) 39 fun k => if k < i then g k else s.1 39 k).1 39 j = (if j < i then g j else s.1 39 j) from uA_own _ _ _ _]
        by_cases r : j < i
        · rw [if_pos r, if_pos (by omega)]
        · rw [if_neg r, if_neg (by omega)]
    · right
      have : i = 64 := by omega
      subst this
      rw [if_pos (show (64 : Int32) ≤ nI 64 by decide)]
  have L28 : ∀ g : Nat → Int32, (∀ k, k < 64 → g k = -1) → ∃ τ', F_X12_planDay_28 0 0 (uA s 40 g) = some τ' ∧ ∃ g', τ' = uA (uA s 40 g') 39 (cpR 64 g' (s.1 39)) ∧ rowQ encM (cnd (tO D) (tH D) (fun h => hC v h) c (fun _ _ => True)) g' := fun g hg => by
    unfold F_X12_planDay_28
    obtain ⟨x, y1, g', y2, y3⟩ := lp_go (s := S_X12_planDay_28 0) (v := (0, uA s 40 g)) (2 ^ tH D) (by rw [fuel_v]; omega)
      (fun i w => ∃ g', w = (nI i, uA s 40 g') ∧ rowQ encM (cnd (tO D) (tH D) (fun h => hC v h) c (fun _ S' => S' < i)) g')
      (fun x => ∃ g', x = uA (uA s 40 g') 39 (cpR 64 g' (s.1 39)) ∧ rowQ encM (cnd (tO D) (tH D) (fun h => hC v h) c (fun _ _ => True)) g')
      ⟨g, rfl, fun k hk => ⟨none, fun n q => by obtain ⟨K, S, n0, q1, -⟩ := q; omega, hg k hk⟩⟩ (fun i w hi hw => by
        obtain ⟨g', a1, a2⟩ := hw
        subst a1
        have hQ' : HM (uA s 40 g').2.2 := hQ
        unfold S_X12_planDay_28 F_X12_planDay_28b
        dsimp only
        have r0 : (uA s 40 g').1 0 = s.1 0 := uA_row _ _ (by decide)
        have r11 : (uA s 40 g').1 11 = s.1 11 := uA_row _ _ (by decide)
        have r18 : (uA s 40 g').1 18 = s.1 18 := uA_row _ _ (by decide)
        have r35 : (uA s 40 g').1 35 = s.1 35 := uA_row _ _ (by decide)
        have r39 : (uA s 40 g').1 39 = s.1 39 := uA_row _ _ (by decide)
        rw [rM_24 hQ', r0, e18, cG_t (inb_nI (by rw [kM_11]; exact hli) (by decide)), cl_nI (by omega), r11, e11, p1]
        by_cases hlt : i < 2 ^ tH D
        · left
          rw [if_neg (nI_ge hlt (by omega))]
          obtain ⟨w1, w2⟩ := canDrum_eq (S := i) (how := tO D) (e := fun h => hC v h) (τ := uA s 40 g') hQ' (by rw [r0]; exact e18) hli (by rw [r11]; exact e11) (by rw [r18]; exact z2.2.2.1.2.2.1) d4 d1 (fun h hh => by rw [r35]; exact he h hh) hlt
          by_cases hl : lwP (tO D) (fun h => hC v h) i
          · rw [w1 hl]
            simp only [Option.bind_some, if_neg ne_10]
            rw [heardOf_eq (S := i) (H := tH D) (li := li) (τ := uA s 40 g') (e := fun h => hC v h) hQ' (by rw [r0]; exact e18) hli (by rw [r11]; exact e11) d1 (fun h hh => by rw [r35]; exact he h hh)]
            simp only [Option.bind_some]
            obtain ⟨g2, u1, u2⟩ := planIn (how := tO D) (S := i) (B := B) (c := c) (g := g') hQ e18 hli e11 d1 hbits hc' hB hB2 hlt hl a2
            rw [u1]
            exact ⟨_, hlt, rfl, g2, rfl, u2⟩
          · rw [w2 hl]
            simp only [Option.bind_some, if_true]
            unfold F_X12_planDay_158 cL
            rw [nI_1]
            refine ⟨_, hlt, rfl, g', rfl, rowQ_congr a2 (fun k n _ => cnd_pr (fun K S' _ _ _ _ hl' => ⟨fun q => by omega, fun q => ?_⟩))⟩
            by_cases r : S' = i
            · exact absurd (r ▸ hl') hl
            · omega
        · right
          rw [if_pos (nI_le (by omega) (by omega)), L166]
          exact ⟨_, rfl, g', rfl, rowQ_congr a2 (fun k n _ => cnd_pr (fun K S' _ _ _ _ _ => ⟨fun _ => trivial, fun _ => by omega⟩))⟩)
    exact ⟨x, y1, g', y2, y3⟩
  obtain ⟨x, y1, g', y2, y3⟩ := lp_go (s := S_X12_planDay_7 0) (v := (0, s)) 64 (by rw [fuel_v]; decide)
    (fun i w => ∃ g', w = (nI i, uA s 40 g') ∧ ∀ k, k < i → g' k = -1)
    (fun x => ∃ g', x = uA (uA s 40 g') 39 (cpR 64 g' (s.1 39)) ∧ rowQ encM (cnd (tO D) (tH D) (fun h => hC v h) c (fun _ _ => True)) g')
    ⟨s.1 40, by
      have : uA s 40 (s.1 40) = s := uA_self _ _
      rw [this]
      rfl, fun k q => absurd q (by omega)⟩ (fun i w hi hw => by
      obtain ⟨g', a1, a2⟩ := hw
      subst a1
      have hQ' : HM (uA s 40 g').2.2 := hQ
      unfold S_X12_planDay_7 F_X12_planDay_7b cL
      dsimp only
      by_cases hlt : i < 64
      · left
        rw [if_neg (show ¬ (64 : Int32) ≤ nI i from nI_ge (b := 64) hlt (by decide)), rM_60 hQ', cG_t (inb_nI (by rw [kM_40]; omega) (by decide)), cl_nI (by omega), uI_as, uA_uA, nI_1]
        refine ⟨_, hlt, rfl, _, rfl, fun k hk => ?_⟩
        rw [show (uA s 40 g').1 40 = g' from funext fun j => uA_own _ _ _ _]
        by_cases q : k = i
        · rw [q, upd_eq]
        · rw [upd_ne q]
          exact a2 k (by omega)
      · right
        have : i = 64 := by omega
        subst this
        rw [if_pos (show (64 : Int32) ≤ nI 64 by decide)]
        obtain ⟨τ', v1, g2, v2, v3⟩ := L28 g' a2
        rw [show F_X12_planDay_28 0 0 (uA s 40 g') = some τ' from v1]
        exact ⟨τ', rfl, g2, v2, v3⟩)
  have r39 : x.1 39 = cpR 64 g' (s.1 39) := by rw [y2]; exact funext fun j => uA_own _ _ _ _
  have fx : frM s x := by
    rw [y2]
    exact ⟨fun j _ _ _ _ => by rw [uA_row _ _ (show (0 : Nat) ≠ 39 by decide), uA_row _ _ (show (0 : Nat) ≠ 40 by decide)], fun k p1 p2 p3 p4 p5 p6 p7 p8 => by rw [uA_row _ _ p6, uA_row _ _ p7]⟩
  refine ⟨x, y1, TM_M z2 (by rw [y2]; rfl) fx, frM_trans f1 fx, by rw [y2]; exact z3, ?_⟩
  rw [r39]
  intro k hk
  obtain ⟨o, o1, o2⟩ := y3 k hk
  refine ⟨o, o1, ?_⟩
  unfold cpR
  rw [if_pos hk]
  exact o2
