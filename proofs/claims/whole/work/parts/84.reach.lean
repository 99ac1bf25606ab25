/-! ===== PURE 49: a day of the plan, in the class ===== -/
theorem sh64 : ∀ k, k < 64 → ((nI k).toInt64 &&& 63).toBitVec.smod 64 = BitVec.ofNat 64 k := by decide +kernel
theorem one64 : ∀ k, k < 64 → ((1 : Int64) <<< ((nI k).toInt64 &&& 63)).toBitVec = BitVec.ofNat 64 (2 ^ k) := by decide +kernel
theorem pw64 : ∀ k, k < 64 → ∀ i, i < 64 → (BitVec.ofNat 64 (2 ^ k)).getLsbD i = decide (i = k) := by decide +kernel
theorem ask64 {l : Int64} {k : Nat} (hk : k < 64) : (lg_cmp ((l >>> ((nI k).toInt64 &&& 63)) &&& (1 : Int64)) (0 : Int64) = 0) ↔ l.toBitVec.getLsbD k = false := by
  rw [lg_cmp_eq]
  have e : (l >>> ((nI k).toInt64 &&& 63)).toBitVec.getLsbD 0 = l.toBitVec.getLsbD k := by
    rw [Int64.toBitVec_shiftRight, sh64 k hk, BitVec.getLsbD_sshiftRight']
    have e1 : (BitVec.ofNat 64 k).toNat = k := by rw [BitVec.toNat_ofNat]; omega
    rw [e1]
    simp [hk]
  rw [← e]
  generalize l >>> ((nI k).toInt64 &&& 63) = y
  constructor
  · intro q
    have := congrArg (fun z : Int64 => z.toBitVec.getLsbD 0) q
    simpa using this
  · intro q
    refine Int64.toBitVec_inj.mp (BitVec.eq_of_getLsbD_eq (fun i hi => ?_))
    rw [Int64.toBitVec_and, BitVec.getLsbD_and]
    by_cases h0 : i = 0
    · rw [h0, q]; rfl
    · have : (1 : Int64).toBitVec.getLsbD i = false := by
        show (1#64).getLsbD i = false
        rw [BitVec.getLsbD_one]
        simp [h0]
      rw [this]
      simp
theorem put64 {l : Int64} {k j : Nat} (hk : k < 64) (hj : j < 64) : (l ||| ((1 : Int64) <<< ((nI k).toInt64 &&& 63))).toBitVec.getLsbD j = (l.toBitVec.getLsbD j || decide (j = k)) := by
  rw [Int64.toBitVec_or, BitVec.getLsbD_or, one64 k hk, pw64 k hk j hj]
theorem earJ_lt {D : TxD} {d : Nat} {v : Int64} (hD : TXok D) (hv : earJ D d v) : ∀ h, h < tH D → ∀ b, b < 32 → bt (hC v h) b = true → b < tH D := fun h hh b hb q => by
  have d1 := hD.1
  rw [hC_bt (by omega) hb] at q
  simp only [Bool.and_eq_true, decide_eq_true_eq] at q
  have := hv h b hh q.1
  rw [q.2] at this
  simp at this
  exact this.1
theorem setDay_eq {t d : Nat} {D : TxD} {s : hSt} (hD : TXok D) (ht : okr kC NC 7 t = true) (ht2 : t + 17 ≤ 44) (hT : TC t D s) (hd : d < 2 ^ 30) :
    ∃ s' v, F_X3_setDay 219 t (nI d) s = some s' ∧ TC t D s' ∧ s'.2.2 = s.2.2 ∧ (∀ k, ¬ (t ≤ k ∧ k < t + 17) → k ≠ 220 → k ≠ 221 → s'.1 k = s.1 k) ∧ earJ D d v ∧ PlT (tO D) (tH D) (fun h => hC v h) s'.1 := by
  have d1 := hD.1
  have d4 := hD.2.2.2.1
  obtain ⟨v, s1, y1, y2, y3, y4, y5⟩ := heardOn_eq hD ht hT hd
  have hP : HC s1.2.2 := y2.1.1
  have e8 : s1.1 t 8 = nI (tO D) := y2.1.2.1.2.2.1
  have e0 : s1.1 t 0 = nI (tH D) := y2.1.2.1.1
  have fin : ∀ f g, TC t D (uW s1 f g) ∧ (uW s1 f g).2.2 = s.2.2 ∧ (∀ k, ¬ (t ≤ k ∧ k < t + 17) → k ≠ 220 → k ≠ 221 → (uW s1 f g).1 k = s.1 k) := fun f g =>
    ⟨TC_fr y2 rfl (fun k a b => uW_row (by omega) (by omega)), y3, fun k a b c => by rw [uW_row b c]; exact (y4 k a).1⟩
  unfold F_X3_setDay
  rw [cC_t y1, e8]
  by_cases h1 : tO D = 1
  · rw [if_pos (by rw [h1]; rfl)]
    obtain ⟨f, g, w1, w2⟩ := setOut (t := t) (v := v) (b5 := 0) (how := tO D) hP (by omega) e0 d1 (Or.inl ⟨rfl, Or.inl h1⟩)
    exact ⟨_, v, w1, (fin f g).1, (fin f g).2.1, (fin f g).2.2, y5, w2⟩
  · rw [if_neg (show ¬ nI (tO D) = 1 from fun q => h1 ((nI_eq (b := 1) (by omega) (by decide)).mp q))]
    by_cases h2 : tO D = 2
    · rw [if_pos (by rw [h2]; rfl)]
      obtain ⟨f, g, w1, w2⟩ := setOut (t := t) (v := v) (b5 := 0) (how := tO D) hP (by omega) e0 d1 (Or.inl ⟨rfl, Or.inr h2⟩)
      exact ⟨_, v, w1, (fin f g).1, (fin f g).2.1, (fin f g).2.2, y5, w2⟩
    · rw [if_neg (show ¬ nI (tO D) = 2 from fun q => h2 ((nI_eq (b := 2) (by omega) (by decide)).mp q))]
      obtain ⟨f, g, w1, w2⟩ := setOut (t := t) (v := v) (b5 := 1) (how := tO D) hP (by omega) e0 d1 (Or.inr ⟨rfl, by omega⟩)
      exact ⟨_, v, w1, (fin f g).1, (fin f g).2.1, (fin f g).2.2, y5, w2⟩
theorem canSay_eq {how H S K : Nat} {e : Nat → Int32} {s : hSt} (hP : HC s.2.2) (hH : H ≤ 6) (hT : PlT how H e s.1) (hS : S < 2 ^ H) :
    ((∀ x, inS S x → inS K x) ∧ lwP how e S → F_X3_canSay 219 (nI S) (nI K) s = some 1) ∧ (¬ ((∀ x, inS S x → inS K x) ∧ lwP how e S) → F_X3_canSay 219 (nI S) (nI K) s = some 0) := by
  have p64 : (2 : Nat) ^ H ≤ 64 := Nat.pow_le_pow_right (n := 2) (by decide) hH
  have f21 : F_X3_canSay_21 s = some 0 := rfl
  have f22 : F_X3_canSay_22 1 s = some 1 := rfl
  unfold F_X3_canSay
  by_cases hs : ∀ x, inS S x → inS K x
  · rw [if_pos ((sub_in (by omega)).mpr hs), rC_3_1 hP (c := 219) (by decide), cG_t (inb_nI (by rw [k221]; omega) (by decide)), cl_nI (by omega), show (219 + 2 : Nat) = 221 from rfl]
    by_cases hl : lwP how e S
    · rw [(hT S hS).2.1 hl, if_neg ne_10]
      exact ⟨fun _ => f22, fun q => absurd ⟨hs, hl⟩ q⟩
    · rw [(hT S hS).2.2 hl, if_pos rfl]
      exact ⟨fun q => absurd q.2 hl, fun _ => f21⟩
  · rw [if_neg (fun q => hs ((sub_in (by omega)).mp q))]
    exact ⟨fun q => absurd q.1 hs, fun _ => f21⟩
/-- bits and counts -/
def rbQ (P : Nat → Nat → Prop) (l : Int64) : Prop := ∀ k, k < 64 → (l.toBitVec.getLsbD k = true ↔ ∃ n, P k n)
theorem rbQ_congr {P Q : Nat → Nat → Prop} {l : Int64} (h : rbQ P l) (e : ∀ k n, k < 64 → (P k n ↔ Q k n)) : rbQ Q l := fun k hk => by
  rw [h k hk]
  exact ⟨fun ⟨n, q⟩ => ⟨n, (e k n hk).mp q⟩, fun ⟨n, q⟩ => ⟨n, (e k n hk).mpr q⟩⟩
/-- what the class has done: the empty set, all before, this one's sets so far -/
def prC (K S : Nat) : Nat → Nat → Prop := fun K' S' => S' = 0 ∨ K' < K ∨ (K' = K ∧ S' < S)
theorem or0 {x : Int32} : x ||| 0 = x := bt_ext (fun i _ => by rw [bt_or, bt_0, Bool.or_false])
theorem hb_0 {e : Nat → Int32} : ∀ n, hb e 0 n = 0
  | 0 => rfl
  | n + 1 => by
    rw [hb_s, hb_0 n, if_neg (show ¬ bt (nI 0) n = true from inS_0 n)]
theorem pc_0 : pc 0 = 0 := by decide +kernel
theorem cnd_0 {how H k n : Nat} {e : Nat → Int32} {c : Nat → Option Nat} (hH : H ≤ 6) (hk : k < 64) (hz : ∀ k, 2 ^ H ≤ k → k < 64 → c k = none) : c k = some n ↔ cnd how H e c (prC 0 0) k n := by
  have p64 : (2 : Nat) ^ H ≤ 64 := Nat.pow_le_pow_right (n := 2) (by decide) hH
  constructor
  · intro q
    have h1 : k < 2 ^ H := by
      rcases Nat.lt_or_ge k (2 ^ H) with r | r
      · exact r
      · rw [hz k r hk] at q; cases q
    exact ⟨k, 0, n, Or.inl rfl, h1, Nat.pow_pos (by decide), q, fun x hx => absurd hx (inS_0 x), lwP_0, by rw [hb_0, or0], by rw [pc_0]; rfl⟩
  · rintro ⟨K, S, n0, q1, q2, q3, q4, q5, q6, q7, q8⟩
    have : S = 0 := by
      rcases q1 with r | r | ⟨r, r'⟩
      · exact r
      · omega
      · omega
    subst this
    rw [hb_0, or0] at q7
    have : k = K := (nI_eq (by omega) (by omega)).mp q7
    rw [pc_0] at q8
    subst this q8
    exact q4
theorem prC_s {K S : Nat} (h : S ≠ 0) : ∀ K' S', prC K (S + 1) K' S' ↔ prC K S K' S' ∨ (K' = K ∧ S' = S) := fun K' S' => by
  unfold prC
  omega
theorem prC_end {how H k n K : Nat} {e : Nat → Int32} {c : Nat → Option Nat} (hH : H ≤ 6) (hK : K < 2 ^ H) : cnd how H e c (prC K (K + 1)) k n ↔ cnd how H e c (prC (K + 1) 1) k n := by
  have p64 : (2 : Nat) ^ H ≤ 64 := Nat.pow_le_pow_right (n := 2) (by decide) hH
  refine cnd_pr (fun K' S' h1 h2 h3 _ _ => ?_)
  have : S' ≤ K' := sub_le S' (by omega) K' (by omega) (fun x _ hx => h3 x hx)
  unfold prC
  omega
theorem prC_none {how H k n K S : Nat} {e : Nat → Int32} {c : Nat → Option Nat} (hc : c K = none) : cnd how H e c (prC K S) k n ↔ cnd how H e c (prC (K + 1) 1) k n := by
  refine cnd_pr (fun K' S' h1 h2 h3 h4 _ => ?_)
  have : K' ≠ K := fun e => h4 (e ▸ hc)
  unfold prC
  omega
theorem prC_all {how H k n K : Nat} {e : Nat → Int32} {c : Nat → Option Nat} (hK : 2 ^ H ≤ K) : cnd how H e c (prC K 1) k n ↔ cnd how H e c (fun _ _ => True) k n :=
  cnd_pr (fun K' S' h1 h2 h3 _ _ => ⟨fun _ => trivial, fun _ => Or.inr (Or.inl (by omega))⟩)
theorem reached_eq {how H : Nat} {e : Nat → Int32} {c : Nat → Option Nat} {s : hSt} {l : Int64} (hP : HC s.2.2) (hH : H ≤ 6) (he : ∀ h, h < H → ∀ b, b < 32 → bt (e h) b = true → b < H) (hT : PlT how H e s.1) (hz : ∀ k, 2 ^ H ≤ k → k < 64 → c k = none) (hl : ∀ k, k < 64 → (l.toBitVec.getLsbD k = true ↔ c k ≠ none)) :
    ∃ l', F_X3_reachedNext 219 l (nI (2 ^ H)) s = some l' ∧ rbQ (cnd how H e c (fun _ _ => True)) l' := by
  have p64 : (2 : Nat) ^ H ≤ 64 := Nat.pow_le_pow_right (n := 2) (by decide) hH
  unfold F_X3_reachedNext F_X3_reachedNext_6
  have e67 : ∀ K m, F_X3_reachedNext_67 219 l (nI (2 ^ H)) m (nI K) s = some (.inl (m, nI (K + 1))) := fun K m => by
    unfold F_X3_reachedNext_67 cL
    rw [nI_1]
  have inner : ∀ K m, K < 2 ^ H → c K ≠ none → rbQ (cnd how H e c (prC K 1)) m → ∃ m', F_X3_reachedNext_26 219 l (nI (2 ^ H)) m (nI K) 1 s = some (.inl (m', nI (K + 1))) ∧ rbQ (cnd how H e c (prC K (K + 1))) m' := fun K m hK hcK hm => by
    unfold F_X3_reachedNext_26
    obtain ⟨x, g1, m', g2, g3⟩ := lp_go (s := S_X3_reachedNext_26 219 l (nI (2 ^ H)) (nI K) s) (v := (m, 1)) K (by rw [fuel_v]; omega)
      (fun i w => ∃ m', w = (m', nI (i + 1)) ∧ rbQ (cnd how H e c (prC K (i + 1))) m')
      (fun x => ∃ m', x = .inl (m', nI (K + 1)) ∧ rbQ (cnd how H e c (prC K (K + 1))) m')
      ⟨m, rfl, hm⟩ (fun i w hi hw => by
        obtain ⟨m', a1, a2⟩ := hw
        subst a1
        unfold S_X3_reachedNext_26 F_X3_reachedNext_26b
        dsimp only
        have e61 : ∀ m, F_X3_reachedNext_61 219 l (nI (2 ^ H)) m (nI K) (nI (i + 1)) s = some (.inl (m, nI (i + 1 + 1))) := fun m => by
          unfold F_X3_reachedNext_61 cL
          rw [nI_1]
        by_cases hlt : i < K
        · left
          rw [if_neg (nI_nlt (by omega) (by omega))]
          obtain ⟨w1, w2⟩ := canSay_eq (S := i + 1) (K := K) hP hH hT (by omega)
          by_cases hs : (∀ x, inS (i + 1) x → inS K x) ∧ lwP how e (i + 1)
          · rw [w1 hs, Option.bind_some, if_neg ne_10, rC_3_0 hP (c := 219) (by decide), cG_t (inb_nI (by rw [k220]; omega) (by decide)), cl_nI (by omega), show (219 + 1 : Nat) = 220 from rfl, (hT (i + 1) (by omega)).1]
            obtain ⟨kn, k1, k2⟩ := then_lt (S := i + 1) hH he hK
            unfold cL
            dsimp only
            rw [k2, e61]
            refine ⟨_, hlt, rfl, _, rfl, fun k hk => ?_⟩
            rw [put64 (by omega) hk, Bool.or_eq_true, decide_eq_true_eq, a2 k hk]
            obtain ⟨n0, hn0⟩ := Option.ne_none_iff_exists'.mp hcK
            have st : ∀ n, cnd how H e c (prC K (i + 1 + 1)) k n ↔ cnd how H e c (prC K (i + 1)) k n ∨ (k = kn ∧ n = n0 + pc (i + 1)) := fun n => cnd_step (prC_s (by omega)) hK (by omega) hn0 hs.1 hs.2 k2 (by omega) hk
            constructor
            · rintro (⟨n, q⟩ | q)
              · exact ⟨n, (st n).mpr (Or.inl q)⟩
              · exact ⟨_, (st _).mpr (Or.inr ⟨q, rfl⟩)⟩
            · rintro ⟨n, q⟩
              rcases (st n).mp q with q | q
              · exact Or.inl ⟨n, q⟩
              · exact Or.inr q.1
          · rw [w2 hs, Option.bind_some, if_pos rfl, e61]
            refine ⟨_, hlt, rfl, m', rfl, rbQ_congr a2 (fun k n _ => cnd_skip (prC_s (by omega)) (Or.inr ?_))⟩
            by_cases q : ∀ x, inS (i + 1) x → inS K x
            · exact Or.inr (fun r => hs ⟨q, r⟩)
            · exact Or.inl q
        · right
          have : i = K := by omega
          subst this
          rw [if_pos (nI_lt (by omega) (by omega)), e67]
          exact ⟨_, rfl, m', rfl, a2⟩)
    exact ⟨m', by rw [g1, g2], g3⟩
  obtain ⟨x, g1, g2⟩ := lp_go (s := S_X3_reachedNext_6 219 l (nI (2 ^ H)) s) (v := (l, 0)) (2 ^ H) (by rw [fuel_v]; omega)
    (fun K w => ∃ m, w = (m, nI K) ∧ rbQ (cnd how H e c (prC K 1)) m)
    (fun x => rbQ (cnd how H e c (fun _ _ => True)) x)
    ⟨l, rfl, fun k hk => by
      rw [hl k hk, Option.ne_none_iff_exists']
      constructor
      · rintro ⟨n, q⟩
        refine ⟨n, (cnd_pr (fun K S _ _ _ _ _ => ?_)).mp ((cnd_0 hH hk hz).mp q)⟩
        unfold prC
        omega
      · rintro ⟨n, q⟩
        refine ⟨n, (cnd_0 (how := how) (e := e) hH hk hz).mpr ((cnd_pr (fun K S _ _ _ _ _ => ?_)).mpr q)⟩
        unfold prC
        omega⟩ (fun K w hK hw => by
      obtain ⟨m, a1, a2⟩ := hw
      subst a1
      unfold S_X3_reachedNext_6 F_X3_reachedNext_6b
      dsimp only
      by_cases hlt : K < 2 ^ H
      · left
        rw [if_neg (nI_ge hlt (by omega))]
        by_cases hb : l.toBitVec.getLsbD K = true
        · rw [if_neg (fun q => by rw [(ask64 (by omega)).mp q] at hb; cases hb)]
          obtain ⟨m', c1, c2⟩ := inner K m hlt ((hl K (by omega)).mp hb) a2
          rw [c1]
          exact ⟨_, hlt, rfl, m', rfl, rbQ_congr c2 (fun k n _ => prC_end hH hlt)⟩
        · rw [if_pos ((ask64 (by omega)).mpr (by simpa using hb)), e67]
          have : c K = none := Classical.byContradiction (fun q => hb ((hl K (by omega)).mpr q))
          exact ⟨_, hlt, rfl, m, rfl, rbQ_congr a2 (fun k n _ => prC_none this)⟩
      · right
        rw [if_pos (nI_le (by omega) (by omega))]
        exact ⟨m, rfl, rbQ_congr a2 (fun k n _ => prC_all (by omega))⟩)
  exact ⟨x, g1, g2⟩
