/-! ===== PURE 41: the JDK's bitCount on 24 bits; count ===== -/
theorem and3 (N M : Nat) : N &&& M = ((N % 256) &&& (M % 256)) + 256 * (((N / 256) % 256) &&& ((M / 256) % 256)) + 65536 * ((N / 65536) &&& (M / 65536)) := by
  have h1 : (N &&& M) % 2 ^ 8 = (N % 2 ^ 8) &&& (M % 2 ^ 8) := Nat.and_mod_two_pow
  have h2 : (N &&& M) / 2 ^ 8 = (N / 2 ^ 8) &&& (M / 2 ^ 8) := Nat.and_div_two_pow
  have h3 : (N &&& M) / 2 ^ 16 = (N / 2 ^ 16) &&& (M / 2 ^ 16) := Nat.and_div_two_pow
  have h4 : ((N / 2 ^ 8) &&& (M / 2 ^ 8)) % 2 ^ 8 = ((N / 2 ^ 8) % 2 ^ 8) &&& ((M / 2 ^ 8) % 2 ^ 8) := Nat.and_mod_two_pow
  rw [← h2] at h4
  simp only [show (2 : Nat) ^ 8 = 256 from rfl, show (2 : Nat) ^ 16 = 65536 from rfl] at h1 h3 h4
  rw [← h1, ← h3, ← h4]
  generalize N &&& M = T
  omega
def s1B (x : Nat) : Nat := x - (x / 2 &&& 85)
def s2B (x : Nat) : Nat := (x &&& 51) + (x / 4 &&& 51)
def s3B (x : Nat) : Nat := (x + x / 16) % 16
def bN (x i : Nat) : Nat := if x.testBit i then 1 else 0
def pop8 (x : Nat) : Nat := bN x 0 + bN x 1 + bN x 2 + bN x 3 + bN x 4 + bN x 5 + bN x 6 + bN x 7
theorem b1_all : ∀ x, x < 256 → s1B x < 256 ∧ (x / 2 &&& 85) ≤ x ∧ s2B (s1B x) ≤ 68 ∧ s2B (s1B x) % 16 ≤ 4 ∧ s3B (s2B (s1B x)) = pop8 x ∧ (x / 2 &&& 21845) = (x / 2 &&& 85) ∧ (x &&& 13107) = (x &&& 51) ∧ (x / 4 &&& 13107) = (x / 4 &&& 51) := by decide +kernel
theorem b1_lo : ∀ x, x < 256 → ∀ e, e < 2 → (x / 2 + 128 * e) &&& 85 = x / 2 &&& 85 := by decide +kernel
theorem b2_lo : ∀ x, x < 256 → ∀ e, e < 4 → (x / 4 + 64 * e) &&& 51 = x / 4 &&& 51 := by decide +kernel
theorem w1_eq {a b c : Nat} (ha : a < 256) (hb : b < 256) (hc : c < 256) : (a + 256 * b + 65536 * c) / 2 &&& 1431655765 = (a / 2 &&& 85) + 256 * (b / 2 &&& 85) + 65536 * (c / 2 &&& 85) := by
  rw [and3]
  simp only [show (1431655765 : Nat) / 65536 = 21845 from rfl, show (1431655765 : Nat) / 256 = 5592405 from rfl, show (5592405 : Nat) % 256 = 85 from rfl, show (1431655765 : Nat) % 256 = 85 from rfl]
  rw [show (a + 256 * b + 65536 * c) / 2 % 256 = a / 2 + 128 * (b % 2) by omega, show (a + 256 * b + 65536 * c) / 2 / 256 % 256 = b / 2 + 128 * (c % 2) by omega, show (a + 256 * b + 65536 * c) / 2 / 65536 = c / 2 by omega]
  rw [b1_lo a ha _ (by omega), b1_lo b hb _ (by omega), (b1_all c hc).2.2.2.2.2.1]
theorem w2_eq {a b c : Nat} (ha : a < 256) (hb : b < 256) (hc : c < 256) : (a + 256 * b + 65536 * c &&& 858993459) + ((a + 256 * b + 65536 * c) / 4 &&& 858993459) = s2B a + 256 * s2B b + 65536 * s2B c := by
  rw [and3 (a + 256 * b + 65536 * c), and3 ((a + 256 * b + 65536 * c) / 4)]
  simp only [show (858993459 : Nat) / 65536 = 13107 from rfl, show (858993459 : Nat) / 256 = 3355443 from rfl, show (3355443 : Nat) % 256 = 51 from rfl, show (858993459 : Nat) % 256 = 51 from rfl]
  rw [show (a + 256 * b + 65536 * c) % 256 = a by omega, show (a + 256 * b + 65536 * c) / 256 % 256 = b by omega, show (a + 256 * b + 65536 * c) / 65536 = c by omega]
  rw [show (a + 256 * b + 65536 * c) / 4 % 256 = a / 4 + 64 * (b % 4) by omega, show (a + 256 * b + 65536 * c) / 4 / 256 % 256 = b / 4 + 64 * (c % 4) by omega, show (a + 256 * b + 65536 * c) / 4 / 65536 = c / 4 by omega]
  rw [b2_lo a ha _ (by omega), b2_lo b hb _ (by omega), (b1_all c hc).2.2.2.2.2.2.1, (b1_all c hc).2.2.2.2.2.2.2]
  unfold s2B
  omega
theorem and15 (x : Nat) : x &&& 15 = x % 16 := Nat.and_two_pow_sub_one_eq_mod x 4
theorem and3855 {x : Nat} (h : x < 256) : x &&& 3855 = x % 16 := by
  have : ∀ x, x < 256 → x &&& 3855 = x % 16 := by decide +kernel
  exact this x h
theorem w3_eq {a b c : Nat} (ha : a ≤ 68) (hb : b ≤ 68) (hc : c ≤ 68) (hb4 : b % 16 ≤ 4) (hc4 : c % 16 ≤ 4) : (a + 256 * b + 65536 * c + (a + 256 * b + 65536 * c) / 16 &&& 252645135) = s3B a + 256 * s3B b + 65536 * s3B c := by
  rw [and3]
  simp only [show (252645135 : Nat) / 65536 = 3855 from rfl, show (252645135 : Nat) / 256 = 986895 from rfl, show (986895 : Nat) % 256 = 15 from rfl, show (252645135 : Nat) % 256 = 15 from rfl]
  have e : a + 256 * b + 65536 * c + (a + 256 * b + 65536 * c) / 16 = (a + a / 16 + 16 * (b % 16)) + 256 * (b + b / 16 + 16 * (c % 16)) + 65536 * (c + c / 16) := by omega
  rw [e]
  have h1 : a + a / 16 + 16 * (b % 16) < 256 := by omega
  have h2 : b + b / 16 + 16 * (c % 16) < 256 := by omega
  have h3 : c + c / 16 < 256 := by omega
  have g : ∀ A B C : Nat, A < 256 → B < 256 → C < 256 → (A + 256 * B + 65536 * C) % 256 = A ∧ (A + 256 * B + 65536 * C) / 256 % 256 = B ∧ (A + 256 * B + 65536 * C) / 65536 = C := fun A B C _ _ _ => by omega
  obtain ⟨g1, g2, g3⟩ := g _ _ _ h1 h2 h3
  rw [g1, g2, g3, and15, and15, and3855 h3]
  unfold s3B
  omega
theorem nI_and {a b : Nat} (ha : a < 2 ^ 32) (hb : b < 2 ^ 32) : nI a &&& nI b = nI (a &&& b) := by
  apply Int32.toBitVec_inj.mp
  apply BitVec.eq_of_toNat_eq
  rw [Int32.toBitVec_and, BitVec.toNat_and, pk_tn ha, pk_tn hb, pk_tn (Nat.lt_of_le_of_lt Nat.and_le_left ha)]
theorem shr_1 {n : Nat} (hn : n < 2 ^ 32) : ((nI n).toUInt32 >>> ((1 : Int32).toUInt32 &&& Int32.toUInt32 31)).toInt32 = nI (n / 2) := pk_ushrN hn 1 1 (by decide)
theorem shr_2 {n : Nat} (hn : n < 2 ^ 32) : ((nI n).toUInt32 >>> ((2 : Int32).toUInt32 &&& Int32.toUInt32 31)).toInt32 = nI (n / 4) := pk_ushrN hn 2 2 (by decide)
theorem shr_4 {n : Nat} (hn : n < 2 ^ 32) : ((nI n).toUInt32 >>> ((4 : Int32).toUInt32 &&& Int32.toUInt32 31)).toInt32 = nI (n / 16) := pk_ushrN hn 4 4 (by decide)
theorem shr_8 {n : Nat} (hn : n < 2 ^ 32) : ((nI n).toUInt32 >>> ((8 : Int32).toUInt32 &&& Int32.toUInt32 31)).toInt32 = nI (n / 256) := pk_ushrN hn 8 8 (by decide)
theorem shr_16 {n : Nat} (hn : n < 2 ^ 32) : ((nI n).toUInt32 >>> ((16 : Int32).toUInt32 &&& Int32.toUInt32 31)).toInt32 = nI (n / 65536) := pk_ushrN hn 16 16 (by decide)
theorem fin64 : ∀ p, p < 9 → ∀ q, q < 9 → ∀ r, r < 9 → (p + 256 * q + 65536 * r + (p + 256 * q + 65536 * r) / 256 + (p + 256 * q + 65536 * r + (p + 256 * q + 65536 * r) / 256) / 65536) % 2 ^ 6 = p + q + r := by decide +kernel
theorem bc_24 {n : Nat} (hn : n < 2 ^ 24) {σ : hSt} : F_J6_bitCount_0f7a4 (nI n) σ = some (nI (pop8 (n % 256) + pop8 (n / 256 % 256) + pop8 (n / 65536))) := by
  have ha : n % 256 < 256 := Nat.mod_lt _ (by decide)
  have hb : n / 256 % 256 < 256 := Nat.mod_lt _ (by decide)
  have hc : n / 65536 < 256 := by omega
  have en : n = n % 256 + 256 * (n / 256 % 256) + 65536 * (n / 65536) := by omega
  generalize n % 256 = a at ha en ⊢
  generalize n / 256 % 256 = b at hb en ⊢
  generalize n / 65536 = c at hc en ⊢
  subst en
  obtain ⟨a1, a2, a3, a4, a5, -⟩ := b1_all a ha
  obtain ⟨b1, b2, b3, b4, b5, -⟩ := b1_all b hb
  obtain ⟨c1, c2, c3, c4, c5, -⟩ := b1_all c hc
  have p8 : ∀ x, x < 256 → pop8 x ≤ 8 := by decide +kernel
  have pa := p8 a ha
  have pb := p8 b hb
  have pc := p8 c hc
  unfold F_J6_bitCount_0f7a4 cL
  dsimp only
  rw [shr_1 (by omega), show (1431655765 : Int32) = nI 1431655765 from rfl, nI_and (by omega) (by decide), w1_eq ha hb hc, pk_sub (by omega)]
  have e1 : a + 256 * b + 65536 * c - ((a / 2 &&& 85) + 256 * (b / 2 &&& 85) + 65536 * (c / 2 &&& 85)) = s1B a + 256 * s1B b + 65536 * s1B c := by
    unfold s1B
    omega
  rw [e1, shr_2 (by omega), show (858993459 : Int32) = nI 858993459 from rfl, nI_and (by omega) (by decide), nI_and (by omega) (by decide), nI_add, w2_eq a1 b1 c1, shr_4 (by omega), nI_add, show (252645135 : Int32) = nI 252645135 from rfl, nI_and (by omega) (by decide), w3_eq a3 b3 c3 b4 c4, a5, b5, c5, shr_8 (by omega), nI_add, shr_16 (by omega), nI_add, show (63 : Int32) = nI 63 from rfl, nI_and (by omega) (by decide), Nat.and_two_pow_sub_one_eq_mod _ 6, fin64 _ (by omega) _ (by omega) _ (by omega)]
theorem bt_nI {n i : Nat} (hi : i < 32) : bt (nI n) i = n.testBit i := by
  show (BitVec.ofNat 32 n).getLsbD i = n.testBit i
  rw [BitVec.getLsbD_ofNat]
  simp [hi]
theorem nI_bits {x : Int32} (h : ∀ i, 24 ≤ i → i < 32 → bt x i = false) : ∃ n, n < 2 ^ 24 ∧ x = nI n := by
  refine ⟨x.toBitVec.toNat, ?_, ?_⟩
  · apply Nat.lt_pow_two_of_testBit
    intro i hi
    by_cases h32 : i < 32
    · exact h i hi h32
    · exact Nat.testBit_lt_two_pow (Nat.lt_of_lt_of_le x.toBitVec.isLt (Nat.pow_le_pow_right (by decide) (by omega)))
  · apply Int32.toBitVec_inj.mp
    show x.toBitVec = BitVec.ofNat 32 x.toBitVec.toNat
    rw [BitVec.ofNat_toNat, BitVec.setWidth_eq]
def bI (x : Int32) (i : Nat) : Nat := if bt x i then 1 else 0
theorem bN_lo {n i : Nat} (hi : i < 8) : bN (n % 256) i = bI (nI n) i := by
  unfold bN bI
  rw [bt_nI (by omega), show (256 : Nat) = 2 ^ 8 from rfl, Nat.testBit_mod_two_pow]
  simp [hi]
theorem bN_mi {n i : Nat} (hi : i < 8) : bN (n / 256 % 256) i = bI (nI n) (8 + i) := by
  unfold bN bI
  rw [bt_nI (by omega), show (256 : Nat) = 2 ^ 8 from rfl, Nat.testBit_mod_two_pow, Nat.testBit_div_two_pow]
  simp [hi, Nat.add_comm]
theorem bN_hi {n i : Nat} (hi : i < 8) : bN (n / 65536) i = bI (nI n) (16 + i) := by
  unfold bN bI
  rw [bt_nI (by omega), show (65536 : Nat) = 2 ^ 16 from rfl, Nat.testBit_div_two_pow]
  simp [Nat.add_comm]
def sumN (f : Nat → Nat) : Nat → Nat
  | 0 => 0
  | n + 1 => sumN f n + f n
theorem bc_known {x : Int32} {σ : hSt} (h : ∀ i, 24 ≤ i → i < 32 → bt x i = false) : F_J6_bitCount_0f7a4 x σ = some (nI (sumN (bI x) 24)) := by
  obtain ⟨n, hn, e⟩ := nI_bits h
  subst e
  rw [bc_24 hn]
  congr 2
  unfold pop8
  rw [bN_lo (by decide), bN_lo (by decide), bN_lo (by decide), bN_lo (by decide), bN_lo (by decide), bN_lo (by decide), bN_lo (by decide), bN_lo (by decide), bN_mi (by decide), bN_mi (by decide), bN_mi (by decide), bN_mi (by decide), bN_mi (by decide), bN_mi (by decide), bN_mi (by decide), bN_mi (by decide), bN_hi (by decide), bN_hi (by decide), bN_hi (by decide), bN_hi (by decide), bN_hi (by decide), bN_hi (by decide), bN_hi (by decide), bN_hi (by decide)]
  simp only [sumN, Nat.reduceAdd]
  omega
theorem bc_8 : ∀ h, h < 8 → bcF (nI h) = nI (sumN (bI (nI h)) 3) := by decide +kernel
theorem sum_re (f : Nat → Nat) : sumN (fun k => f (6 * (k % 4) + k / 4)) 24 = sumN f 24 := by
  simp only [sumN, Nat.reduceAdd, Nat.reduceMod, Nat.reduceDiv, Nat.reduceMul]
  omega
theorem sumN_congr {f g : Nat → Nat} : ∀ n, (∀ i, i < n → f i = g i) → sumN f n = sumN g n
  | 0, _ => rfl
  | n + 1, h => by
    unfold sumN
    rw [sumN_congr n (fun i hi => h i (by omega)), h n (by omega)]
theorem count13 {τ : hSt} {g : Nat → Nat} (hQ : HM τ.2.2) (h : ∀ k, k < 24 → τ.1 36 k = nI (g k)) : F_X12_count_226 0 0 0 τ = some (nI (sumN g 24)) := by
  unfold F_X12_count_226
  refine lp_eq 24 (by rw [fuel_v]; decide) (fun i v => v = (nI (sumN g i), nI i)) rfl (fun i v hi hv => ?_)
  subst hv
  unfold S_X12_count_226 F_X12_count_226b
  dsimp only
  by_cases hlt : i < 24
  · left
    unfold cL
    rw [if_neg (show ¬ (24 : Int32) ≤ nI i from nI_ge (b := 24) hlt (by decide)), rM_53 hQ, cG_t (inb_nI (by rw [kM_36]; omega) (by decide)), cl_nI (by omega), h i hlt, nI_add, nI_1]
    exact ⟨_, hlt, rfl, rfl⟩
  · right
    have : i = 24 := by omega
    subst this
    rw [if_pos (show (24 : Int32) ≤ nI 24 by decide)]
theorem count_ans {b : Nat} {σ τ : hSt} {x : Int32} (h : Rr b σ τ) : ∃ v, F_X11_count 0 x σ = some v ∧ F_X12_count 0 x τ = some v := by
  obtain ⟨t, li, D, ht, hD, hC, hM, ⟨tn, p1, p2, p3, p4⟩, h2, h3, ⟨s, nx, m1, m2, m3, m4, m5, m6⟩, ⟨hh, k1, k2, k3⟩, ⟨td, u1, u2, u3, u4⟩⟩ := h
  have hP : HC σ.2.2 := hC.1.1
  have hQ : HM τ.2.2 := hM.1
  obtain ⟨ht1, ht2⟩ := Rat_ok ht
  obtain ⟨n, d, hW, -⟩ := h3
  have gl : ∀ c, (kM c).2 = 2 → inb (nI li) (kM c).2 = true := fun c e => inb_nI (by rw [e]; exact hM.2.1.2) (by rw [e]; decide)
  have cl : (nI li).toNatClampNeg = li := cl_nI (by have := hM.2.1.2; omega)
  have hli := hM.2.1.2
  unfold F_X11_count F_X12_count
  simp only [hM.2.1.1]
  by_cases e0 : x = 0
  · simp only [if_pos e0]
    rw [Rat_c ht, rM_24 hQ, cG_t (gl 11 rfl), cl, hM.2.2.1.1, hC.1.2.1.1]
    exact ⟨_, rfl, rfl⟩
  simp only [if_neg e0]
  by_cases e1 : x = 1
  · simp only [if_pos e1]
    rw [Rat_c ht, rM_27 hQ, cG_t (gl 14 rfl), cl, hM.2.2.1.2.1, hC.1.2.1.2.1]
    exact ⟨_, rfl, rfl⟩
  simp only [if_neg e1]
  by_cases e2 : x = 2
  · simp only [if_pos e2]
    rw [rC_11_5' hP, rM_53 hQ, cG_t (show inb (120 : Int32) (kM 36).2 = true by rw [kM_36]; decide), show (120 : Int32).toNatClampNeg = 120 from rfl, hW.1.1]
    exact ⟨_, rfl, rfl⟩
  simp only [if_neg e2]
  by_cases e3 : x = 3
  · simp only [if_pos e3]
    rw [rC_11_5' hP, rM_53 hQ, cG_t (show inb (121 : Int32) (kM 36).2 = true by rw [kM_36]; decide), show (121 : Int32).toNatClampNeg = 121 from rfl, hW.2.1, hW.2.2.1]
    exact ⟨_, rfl, rfl⟩
  simp only [if_neg e3]
  by_cases e4 : x = 4
  · simp only [if_pos e4]
    rw [rC_11_5' hP, rM_53 hQ, cG_t (show inb (122 : Int32) (kM 36).2 = true by rw [kM_36]; decide), show (122 : Int32).toNatClampNeg = 122 from rfl, hW.1.2.1]
    exact ⟨_, rfl, rfl⟩
  simp only [if_neg e4]
  by_cases e5 : x = 5
  · simp only [if_pos e5]
    rw [Rat_c ht, rM_31 hQ, cG_t (gl 18 rfl), cl, hM.2.2.1.2.2.1, hC.1.2.1.2.2.1]
    exact ⟨_, rfl, rfl⟩
  simp only [if_neg e5]
  by_cases e6 : x = 6
  · simp only [if_pos e6]
    rw [Rat_c ht, rM_32 hQ, cG_t (gl 19 rfl), cl, hM.2.2.1.2.2.2, hC.1.2.1.2.2.2]
    exact ⟨_, rfl, rfl⟩
  simp only [if_neg e6]
  have w0 := hM.2.2.2.2.2.2.1.1
  have w1 := hM.2.2.2.2.2.2.2.1.1
  by_cases e7 : x = 7
  · simp only [if_pos e7]
    rw [Rat_c ht, rC_7_6 hP ht1, rM_29 hQ, show (2 : Int32) * nI li = nI (2 * li) from pk_mul 2 li, cG_t (inb_nI (by rw [kM_16]; omega) (by decide)), cl_nI (by omega), w0, hC.1.2.2.2.2.2.1.1]
    exact ⟨_, rfl, rfl⟩
  simp only [if_neg e7]
  by_cases e8 : x = 8
  · simp only [if_pos e8]
    rw [Rat_c ht, rC_7_7 hP ht1, rM_29 hQ, show (2 : Int32) * nI li = nI (2 * li) from pk_mul 2 li, nI_1, cG_t (inb_nI (by rw [kM_16]; omega) (by decide)), cl_nI (by omega), w1, hC.1.2.2.2.2.2.2.1.1]
    exact ⟨_, rfl, rfl⟩
  simp only [if_neg e8]
  by_cases e9 : x = 9
  · simp only [if_pos e9]
    rw [rC_11_0' hP, p2, p3]
    exact ⟨_, rfl, rfl⟩
  simp only [if_neg e9]
  by_cases e10 : x = 10
  · simp only [if_pos e10]
    rw [rC_11_7' hP, m3, m5]
    exact ⟨_, rfl, rfl⟩
  simp only [if_neg e10]
  by_cases e11 : x = 11
  · simp only [if_pos e11]
    rw [rC_11_10' hP, u2, u3]
    exact ⟨_, rfl, rfl⟩
  simp only [if_neg e11]
  by_cases e12 : x = 12
  · simp only [if_pos e12]
    rw [k2, bc_eq, bc_8 hh k1]
    refine ⟨_, rfl, ?_⟩
    have f220 : ∀ u v, F_X12_count_220 u v τ = some (u + v) := fun _ _ => rfl
    rw [rM_67 hQ, cG_t (show inb (0 : Int32) (kM 45).2 = true by rw [kM_45]; decide), show (0 : Int32).toNatClampNeg = 0 from rfl, (k3 0 (by decide)).1, ite_10]
    unfold F_X12_count_191 F_X12_count_205
    simp only [rM_67 hQ]
    simp only [cG_t (show inb (1 : Int32) (kM 45).2 = true by rw [kM_45]; decide), cG_t (show inb (2 : Int32) (kM 45).2 = true by rw [kM_45]; decide), show (1 : Int32).toNatClampNeg = 1 from rfl, show (2 : Int32).toNatClampNeg = 2 from rfl, (k3 1 (by decide)).1, (k3 2 (by decide)).1, ite_10, f220]
    unfold sumN sumN sumN sumN bI
    cases bt (nI hh) 0 <;> cases bt (nI hh) 1 <;> cases bt (nI hh) 2 <;> rfl
  simp only [if_neg e12]
  by_cases e13 : x = 13
  · simp only [if_pos e13]
    rw [rC_11_5' hP, bc_known hW.1.2.2.1]
    refine ⟨_, rfl, ?_⟩
    rw [count13 (g := fun k => bI (σ.1 44 1) (6 * (k % 4) + k / 4)) hQ (fun k hk => ?_), sum_re]
    have := (hW.1.2.2.2 (k / 4) (k % 4) (by omega) (by omega)).1
    rw [show 4 * (k / 4) + k % 4 = k by omega] at this
    rw [this]
    unfold bI
    split <;> rfl
  simp only [if_neg e13]
  exact ⟨-1, rfl, rfl⟩
