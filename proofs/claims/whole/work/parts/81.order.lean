/-! ===== PURE 46: orders of a day; sets of hills ===== -/
/-- an order, its last one first: each hears none of those ahead of it -/
def okL (hs : Nat → Nat → Prop) : List Nat → Prop
  | [] => True
  | h :: t => okL hs t ∧ ¬ h ∈ t ∧ ∀ x, x ∈ t → ¬ hs h x
def OrdP (hs : Nat → Nat → Prop) (S : Nat → Prop) : Prop := ∃ l, okL hs l ∧ ∀ x, S x ↔ x ∈ l
theorem okL_fil {hs : Nat → Nat → Prop} (p : Nat → Prop) : ∀ l, okL hs l → ∃ l', okL hs l' ∧ ∀ x, x ∈ l' ↔ x ∈ l ∧ p x
  | [], _ => ⟨[], trivial, fun x => by simp⟩
  | h :: t, q => by
    obtain ⟨l', i1, i2⟩ := okL_fil p t q.1
    by_cases g : p h
    · refine ⟨h :: l', ⟨i1, fun a => q.2.1 ((i2 h).mp a).1, fun x a => q.2.2 x ((i2 x).mp a).1⟩, fun x => ?_⟩
      rw [List.mem_cons, List.mem_cons, i2 x]
      constructor
      · rintro (a | a)
        · exact ⟨Or.inl a, a ▸ g⟩
        · exact ⟨Or.inr a.1, a.2⟩
      · rintro ⟨a | a, b⟩
        · exact Or.inl a
        · exact Or.inr ⟨a, b⟩
    · refine ⟨l', i1, fun x => ?_⟩
      rw [List.mem_cons, i2 x]
      exact ⟨fun a => ⟨Or.inr a.1, a.2⟩, fun a => ⟨a.1.resolve_left (fun e => g (e ▸ a.2)), a.2⟩⟩
theorem okL_app {hs : Nat → Nat → Prop} {f : Nat} : ∀ l, okL hs l → ¬ f ∈ l → (∀ x, x ∈ l → ¬ hs x f) → okL hs (l ++ [f])
  | [], _, _, _ => ⟨trivial, by simp, fun x a => absurd a (by simp)⟩
  | h :: t, q, hf, hn => by
    have ih := okL_app t q.1 (fun a => hf (List.mem_cons_of_mem _ a)) (fun x a => hn x (List.mem_cons_of_mem _ a))
    refine ⟨ih, fun a => ?_, fun x a => ?_⟩
    · rcases List.mem_append.mp a with b | b
      · exact q.2.1 b
      · have : h = f := by simpa using b
        exact hf (this ▸ List.mem_cons_self)
    · rcases List.mem_append.mp a with b | b
      · exact q.2.2 x b
      · have : x = f := by simpa using b
        rw [this]
        exact hn h List.mem_cons_self
theorem okL_src {hs : Nat → Nat → Prop} : ∀ l, okL hs l → l ≠ [] → ∃ f, f ∈ l ∧ ∀ x, x ∈ l → x ≠ f → ¬ hs x f
  | [], _, h => absurd rfl h
  | [h], _, _ => ⟨h, List.mem_cons_self, fun x a b => absurd (by simpa using a) b⟩
  | h :: g :: t, q, _ => by
    obtain ⟨f, hf, hn⟩ := okL_src (g :: t) q.1 (by simp)
    refine ⟨f, List.mem_cons_of_mem _ hf, fun x a b => ?_⟩
    rcases List.mem_cons.mp a with c | c
    · rw [c]
      exact q.2.2 f hf
    · exact hn x c b
theorem OrdP_sub {hs : Nat → Nat → Prop} {S : Nat → Prop} (h : OrdP hs S) (T : Nat → Prop) (hT : ∀ x, T x → S x) : OrdP hs T := by
  obtain ⟨l, h1, h2⟩ := h
  obtain ⟨l', i1, i2⟩ := okL_fil T l h1
  exact ⟨l', i1, fun x => by rw [i2 x]; exact ⟨fun q => ⟨(h2 x).mp (hT x q), q⟩, fun q => q.2⟩⟩
theorem OrdP_nil {hs : Nat → Nat → Prop} {S : Nat → Prop} (h : ∀ x, ¬ S x) : OrdP hs S := ⟨[], trivial, fun x => ⟨fun q => absurd q (h x), fun q => absurd q (by simp)⟩⟩
theorem OrdP_snoc {hs : Nat → Nat → Prop} {S : Nat → Prop} (h : Nat) (h1 : S h) (h2 : OrdP hs (fun x => S x ∧ x ≠ h)) (h3 : ∀ x, S x → x ≠ h → ¬ hs h x) : OrdP hs S := by
  obtain ⟨l, q1, q2⟩ := h2
  refine ⟨h :: l, ⟨q1, fun a => ((q2 h).mpr a).2 rfl, fun x a => h3 x ((q2 x).mpr a).1 ((q2 x).mpr a).2⟩, fun x => ?_⟩
  constructor
  · intro a
    by_cases e : x = h
    · rw [e]
      exact List.mem_cons_self
    · exact List.mem_cons_of_mem _ ((q2 x).mp ⟨a, e⟩)
  · intro a
    rcases List.mem_cons.mp a with b | b
    · rw [b]
      exact h1
    · exact ((q2 x).mpr b).1
theorem OrdP_cases {hs : Nat → Nat → Prop} {S : Nat → Prop} (h : OrdP hs S) : (∀ x, ¬ S x) ∨ ∃ y, S y ∧ OrdP hs (fun x => S x ∧ x ≠ y) ∧ ∀ x, S x → x ≠ y → ¬ hs y x := by
  obtain ⟨l, q1, q2⟩ := h
  cases l with
  | nil => exact Or.inl (fun x a => absurd ((q2 x).mp a) (by simp))
  | cons y t =>
    have hy : ∀ x, S x ∧ x ≠ y ↔ x ∈ t := fun x => by
      rw [q2 x, List.mem_cons]
      exact ⟨fun a => a.1.resolve_left a.2, fun a => ⟨Or.inr a, fun e => q1.2.1 (e ▸ a)⟩⟩
    exact Or.inr ⟨y, (q2 y).mpr List.mem_cons_self, ⟨t, q1.1, hy⟩, fun x a b => q1.2.2 x ((hy x).mp ⟨a, b⟩)⟩
theorem OrdP_add {hs : Nat → Nat → Prop} {S : Nat → Prop} (h : OrdP hs S) (T : Nat → Prop) (f : Nat) (e : ∀ x, S x ↔ T x ∧ x ≠ f) (hf : T f) (hn : ∀ x, T x → x ≠ f → ¬ hs x f) : OrdP hs T := by
  obtain ⟨l, q1, q2⟩ := h
  refine ⟨l ++ [f], okL_app l q1 (fun a => ((e f).mp ((q2 f).mpr a)).2 rfl) (fun x a => hn x ((e x).mp ((q2 x).mpr a)).1 ((e x).mp ((q2 x).mpr a)).2), fun x => ?_⟩
  rw [List.mem_append, ← q2 x, e x]
  constructor
  · intro a
    by_cases g : x = f
    · exact Or.inr (by simp [g])
    · exact Or.inl ⟨a, g⟩
  · rintro (a | a)
    · exact a.1
    · have : x = f := by simpa using a
      rw [this]
      exact hf
theorem OrdP_src {hs : Nat → Nat → Prop} {S : Nat → Prop} (h : OrdP hs S) (hx : ∃ x, S x) : ∃ f, S f ∧ ∀ x, S x → x ≠ f → ¬ hs x f := by
  obtain ⟨l, q1, q2⟩ := h
  obtain ⟨x, hx⟩ := hx
  obtain ⟨f, hf, hn⟩ := okL_src l q1 (fun e => by have := (q2 x).mp hx; rw [e] at this; simp at this)
  exact ⟨f, (q2 f).mpr hf, fun y a b => hn y ((q2 y).mp a) b⟩
/-! sets in six bits -/
def inS (S h : Nat) : Prop := bt (nI S) h = true
theorem bt_ge {x : Int32} {b : Nat} (h : 32 ≤ b) : bt x b = false := by
  unfold bt
  exact BitVec.getLsbD_of_ge _ _ h
theorem inS_lt {S b : Nat} (hS : S < 64) (h : inS S b) : b < 6 := by
  have : ∀ S, S < 64 → ∀ b, b < 32 → 6 ≤ b → bt (nI S) b = false := by decide +kernel
  rcases Nat.lt_or_ge b 32 with q | q
  · rcases Nat.lt_or_ge b 6 with r | r
    · exact r
    · exact absurd (this S hS b q r) (by rw [show bt (nI S) b = true from h]; decide)
  · exact absurd (bt_ge (x := nI S) q) (by rw [show bt (nI S) b = true from h]; decide)
theorem inS_H : ∀ H, H ≤ 6 → ∀ S, S < 2 ^ H → ∀ b, b < 6 → bt (nI S) b = true → b < H := by decide +kernel
theorem set_del : ∀ S, S < 64 → ∀ h, h < 6 → bt (nI S) h = true → nI S &&& (((1 : Int32) <<< (nI h &&& 31)) ^^^ (-1 : Int32)) = nI (S - 2 ^ h) ∧ 2 ^ h ≤ S := by decide +kernel
theorem set_del_bt : ∀ S, S < 64 → ∀ h, h < 6 → bt (nI S) h = true → ∀ b, b < 6 → bt (nI (S - 2 ^ h)) b = (bt (nI S) b && decide (b ≠ h)) := by decide +kernel
theorem inS_del {S h : Nat} (hS : S < 64) (hh : inS S h) (x : Nat) : inS (S - 2 ^ h) x ↔ inS S x ∧ x ≠ h := by
  have h6 := inS_lt hS hh
  constructor
  · intro q
    have x6 := inS_lt (S := S - 2 ^ h) (Nat.lt_of_le_of_lt (Nat.sub_le _ _) hS) q
    have := set_del_bt S hS h h6 hh x x6
    rw [show bt (nI (S - 2 ^ h)) x = true from q] at this
    show bt (nI S) x = true ∧ x ≠ h
    simpa using this.symm
  · intro q
    have x6 := inS_lt hS q.1
    have := set_del_bt S hS h h6 hh x x6
    rw [show bt (nI S) x = true from q.1] at this
    show bt (nI (S - 2 ^ h)) x = true
    rw [this]
    simp [q.2]
theorem inS_0 (x : Nat) : ¬ inS 0 x := by
  unfold inS
  rw [show nI 0 = 0 from rfl, bt_0]
  decide
theorem inS_ex : ∀ S, S < 64 → S ≠ 0 → ∃ x, x < 6 ∧ bt (nI S) x = true := by decide +kernel
theorem bt_ext6 {x y : Int32} (hx : ∀ i, 6 ≤ i → i < 32 → bt x i = false) (hy : ∀ i, 6 ≤ i → i < 32 → bt y i = false) (h : ∀ i, i < 6 → bt x i = bt y i) : x = y := bt_ext (fun i hi => by
  rcases Nat.lt_or_ge i 6 with q | q
  · exact h i q
  · rw [hx i q hi, hy i q hi])
theorem and63 : ∀ S, S < 64 → ∀ b, b < 32 → 6 ≤ b → bt (nI S) b = false := by decide +kernel
theorem lt64_of {x : Int32} (h : ∀ i, 6 ≤ i → i < 32 → bt x i = false) : ∃ n, n < 64 ∧ x = nI n := by
  refine ⟨(x &&& 63).toBitVec.toNat, ?_, ?_⟩
  · have : (x &&& 63).toBitVec = x.toBitVec &&& 63#32 := rfl
    rw [this, BitVec.toNat_and]
    exact Nat.lt_of_le_of_lt Nat.and_le_right (by decide)
  · have e : x &&& 63 = x := bt_ext (fun i hi => by
      rw [bt_and, bt_63 i hi]
      rcases Nat.lt_or_ge i 6 with q | q
      · simp [q]
      · rw [h i q hi]; rfl)
    rw [e]
    exact Int32.toBitVec_inj.mp (by
      show x.toBitVec = BitVec.ofNat 32 x.toBitVec.toNat
      rw [BitVec.ofNat_toNat, BitVec.setWidth_eq])
theorem lt2_of {x : Int32} {H : Nat} (hH : H ≤ 6) (h : ∀ i, H ≤ i → i < 32 → bt x i = false) : ∃ n, n < 2 ^ H ∧ x = nI n := by
  obtain ⟨n, hn, e⟩ := lt64_of (x := x) (fun i a b => h i (by omega) b)
  refine ⟨n, ?_, e⟩
  subst e
  have : ∀ H, H ≤ 6 → ∀ n, n < 64 → (∀ i, i < 6 → H ≤ i → bt (nI n) i = false) → n < 2 ^ H := by decide +kernel
  exact this H hH n hn (fun i a b => h i b (by omega))
/-- who hears one of a set -/
def hb (e : Nat → Int32) (S : Nat) : Nat → Int32
  | 0 => 0
  | n + 1 => if bt (nI S) n then hb e S n ||| e n else hb e S n
theorem hb_s {e : Nat → Int32} {S n : Nat} : hb e S (n + 1) = if bt (nI S) n then hb e S n ||| e n else hb e S n := rfl
theorem hb_bt {e : Nat → Int32} {S b : Nat} : ∀ n, bt (hb e S n) b = true ↔ ∃ h, h < n ∧ inS S h ∧ bt (e h) b = true
  | 0 => by
    show bt 0 b = true ↔ _
    rw [bt_0]
    exact ⟨fun q => (by cases q), fun ⟨h, a, _⟩ => absurd a (by omega)⟩
  | n + 1 => by
    have ih := hb_bt (e := e) (S := S) (b := b) n
    unfold hb
    by_cases q : bt (nI S) n = true
    · rw [if_pos q, bt_or, Bool.or_eq_true, ih]
      constructor
      · rintro (⟨h, a, b⟩ | g)
        · exact ⟨h, by omega, b⟩
        · exact ⟨n, by omega, q, g⟩
      · rintro ⟨h, a, b, g⟩
        by_cases e : h = n
        · exact Or.inr (e ▸ g)
        · exact Or.inl ⟨h, by omega, b, g⟩
    · rw [if_neg q, ih]
      constructor
      · rintro ⟨h, a, b⟩
        exact ⟨h, by omega, b⟩
      · rintro ⟨h, a, b, g⟩
        by_cases e : h = n
        · exact absurd (e ▸ b) q
        · exact ⟨h, by omega, b, g⟩
/-- h hears x -/
def hsP (e : Nat → Int32) (h x : Nat) : Prop := bt (e x) h = true
def lwP (how : Nat) (e : Nat → Int32) (S : Nat) : Prop := ¬ (how = 1 ∨ how = 2) ∨ OrdP (hsP e) (inS S)
theorem lwP_0 {how : Nat} {e : Nat → Int32} : lwP how e 0 := Or.inr (OrdP_nil inS_0)
theorem ord_last {e : Nat → Int32} {S H : Nat} (hH : H ≤ 6) (hS : S < 2 ^ H) (h0 : S ≠ 0) : OrdP (hsP e) (inS S) ↔ ∃ h, h < H ∧ inS S h ∧ OrdP (hsP e) (inS (S - 2 ^ h)) ∧ ¬ bt (hb e (S - 2 ^ h) H) h = true := by
  have h64 : S < 64 := Nat.lt_of_lt_of_le hS (Nat.pow_le_pow_right (by decide) hH)
  constructor
  · intro q
    rcases OrdP_cases q with g | ⟨h, h1, h2, h3⟩
    · obtain ⟨x, -, hx⟩ := inS_ex S h64 h0
      exact absurd hx (g x)
    · refine ⟨h, inS_H H hH S hS h (inS_lt h64 h1) h1, h1, OrdP_sub h2 _ (fun x hx => (inS_del h64 h1 x).mp hx), fun g => ?_⟩
      obtain ⟨x, -, x2, x3⟩ := (hb_bt H).mp g
      have := (inS_del h64 h1 x).mp x2
      exact h3 x this.1 this.2 x3
  · rintro ⟨h, hh, h1, h2, h3⟩
    refine OrdP_snoc h h1 (OrdP_sub h2 _ (fun x hx => (inS_del h64 h1 x).mpr hx)) (fun x hx hxh g => ?_)
    exact h3 ((hb_bt H).mpr ⟨x, inS_H H hH S hS x (inS_lt h64 hx) hx, (inS_del h64 h1 x).mpr ⟨hx, hxh⟩, g⟩)
/-! the model's two questions -/
theorem heardOf_eq {S H li : Nat} {τ : hSt} {e : Nat → Int32} (hQ : HM τ.2.2) (e18 : τ.1 0 18 = nI li) (hli : li < 2) (e11 : τ.1 11 li = nI H) (hH : H ≤ 6) (he : ∀ h, h < H → τ.1 35 h = e h) : F_X12_heardOf 0 (nI S) τ = some (nI S ||| hb e S H) := by
  unfold F_X12_heardOf F_X12_heardOf_4
  refine lp_eq H (by rw [fuel_v]; omega) (fun i v => v = (nI S ||| hb e S i, nI i)) (by show _ = (nI S ||| 0, nI 0); rw [show nI S ||| 0 = nI S from bt_ext (fun i _ => by rw [bt_or, bt_0, Bool.or_false])]; rfl) (fun i v hi hv => ?_)
  subst hv
  unfold S_X12_heardOf_4 F_X12_heardOf_4b
  dsimp only
  rw [rM_24 hQ, e18, cG_t (inb_nI (by rw [kM_11]; exact hli) (by decide)), cl_nI (by omega), e11]
  by_cases hlt : i < H
  · left
    have e35 : ∀ y, F_X12_heardOf_35 0 (nI S) y (nI i) τ = some (.inl (y, nI (i + 1))) := fun y => by
      unfold F_X12_heardOf_35 cL
      rw [nI_1]
    rw [if_neg (nI_ge hlt (by omega)), bt_ask (by omega)]
    refine ⟨_, hlt, ?_, rfl⟩
    by_cases q : bt (nI S) i = true
    · rw [if_pos q, if_pos rfl, rM_52 hQ, cG_t (inb_nI (by rw [kM_35]; omega) (by decide)), cl_nI (by omega), he i hlt]
      unfold cL
      dsimp only
      rw [e35, hb_s, if_pos q]
      refine congrArg (fun x => some (Sum.inl (x, nI (i + 1)))) (bt_ext (fun b _ => ?_))
      simp only [bt_or, Bool.or_assoc]
    · rw [if_neg q, if_neg (by decide), e35, hb_s, if_neg q]
  · right
    have : i = H := by omega
    subst this
    rw [if_pos (nI_le (Nat.le_refl _) (by omega))]
