/-! THE REFERENCES of both systems: which cell each field names -/
theorem uI_P (σ : hSt) (c k : Nat) (v : Int32) : (uI σ c k v).2.2 = σ.2.2 := rfl
theorem uI_J (σ : hSt) (c k : Nat) (v : Int32) : (uI σ c k v).2.1 = σ.2.1 := rfl
theorem uI_I (σ : hSt) (c k : Nat) (v : Int32) (c' k' : Nat) : (uI σ c k v).1 c' k' = if c' = c ∧ k' = k then v else σ.1 c' k' := rfl
theorem uJ_P (σ : hSt) (c k : Nat) (v : Int64) : (uJ σ c k v).2.2 = σ.2.2 := rfl
theorem uJ_I (σ : hSt) (c k : Nat) (v : Int64) : (uJ σ c k v).1 = σ.1 := rfl
theorem uJ_J (σ : hSt) (c k : Nat) (v : Int64) (c' k' : Nat) : (uJ σ c k v).2.1 c' k' = if c' = c ∧ k' = k then v else σ.2.1 c' k' := rfl
theorem uA_P (σ : hSt) (c : Nat) (f : Nat → Int32) : (uA σ c f).2.2 = σ.2.2 := rfl
theorem uA_J (σ : hSt) (c : Nat) (f : Nat → Int32) : (uA σ c f).2.1 = σ.2.1 := rfl
theorem uA_I (σ : hSt) (c : Nat) (f : Nat → Int32) (c' k' : Nat) : (uA σ c f).1 c' k' = if c' = c then f k' else σ.1 c' k' := by by_cases h : c' = c <;> simp [uA, h]
theorem uP_I (σ : hSt) (c k : Nat) (v : Option Nat) : (uP σ c k v).1 = σ.1 := rfl
theorem uP_J (σ : hSt) (c k : Nat) (v : Option Nat) : (uP σ c k v).2.1 = σ.2.1 := rfl
def fxL : List (Nat × Nat × Nat) := [(0, 0, 1), (0, 1, 2), (1, 0, 1), (1, 2, 2), (1, 3, 6), (2, 0, 1), (3, 0, 1), (3, 1, 2), (4, 0, 1), (4, 1, 5), (4, 2, 6), (5, 0, 1), (6, 0, 1), (7, 1, 1), (7, 2, 2), (7, 4, 3), (7, 5, 4), (7, 6, 7), (7, 7, 9), (7, 10, 11), (7, 11, 12), (7, 12, 13), (7, 13, 14), (7, 14, 15), (7, 15, 16), (8, 0, 1), (8, 1, 2), (8, 2, 3), (9, 0, 1), (9, 1, 2), (9, 2, 3), (10, 9, 1), (10, 10, 2), (10, 11, 3), (11, 0, 1), (11, 3, 37), (11, 5, 44), (11, 6, 48), (11, 7, 52), (11, 8, 214), (11, 10, 215), (11, 11, 219), (11, 12, 224)]
def fxC (ci k : Nat) : Option Nat := (fxL.find? (fun q => q.1 == ci && q.2.1 == k)).map (fun q => q.2.2)
abbrev SPt : Type := Nat → Nat → Option Nat
/-- the class's references: all but five stand where they were made; the two texts, the two rows of plans may change places -/
def HC (P : SPt) : Prop :=
  (∀ c, c < 246 → ∀ k d, fxC (kC c).1 k = some d → P c k = some (c + d)) ∧ (∀ j, j < 40 → P 53 j = some (54 + 4 * j)) ∧ (∀ j, j < 3 → P 214 j = some (234 + 4 * j)) ∧
  (P 0 1 = some 3 ∧ P 0 2 = some 20 ∨ P 0 1 = some 20 ∧ P 0 2 = some 3) ∧ (P 37 3 = some 3 ∨ P 37 3 = some 20) ∧ (P 219 2 = some 222 ∧ P 219 3 = some 223 ∨ P 219 2 = some 223 ∧ P 219 3 = some 222)
theorem kd_0_0 : ∀ c, c < 246 → (kC c).1 = 0 → c + 1 < 246 ∧ kC (c + 1) = (101, 401) := by decide +kernel
/-- HillDrums$Law.cells -/
theorem rC_0_0 {α : Type} {P : SPt} (h : HC P) {c : Nat} (hc : okr kC NC 0 c = true) (f : Nat → Option α) : cR (P c 0) (okr kC NC 101) f = f (c + 1) := by
  have h1 := okr_in hc
  exact cR_t (h.1 c h1.1 0 1 (by rw [h1.2]; rfl)) (by have := kd_0_0 c h1.1 h1.2; simp [okr, this, NC])
theorem oC_0_0 {c : Nat} (hc : okr kC NC 0 c = true) : okr kC NC 101 (c + 1) = true := by
  have h1 := okr_in hc
  have := kd_0_0 c h1.1 h1.2
  simp [okr, this, NC]
theorem nC_0_0 {c : Nat} (hc : okr kC NC 0 c = true) : (kC (c + 1)).2 = 401 := by
  have h1 := okr_in hc
  rw [(kd_0_0 c h1.1 h1.2).2]
theorem kd_0_1 : ∀ c, c < 246 → (kC c).1 = 0 → c + 2 < 246 ∧ kC (c + 2) = (101, 32) := by decide +kernel
/-- HillDrums$Law.stack -/
theorem rC_0_1 {α : Type} {P : SPt} (h : HC P) {c : Nat} (hc : okr kC NC 0 c = true) (f : Nat → Option α) : cR (P c 1) (okr kC NC 101) f = f (c + 2) := by
  have h1 := okr_in hc
  exact cR_t (h.1 c h1.1 1 2 (by rw [h1.2]; rfl)) (by have := kd_0_1 c h1.1 h1.2; simp [okr, this, NC])
theorem oC_0_1 {c : Nat} (hc : okr kC NC 0 c = true) : okr kC NC 101 (c + 2) = true := by
  have h1 := okr_in hc
  have := kd_0_1 c h1.1 h1.2
  simp [okr, this, NC]
theorem nC_0_1 {c : Nat} (hc : okr kC NC 0 c = true) : (kC (c + 2)).2 = 32 := by
  have h1 := okr_in hc
  rw [(kd_0_1 c h1.1 h1.2).2]
theorem kd_1_0 : ∀ c, c < 246 → (kC c).1 = 1 → c + 1 < 246 ∧ kC (c + 1) = (101, 3) := by decide +kernel
/-- HillDrums$Loop.found -/
theorem rC_1_0 {α : Type} {P : SPt} (h : HC P) {c : Nat} (hc : okr kC NC 1 c = true) (f : Nat → Option α) : cR (P c 0) (okr kC NC 101) f = f (c + 1) := by
  have h1 := okr_in hc
  exact cR_t (h.1 c h1.1 0 1 (by rw [h1.2]; rfl)) (by have := kd_1_0 c h1.1 h1.2; simp [okr, this, NC])
theorem oC_1_0 {c : Nat} (hc : okr kC NC 1 c = true) : okr kC NC 101 (c + 1) = true := by
  have h1 := okr_in hc
  have := kd_1_0 c h1.1 h1.2
  simp [okr, this, NC]
theorem nC_1_0 {c : Nat} (hc : okr kC NC 1 c = true) : (kC (c + 1)).2 = 3 := by
  have h1 := okr_in hc
  rw [(kd_1_0 c h1.1 h1.2).2]
theorem kd_1_2 : ∀ c, c < 246 → (kC c).1 = 1 → c + 2 < 246 ∧ kC (c + 2) = (10, 0) := by decide +kernel
/-- HillDrums$Loop.behindFirst -/
theorem rC_1_2 {α : Type} {P : SPt} (h : HC P) {c : Nat} (hc : okr kC NC 1 c = true) (f : Nat → Option α) : cR (P c 2) (okr kC NC 10) f = f (c + 2) := by
  have h1 := okr_in hc
  exact cR_t (h.1 c h1.1 2 2 (by rw [h1.2]; rfl)) (by have := kd_1_2 c h1.1 h1.2; simp [okr, this, NC])
theorem oC_1_2 {c : Nat} (hc : okr kC NC 1 c = true) : okr kC NC 10 (c + 2) = true := by
  have h1 := okr_in hc
  have := kd_1_2 c h1.1 h1.2
  simp [okr, this, NC]
theorem kd_1_3 : ∀ c, c < 246 → (kC c).1 = 1 → c + 6 < 246 ∧ kC (c + 6) = (10, 0) := by decide +kernel
/-- HillDrums$Loop.behindSecond -/
theorem rC_1_3 {α : Type} {P : SPt} (h : HC P) {c : Nat} (hc : okr kC NC 1 c = true) (f : Nat → Option α) : cR (P c 3) (okr kC NC 10) f = f (c + 6) := by
  have h1 := okr_in hc
  exact cR_t (h.1 c h1.1 3 6 (by rw [h1.2]; rfl)) (by have := kd_1_3 c h1.1 h1.2; simp [okr, this, NC])
theorem oC_1_3 {c : Nat} (hc : okr kC NC 1 c = true) : okr kC NC 10 (c + 6) = true := by
  have h1 := okr_in hc
  have := kd_1_3 c h1.1 h1.2
  simp [okr, this, NC]
theorem kd_2_0 : ∀ c, c < 246 → (kC c).1 = 2 → c + 1 < 246 ∧ kC (c + 1) = (105, 40) := by decide +kernel
/-- HillDrums$Past.worlds -/
theorem rC_2_0 {α : Type} {P : SPt} (h : HC P) {c : Nat} (hc : okr kC NC 2 c = true) (f : Nat → Option α) : cR (P c 0) (okr kC NC 105) f = f (c + 1) := by
  have h1 := okr_in hc
  exact cR_t (h.1 c h1.1 0 1 (by rw [h1.2]; rfl)) (by have := kd_2_0 c h1.1 h1.2; simp [okr, this, NC])
theorem oC_2_0 {c : Nat} (hc : okr kC NC 2 c = true) : okr kC NC 105 (c + 1) = true := by
  have h1 := okr_in hc
  have := kd_2_0 c h1.1 h1.2
  simp [okr, this, NC]
theorem nC_2_0 {c : Nat} (hc : okr kC NC 2 c = true) : (kC (c + 1)).2 = 40 := by
  have h1 := okr_in hc
  rw [(kd_2_0 c h1.1 h1.2).2]
theorem kd_3_0 : ∀ c, c < 246 → (kC c).1 = 3 → c + 1 < 246 ∧ kC (c + 1) = (101, 64) := by decide +kernel
/-- HillDrums$Plans.heardBy -/
theorem rC_3_0 {α : Type} {P : SPt} (h : HC P) {c : Nat} (hc : okr kC NC 3 c = true) (f : Nat → Option α) : cR (P c 0) (okr kC NC 101) f = f (c + 1) := by
  have h1 := okr_in hc
  exact cR_t (h.1 c h1.1 0 1 (by rw [h1.2]; rfl)) (by have := kd_3_0 c h1.1 h1.2; simp [okr, this, NC])
theorem oC_3_0 {c : Nat} (hc : okr kC NC 3 c = true) : okr kC NC 101 (c + 1) = true := by
  have h1 := okr_in hc
  have := kd_3_0 c h1.1 h1.2
  simp [okr, this, NC]
theorem nC_3_0 {c : Nat} (hc : okr kC NC 3 c = true) : (kC (c + 1)).2 = 64 := by
  have h1 := okr_in hc
  rw [(kd_3_0 c h1.1 h1.2).2]
theorem kd_3_1 : ∀ c, c < 246 → (kC c).1 = 3 → c + 2 < 246 ∧ kC (c + 2) = (102, 64) := by decide +kernel
/-- HillDrums$Plans.lawful -/
theorem rC_3_1 {α : Type} {P : SPt} (h : HC P) {c : Nat} (hc : okr kC NC 3 c = true) (f : Nat → Option α) : cR (P c 1) (okr kC NC 102) f = f (c + 2) := by
  have h1 := okr_in hc
  exact cR_t (h.1 c h1.1 1 2 (by rw [h1.2]; rfl)) (by have := kd_3_1 c h1.1 h1.2; simp [okr, this, NC])
theorem oC_3_1 {c : Nat} (hc : okr kC NC 3 c = true) : okr kC NC 102 (c + 2) = true := by
  have h1 := okr_in hc
  have := kd_3_1 c h1.1 h1.2
  simp [okr, this, NC]
theorem nC_3_1 {c : Nat} (hc : okr kC NC 3 c = true) : (kC (c + 2)).2 = 64 := by
  have h1 := okr_in hc
  rw [(kd_3_1 c h1.1 h1.2).2]
theorem kd_4_0 : ∀ c, c < 246 → (kC c).1 = 4 → c + 1 < 246 ∧ kC (c + 1) = (8, 0) := by decide +kernel
/-- HillDrums$Reader.tokens -/
theorem rC_4_0 {α : Type} {P : SPt} (h : HC P) {c : Nat} (hc : okr kC NC 4 c = true) (f : Nat → Option α) : cR (P c 0) (okr kC NC 8) f = f (c + 1) := by
  have h1 := okr_in hc
  exact cR_t (h.1 c h1.1 0 1 (by rw [h1.2]; rfl)) (by have := kd_4_0 c h1.1 h1.2; simp [okr, this, NC])
theorem oC_4_0 {c : Nat} (hc : okr kC NC 4 c = true) : okr kC NC 8 (c + 1) = true := by
  have h1 := okr_in hc
  have := kd_4_0 c h1.1 h1.2
  simp [okr, this, NC]
theorem kd_4_1 : ∀ c, c < 246 → (kC c).1 = 4 → c + 5 < 246 ∧ kC (c + 5) = (103, 6) := by decide +kernel
/-- HillDrums$Reader.hillNames -/
theorem rC_4_1 {α : Type} {P : SPt} (h : HC P) {c : Nat} (hc : okr kC NC 4 c = true) (f : Nat → Option α) : cR (P c 1) (okr kC NC 103) f = f (c + 5) := by
  have h1 := okr_in hc
  exact cR_t (h.1 c h1.1 1 5 (by rw [h1.2]; rfl)) (by have := kd_4_1 c h1.1 h1.2; simp [okr, this, NC])
theorem oC_4_1 {c : Nat} (hc : okr kC NC 4 c = true) : okr kC NC 103 (c + 5) = true := by
  have h1 := okr_in hc
  have := kd_4_1 c h1.1 h1.2
  simp [okr, this, NC]
theorem nC_4_1 {c : Nat} (hc : okr kC NC 4 c = true) : (kC (c + 5)).2 = 6 := by
  have h1 := okr_in hc
  rw [(kd_4_1 c h1.1 h1.2).2]
theorem kd_4_2 : ∀ c, c < 246 → (kC c).1 = 4 → c + 6 < 246 ∧ kC (c + 6) = (103, 4) := by decide +kernel
/-- HillDrums$Reader.newsNames -/
theorem rC_4_2 {α : Type} {P : SPt} (h : HC P) {c : Nat} (hc : okr kC NC 4 c = true) (f : Nat → Option α) : cR (P c 2) (okr kC NC 103) f = f (c + 6) := by
  have h1 := okr_in hc
  exact cR_t (h.1 c h1.1 2 6 (by rw [h1.2]; rfl)) (by have := kd_4_2 c h1.1 h1.2; simp [okr, this, NC])
theorem oC_4_2 {c : Nat} (hc : okr kC NC 4 c = true) : okr kC NC 103 (c + 6) = true := by
  have h1 := okr_in hc
  have := kd_4_2 c h1.1 h1.2
  simp [okr, this, NC]
theorem nC_4_2 {c : Nat} (hc : okr kC NC 4 c = true) : (kC (c + 6)).2 = 4 := by
  have h1 := okr_in hc
  rw [(kd_4_2 c h1.1 h1.2).2]
theorem kd_5_0 : ∀ c, c < 246 → (kC c).1 = 5 → c + 1 < 246 ∧ kC (c + 1) = (101, 12) := by decide +kernel
/-- HillDrums$Row.numbers -/
theorem rC_5_0 {α : Type} {P : SPt} (h : HC P) {c : Nat} (hc : okr kC NC 5 c = true) (f : Nat → Option α) : cR (P c 0) (okr kC NC 101) f = f (c + 1) := by
  have h1 := okr_in hc
  exact cR_t (h.1 c h1.1 0 1 (by rw [h1.2]; rfl)) (by have := kd_5_0 c h1.1 h1.2; simp [okr, this, NC])
theorem oC_5_0 {c : Nat} (hc : okr kC NC 5 c = true) : okr kC NC 101 (c + 1) = true := by
  have h1 := okr_in hc
  have := kd_5_0 c h1.1 h1.2
  simp [okr, this, NC]
theorem nC_5_0 {c : Nat} (hc : okr kC NC 5 c = true) : (kC (c + 1)).2 = 12 := by
  have h1 := okr_in hc
  rw [(kd_5_0 c h1.1 h1.2).2]
theorem kd_6_0 : ∀ c, c < 246 → (kC c).1 = 6 → c + 1 < 246 ∧ kC (c + 1) = (100, 2000) := by decide +kernel
/-- HillDrums$Tape.bytes -/
theorem rC_6_0 {α : Type} {P : SPt} (h : HC P) {c : Nat} (hc : okr kC NC 6 c = true) (f : Nat → Option α) : cR (P c 0) (okr kC NC 100) f = f (c + 1) := by
  have h1 := okr_in hc
  exact cR_t (h.1 c h1.1 0 1 (by rw [h1.2]; rfl)) (by have := kd_6_0 c h1.1 h1.2; simp [okr, this, NC])
theorem oC_6_0 {c : Nat} (hc : okr kC NC 6 c = true) : okr kC NC 100 (c + 1) = true := by
  have h1 := okr_in hc
  have := kd_6_0 c h1.1 h1.2
  simp [okr, this, NC]
theorem nC_6_0 {c : Nat} (hc : okr kC NC 6 c = true) : (kC (c + 1)).2 = 2000 := by
  have h1 := okr_in hc
  rw [(kd_6_0 c h1.1 h1.2).2]
theorem kd_7_1 : ∀ c, c < 246 → (kC c).1 = 7 → c + 1 < 246 ∧ kC (c + 1) = (101, 6) := by decide +kernel
/-- HillDrums$Text.x -/
theorem rC_7_1 {α : Type} {P : SPt} (h : HC P) {c : Nat} (hc : okr kC NC 7 c = true) (f : Nat → Option α) : cR (P c 1) (okr kC NC 101) f = f (c + 1) := by
  have h1 := okr_in hc
  exact cR_t (h.1 c h1.1 1 1 (by rw [h1.2]; rfl)) (by have := kd_7_1 c h1.1 h1.2; simp [okr, this, NC])
theorem oC_7_1 {c : Nat} (hc : okr kC NC 7 c = true) : okr kC NC 101 (c + 1) = true := by
  have h1 := okr_in hc
  have := kd_7_1 c h1.1 h1.2
  simp [okr, this, NC]
theorem nC_7_1 {c : Nat} (hc : okr kC NC 7 c = true) : (kC (c + 1)).2 = 6 := by
  have h1 := okr_in hc
  rw [(kd_7_1 c h1.1 h1.2).2]
theorem kd_7_2 : ∀ c, c < 246 → (kC c).1 = 7 → c + 2 < 246 ∧ kC (c + 2) = (101, 6) := by decide +kernel
/-- HillDrums$Text.y -/
theorem rC_7_2 {α : Type} {P : SPt} (h : HC P) {c : Nat} (hc : okr kC NC 7 c = true) (f : Nat → Option α) : cR (P c 2) (okr kC NC 101) f = f (c + 2) := by
  have h1 := okr_in hc
  exact cR_t (h.1 c h1.1 2 2 (by rw [h1.2]; rfl)) (by have := kd_7_2 c h1.1 h1.2; simp [okr, this, NC])
theorem oC_7_2 {c : Nat} (hc : okr kC NC 7 c = true) : okr kC NC 101 (c + 2) = true := by
  have h1 := okr_in hc
  have := kd_7_2 c h1.1 h1.2
  simp [okr, this, NC]
theorem nC_7_2 {c : Nat} (hc : okr kC NC 7 c = true) : (kC (c + 2)).2 = 6 := by
  have h1 := okr_in hc
  rw [(kd_7_2 c h1.1 h1.2).2]
theorem kd_7_4 : ∀ c, c < 246 → (kC c).1 = 7 → c + 3 < 246 ∧ kC (c + 3) = (101, 4) := by decide +kernel
/-- HillDrums$Text.home -/
theorem rC_7_4 {α : Type} {P : SPt} (h : HC P) {c : Nat} (hc : okr kC NC 7 c = true) (f : Nat → Option α) : cR (P c 4) (okr kC NC 101) f = f (c + 3) := by
  have h1 := okr_in hc
  exact cR_t (h.1 c h1.1 4 3 (by rw [h1.2]; rfl)) (by have := kd_7_4 c h1.1 h1.2; simp [okr, this, NC])
theorem oC_7_4 {c : Nat} (hc : okr kC NC 7 c = true) : okr kC NC 101 (c + 3) = true := by
  have h1 := okr_in hc
  have := kd_7_4 c h1.1 h1.2
  simp [okr, this, NC]
theorem nC_7_4 {c : Nat} (hc : okr kC NC 7 c = true) : (kC (c + 3)).2 = 4 := by
  have h1 := okr_in hc
  rw [(kd_7_4 c h1.1 h1.2).2]
theorem kd_7_5 : ∀ c, c < 246 → (kC c).1 = 7 → c + 4 < 246 ∧ kC (c + 4) = (0, 0) := by decide +kernel
/-- HillDrums$Text.law -/
theorem rC_7_5 {α : Type} {P : SPt} (h : HC P) {c : Nat} (hc : okr kC NC 7 c = true) (f : Nat → Option α) : cR (P c 5) (okr kC NC 0) f = f (c + 4) := by
  have h1 := okr_in hc
  exact cR_t (h.1 c h1.1 5 4 (by rw [h1.2]; rfl)) (by have := kd_7_5 c h1.1 h1.2; simp [okr, this, NC])
theorem oC_7_5 {c : Nat} (hc : okr kC NC 7 c = true) : okr kC NC 0 (c + 4) = true := by
  have h1 := okr_in hc
  have := kd_7_5 c h1.1 h1.2
  simp [okr, this, NC]
theorem kd_7_6 : ∀ c, c < 246 → (kC c).1 = 7 → c + 7 < 246 ∧ kC (c + 7) = (5, 0) := by decide +kernel
/-- HillDrums$Text.wind -/
theorem rC_7_6 {α : Type} {P : SPt} (h : HC P) {c : Nat} (hc : okr kC NC 7 c = true) (f : Nat → Option α) : cR (P c 6) (okr kC NC 5) f = f (c + 7) := by
  have h1 := okr_in hc
  exact cR_t (h.1 c h1.1 6 7 (by rw [h1.2]; rfl)) (by have := kd_7_6 c h1.1 h1.2; simp [okr, this, NC])
theorem oC_7_6 {c : Nat} (hc : okr kC NC 7 c = true) : okr kC NC 5 (c + 7) = true := by
  have h1 := okr_in hc
  have := kd_7_6 c h1.1 h1.2
  simp [okr, this, NC]
theorem kd_7_7 : ∀ c, c < 246 → (kC c).1 = 7 → c + 9 < 246 ∧ kC (c + 9) = (5, 0) := by decide +kernel
/-- HillDrums$Text.fog -/
theorem rC_7_7 {α : Type} {P : SPt} (h : HC P) {c : Nat} (hc : okr kC NC 7 c = true) (f : Nat → Option α) : cR (P c 7) (okr kC NC 5) f = f (c + 9) := by
  have h1 := okr_in hc
  exact cR_t (h.1 c h1.1 7 9 (by rw [h1.2]; rfl)) (by have := kd_7_7 c h1.1 h1.2; simp [okr, this, NC])
theorem oC_7_7 {c : Nat} (hc : okr kC NC 7 c = true) : okr kC NC 5 (c + 9) = true := by
  have h1 := okr_in hc
  have := kd_7_7 c h1.1 h1.2
  simp [okr, this, NC]
theorem kd_7_10 : ∀ c, c < 246 → (kC c).1 = 7 → c + 11 < 246 ∧ kC (c + 11) = (101, 4) := by decide +kernel
/-- HillDrums$Text.sleeperHill -/
theorem rC_7_10 {α : Type} {P : SPt} (h : HC P) {c : Nat} (hc : okr kC NC 7 c = true) (f : Nat → Option α) : cR (P c 10) (okr kC NC 101) f = f (c + 11) := by
  have h1 := okr_in hc
  exact cR_t (h.1 c h1.1 10 11 (by rw [h1.2]; rfl)) (by have := kd_7_10 c h1.1 h1.2; simp [okr, this, NC])
theorem oC_7_10 {c : Nat} (hc : okr kC NC 7 c = true) : okr kC NC 101 (c + 11) = true := by
  have h1 := okr_in hc
  have := kd_7_10 c h1.1 h1.2
  simp [okr, this, NC]
theorem nC_7_10 {c : Nat} (hc : okr kC NC 7 c = true) : (kC (c + 11)).2 = 4 := by
  have h1 := okr_in hc
  rw [(kd_7_10 c h1.1 h1.2).2]
theorem kd_7_11 : ∀ c, c < 246 → (kC c).1 = 7 → c + 12 < 246 ∧ kC (c + 12) = (101, 4) := by decide +kernel
/-- HillDrums$Text.sleeperNews -/
theorem rC_7_11 {α : Type} {P : SPt} (h : HC P) {c : Nat} (hc : okr kC NC 7 c = true) (f : Nat → Option α) : cR (P c 11) (okr kC NC 101) f = f (c + 12) := by
  have h1 := okr_in hc
  exact cR_t (h.1 c h1.1 11 12 (by rw [h1.2]; rfl)) (by have := kd_7_11 c h1.1 h1.2; simp [okr, this, NC])
theorem oC_7_11 {c : Nat} (hc : okr kC NC 7 c = true) : okr kC NC 101 (c + 12) = true := by
  have h1 := okr_in hc
  have := kd_7_11 c h1.1 h1.2
  simp [okr, this, NC]
theorem nC_7_11 {c : Nat} (hc : okr kC NC 7 c = true) : (kC (c + 12)).2 = 4 := by
  have h1 := okr_in hc
  rw [(kd_7_11 c h1.1 h1.2).2]
theorem kd_7_12 : ∀ c, c < 246 → (kC c).1 = 7 → c + 13 < 246 ∧ kC (c + 13) = (101, 4) := by decide +kernel
/-- HillDrums$Text.sleeperDays -/
theorem rC_7_12 {α : Type} {P : SPt} (h : HC P) {c : Nat} (hc : okr kC NC 7 c = true) (f : Nat → Option α) : cR (P c 12) (okr kC NC 101) f = f (c + 13) := by
  have h1 := okr_in hc
  exact cR_t (h.1 c h1.1 12 13 (by rw [h1.2]; rfl)) (by have := kd_7_12 c h1.1 h1.2; simp [okr, this, NC])
theorem oC_7_12 {c : Nat} (hc : okr kC NC 7 c = true) : okr kC NC 101 (c + 13) = true := by
  have h1 := okr_in hc
  have := kd_7_12 c h1.1 h1.2
  simp [okr, this, NC]
theorem nC_7_12 {c : Nat} (hc : okr kC NC 7 c = true) : (kC (c + 13)).2 = 4 := by
  have h1 := okr_in hc
  rw [(kd_7_12 c h1.1 h1.2).2]
theorem kd_7_13 : ∀ c, c < 246 → (kC c).1 = 7 → c + 14 < 246 ∧ kC (c + 14) = (101, 6) := by decide +kernel
/-- HillDrums$Text.vars -/
theorem rC_7_13 {α : Type} {P : SPt} (h : HC P) {c : Nat} (hc : okr kC NC 7 c = true) (f : Nat → Option α) : cR (P c 13) (okr kC NC 101) f = f (c + 14) := by
  have h1 := okr_in hc
  exact cR_t (h.1 c h1.1 13 14 (by rw [h1.2]; rfl)) (by have := kd_7_13 c h1.1 h1.2; simp [okr, this, NC])
theorem oC_7_13 {c : Nat} (hc : okr kC NC 7 c = true) : okr kC NC 101 (c + 14) = true := by
  have h1 := okr_in hc
  have := kd_7_13 c h1.1 h1.2
  simp [okr, this, NC]
theorem nC_7_13 {c : Nat} (hc : okr kC NC 7 c = true) : (kC (c + 14)).2 = 6 := by
  have h1 := okr_in hc
  rw [(kd_7_13 c h1.1 h1.2).2]
theorem kd_7_14 : ∀ c, c < 246 → (kC c).1 = 7 → c + 15 < 246 ∧ kC (c + 15) = (103, 256) := by decide +kernel
/-- HillDrums$Text.heardRows -/
theorem rC_7_14 {α : Type} {P : SPt} (h : HC P) {c : Nat} (hc : okr kC NC 7 c = true) (f : Nat → Option α) : cR (P c 14) (okr kC NC 103) f = f (c + 15) := by
  have h1 := okr_in hc
  exact cR_t (h.1 c h1.1 14 15 (by rw [h1.2]; rfl)) (by have := kd_7_14 c h1.1 h1.2; simp [okr, this, NC])
theorem oC_7_14 {c : Nat} (hc : okr kC NC 7 c = true) : okr kC NC 103 (c + 15) = true := by
  have h1 := okr_in hc
  have := kd_7_14 c h1.1 h1.2
  simp [okr, this, NC]
theorem nC_7_14 {c : Nat} (hc : okr kC NC 7 c = true) : (kC (c + 15)).2 = 256 := by
  have h1 := okr_in hc
  rw [(kd_7_14 c h1.1 h1.2).2]
theorem kd_7_15 : ∀ c, c < 246 → (kC c).1 = 7 → c + 16 < 246 ∧ kC (c + 16) = (101, 256) := by decide +kernel
/-- HillDrums$Text.heardDays -/
theorem rC_7_15 {α : Type} {P : SPt} (h : HC P) {c : Nat} (hc : okr kC NC 7 c = true) (f : Nat → Option α) : cR (P c 15) (okr kC NC 101) f = f (c + 16) := by
  have h1 := okr_in hc
  exact cR_t (h.1 c h1.1 15 16 (by rw [h1.2]; rfl)) (by have := kd_7_15 c h1.1 h1.2; simp [okr, this, NC])
theorem oC_7_15 {c : Nat} (hc : okr kC NC 7 c = true) : okr kC NC 101 (c + 16) = true := by
  have h1 := okr_in hc
  have := kd_7_15 c h1.1 h1.2
  simp [okr, this, NC]
theorem nC_7_15 {c : Nat} (hc : okr kC NC 7 c = true) : (kC (c + 16)).2 = 256 := by
  have h1 := okr_in hc
  rw [(kd_7_15 c h1.1 h1.2).2]
theorem kd_8_0 : ∀ c, c < 246 → (kC c).1 = 8 → c + 1 < 246 ∧ kC (c + 1) = (101, 401) := by decide +kernel
/-- HillDrums$Tokens.kinds -/
theorem rC_8_0 {α : Type} {P : SPt} (h : HC P) {c : Nat} (hc : okr kC NC 8 c = true) (f : Nat → Option α) : cR (P c 0) (okr kC NC 101) f = f (c + 1) := by
  have h1 := okr_in hc
  exact cR_t (h.1 c h1.1 0 1 (by rw [h1.2]; rfl)) (by have := kd_8_0 c h1.1 h1.2; simp [okr, this, NC])
theorem oC_8_0 {c : Nat} (hc : okr kC NC 8 c = true) : okr kC NC 101 (c + 1) = true := by
  have h1 := okr_in hc
  have := kd_8_0 c h1.1 h1.2
  simp [okr, this, NC]
theorem nC_8_0 {c : Nat} (hc : okr kC NC 8 c = true) : (kC (c + 1)).2 = 401 := by
  have h1 := okr_in hc
  rw [(kd_8_0 c h1.1 h1.2).2]
theorem kd_8_1 : ∀ c, c < 246 → (kC c).1 = 8 → c + 2 < 246 ∧ kC (c + 2) = (101, 401) := by decide +kernel
/-- HillDrums$Tokens.places -/
theorem rC_8_1 {α : Type} {P : SPt} (h : HC P) {c : Nat} (hc : okr kC NC 8 c = true) (f : Nat → Option α) : cR (P c 1) (okr kC NC 101) f = f (c + 2) := by
  have h1 := okr_in hc
  exact cR_t (h.1 c h1.1 1 2 (by rw [h1.2]; rfl)) (by have := kd_8_1 c h1.1 h1.2; simp [okr, this, NC])
theorem oC_8_1 {c : Nat} (hc : okr kC NC 8 c = true) : okr kC NC 101 (c + 2) = true := by
  have h1 := okr_in hc
  have := kd_8_1 c h1.1 h1.2
  simp [okr, this, NC]
theorem nC_8_1 {c : Nat} (hc : okr kC NC 8 c = true) : (kC (c + 2)).2 = 401 := by
  have h1 := okr_in hc
  rw [(kd_8_1 c h1.1 h1.2).2]
theorem kd_8_2 : ∀ c, c < 246 → (kC c).1 = 8 → c + 3 < 246 ∧ kC (c + 3) = (103, 401) := by decide +kernel
/-- HillDrums$Tokens.values -/
theorem rC_8_2 {α : Type} {P : SPt} (h : HC P) {c : Nat} (hc : okr kC NC 8 c = true) (f : Nat → Option α) : cR (P c 2) (okr kC NC 103) f = f (c + 3) := by
  have h1 := okr_in hc
  exact cR_t (h.1 c h1.1 2 3 (by rw [h1.2]; rfl)) (by have := kd_8_2 c h1.1 h1.2; simp [okr, this, NC])
theorem oC_8_2 {c : Nat} (hc : okr kC NC 8 c = true) : okr kC NC 103 (c + 3) = true := by
  have h1 := okr_in hc
  have := kd_8_2 c h1.1 h1.2
  simp [okr, this, NC]
theorem nC_8_2 {c : Nat} (hc : okr kC NC 8 c = true) : (kC (c + 3)).2 = 401 := by
  have h1 := okr_in hc
  rw [(kd_8_2 c h1.1 h1.2).2]
theorem kd_9_0 : ∀ c, c < 246 → (kC c).1 = 9 → c + 1 < 246 ∧ kC (c + 1) = (101, 20) := by decide +kernel
/-- HillDrums$Told.hills -/
theorem rC_9_0 {α : Type} {P : SPt} (h : HC P) {c : Nat} (hc : okr kC NC 9 c = true) (f : Nat → Option α) : cR (P c 0) (okr kC NC 101) f = f (c + 1) := by
  have h1 := okr_in hc
  exact cR_t (h.1 c h1.1 0 1 (by rw [h1.2]; rfl)) (by have := kd_9_0 c h1.1 h1.2; simp [okr, this, NC])
theorem oC_9_0 {c : Nat} (hc : okr kC NC 9 c = true) : okr kC NC 101 (c + 1) = true := by
  have h1 := okr_in hc
  have := kd_9_0 c h1.1 h1.2
  simp [okr, this, NC]
theorem nC_9_0 {c : Nat} (hc : okr kC NC 9 c = true) : (kC (c + 1)).2 = 20 := by
  have h1 := okr_in hc
  rw [(kd_9_0 c h1.1 h1.2).2]
theorem kd_9_1 : ∀ c, c < 246 → (kC c).1 = 9 → c + 2 < 246 ∧ kC (c + 2) = (101, 20) := by decide +kernel
/-- HillDrums$Told.newses -/
theorem rC_9_1 {α : Type} {P : SPt} (h : HC P) {c : Nat} (hc : okr kC NC 9 c = true) (f : Nat → Option α) : cR (P c 1) (okr kC NC 101) f = f (c + 2) := by
  have h1 := okr_in hc
  exact cR_t (h.1 c h1.1 1 2 (by rw [h1.2]; rfl)) (by have := kd_9_1 c h1.1 h1.2; simp [okr, this, NC])
theorem oC_9_1 {c : Nat} (hc : okr kC NC 9 c = true) : okr kC NC 101 (c + 2) = true := by
  have h1 := okr_in hc
  have := kd_9_1 c h1.1 h1.2
  simp [okr, this, NC]
theorem nC_9_1 {c : Nat} (hc : okr kC NC 9 c = true) : (kC (c + 2)).2 = 20 := by
  have h1 := okr_in hc
  rw [(kd_9_1 c h1.1 h1.2).2]
theorem kd_9_2 : ∀ c, c < 246 → (kC c).1 = 9 → c + 3 < 246 ∧ kC (c + 3) = (101, 20) := by decide +kernel
/-- HillDrums$Told.days -/
theorem rC_9_2 {α : Type} {P : SPt} (h : HC P) {c : Nat} (hc : okr kC NC 9 c = true) (f : Nat → Option α) : cR (P c 2) (okr kC NC 101) f = f (c + 3) := by
  have h1 := okr_in hc
  exact cR_t (h.1 c h1.1 2 3 (by rw [h1.2]; rfl)) (by have := kd_9_2 c h1.1 h1.2; simp [okr, this, NC])
theorem oC_9_2 {c : Nat} (hc : okr kC NC 9 c = true) : okr kC NC 101 (c + 3) = true := by
  have h1 := okr_in hc
  have := kd_9_2 c h1.1 h1.2
  simp [okr, this, NC]
theorem nC_9_2 {c : Nat} (hc : okr kC NC 9 c = true) : (kC (c + 3)).2 = 20 := by
  have h1 := okr_in hc
  rw [(kd_9_2 c h1.1 h1.2).2]
theorem kd_10_9 : ∀ c, c < 246 → (kC c).1 = 10 → c + 1 < 246 ∧ kC (c + 1) = (101, 24) := by decide +kernel
/-- HillDrums$World.since -/
theorem rC_10_9 {α : Type} {P : SPt} (h : HC P) {c : Nat} (hc : okr kC NC 10 c = true) (f : Nat → Option α) : cR (P c 9) (okr kC NC 101) f = f (c + 1) := by
  have h1 := okr_in hc
  exact cR_t (h.1 c h1.1 9 1 (by rw [h1.2]; rfl)) (by have := kd_10_9 c h1.1 h1.2; simp [okr, this, NC])
theorem oC_10_9 {c : Nat} (hc : okr kC NC 10 c = true) : okr kC NC 101 (c + 1) = true := by
  have h1 := okr_in hc
  have := kd_10_9 c h1.1 h1.2
  simp [okr, this, NC]
theorem nC_10_9 {c : Nat} (hc : okr kC NC 10 c = true) : (kC (c + 1)).2 = 24 := by
  have h1 := okr_in hc
  rw [(kd_10_9 c h1.1 h1.2).2]
theorem kd_10_10 : ∀ c, c < 246 → (kC c).1 = 10 → c + 2 < 246 ∧ kC (c + 2) = (101, 24) := by decide +kernel
/-- HillDrums$World.from -/
theorem rC_10_10 {α : Type} {P : SPt} (h : HC P) {c : Nat} (hc : okr kC NC 10 c = true) (f : Nat → Option α) : cR (P c 10) (okr kC NC 101) f = f (c + 2) := by
  have h1 := okr_in hc
  exact cR_t (h.1 c h1.1 10 2 (by rw [h1.2]; rfl)) (by have := kd_10_10 c h1.1 h1.2; simp [okr, this, NC])
theorem oC_10_10 {c : Nat} (hc : okr kC NC 10 c = true) : okr kC NC 101 (c + 2) = true := by
  have h1 := okr_in hc
  have := kd_10_10 c h1.1 h1.2
  simp [okr, this, NC]
theorem nC_10_10 {c : Nat} (hc : okr kC NC 10 c = true) : (kC (c + 2)).2 = 24 := by
  have h1 := okr_in hc
  rw [(kd_10_10 c h1.1 h1.2).2]
theorem kd_10_11 : ∀ c, c < 246 → (kC c).1 = 10 → c + 3 < 246 ∧ kC (c + 3) = (101, 60) := by decide +kernel
/-- HillDrums$World.drumsOfDay -/
theorem rC_10_11 {α : Type} {P : SPt} (h : HC P) {c : Nat} (hc : okr kC NC 10 c = true) (f : Nat → Option α) : cR (P c 11) (okr kC NC 101) f = f (c + 3) := by
  have h1 := okr_in hc
  exact cR_t (h.1 c h1.1 11 3 (by rw [h1.2]; rfl)) (by have := kd_10_11 c h1.1 h1.2; simp [okr, this, NC])
theorem oC_10_11 {c : Nat} (hc : okr kC NC 10 c = true) : okr kC NC 101 (c + 3) = true := by
  have h1 := okr_in hc
  have := kd_10_11 c h1.1 h1.2
  simp [okr, this, NC]
theorem nC_10_11 {c : Nat} (hc : okr kC NC 10 c = true) : (kC (c + 3)).2 = 60 := by
  have h1 := okr_in hc
  rw [(kd_10_11 c h1.1 h1.2).2]
theorem kd_11_0 : ∀ c, c < 246 → (kC c).1 = 11 → c + 1 < 246 ∧ kC (c + 1) = (6, 0) := by decide +kernel
/-- HillDrums.tape -/
theorem rC_11_0 {α : Type} {P : SPt} (h : HC P) {c : Nat} (hc : okr kC NC 11 c = true) (f : Nat → Option α) : cR (P c 0) (okr kC NC 6) f = f (c + 1) := by
  have h1 := okr_in hc
  exact cR_t (h.1 c h1.1 0 1 (by rw [h1.2]; rfl)) (by have := kd_11_0 c h1.1 h1.2; simp [okr, this, NC])
theorem oC_11_0 {c : Nat} (hc : okr kC NC 11 c = true) : okr kC NC 6 (c + 1) = true := by
  have h1 := okr_in hc
  have := kd_11_0 c h1.1 h1.2
  simp [okr, this, NC]
theorem kd_11_3 : ∀ c, c < 246 → (kC c).1 = 11 → c + 37 < 246 ∧ kC (c + 37) = (4, 0) := by decide +kernel
/-- HillDrums.reader -/
theorem rC_11_3 {α : Type} {P : SPt} (h : HC P) {c : Nat} (hc : okr kC NC 11 c = true) (f : Nat → Option α) : cR (P c 3) (okr kC NC 4) f = f (c + 37) := by
  have h1 := okr_in hc
  exact cR_t (h.1 c h1.1 3 37 (by rw [h1.2]; rfl)) (by have := kd_11_3 c h1.1 h1.2; simp [okr, this, NC])
theorem oC_11_3 {c : Nat} (hc : okr kC NC 11 c = true) : okr kC NC 4 (c + 37) = true := by
  have h1 := okr_in hc
  have := kd_11_3 c h1.1 h1.2
  simp [okr, this, NC]
theorem kd_11_5 : ∀ c, c < 246 → (kC c).1 = 11 → c + 44 < 246 ∧ kC (c + 44) = (10, 0) := by decide +kernel
/-- HillDrums.now -/
theorem rC_11_5 {α : Type} {P : SPt} (h : HC P) {c : Nat} (hc : okr kC NC 11 c = true) (f : Nat → Option α) : cR (P c 5) (okr kC NC 10) f = f (c + 44) := by
  have h1 := okr_in hc
  exact cR_t (h.1 c h1.1 5 44 (by rw [h1.2]; rfl)) (by have := kd_11_5 c h1.1 h1.2; simp [okr, this, NC])
theorem oC_11_5 {c : Nat} (hc : okr kC NC 11 c = true) : okr kC NC 10 (c + 44) = true := by
  have h1 := okr_in hc
  have := kd_11_5 c h1.1 h1.2
  simp [okr, this, NC]
theorem kd_11_6 : ∀ c, c < 246 → (kC c).1 = 11 → c + 48 < 246 ∧ kC (c + 48) = (10, 0) := by decide +kernel
/-- HillDrums.would -/
theorem rC_11_6 {α : Type} {P : SPt} (h : HC P) {c : Nat} (hc : okr kC NC 11 c = true) (f : Nat → Option α) : cR (P c 6) (okr kC NC 10) f = f (c + 48) := by
  have h1 := okr_in hc
  exact cR_t (h.1 c h1.1 6 48 (by rw [h1.2]; rfl)) (by have := kd_11_6 c h1.1 h1.2; simp [okr, this, NC])
theorem oC_11_6 {c : Nat} (hc : okr kC NC 11 c = true) : okr kC NC 10 (c + 48) = true := by
  have h1 := okr_in hc
  have := kd_11_6 c h1.1 h1.2
  simp [okr, this, NC]
theorem kd_11_7 : ∀ c, c < 246 → (kC c).1 = 11 → c + 52 < 246 ∧ kC (c + 52) = (2, 0) := by decide +kernel
/-- HillDrums.past -/
theorem rC_11_7 {α : Type} {P : SPt} (h : HC P) {c : Nat} (hc : okr kC NC 11 c = true) (f : Nat → Option α) : cR (P c 7) (okr kC NC 2) f = f (c + 52) := by
  have h1 := okr_in hc
  exact cR_t (h.1 c h1.1 7 52 (by rw [h1.2]; rfl)) (by have := kd_11_7 c h1.1 h1.2; simp [okr, this, NC])
theorem oC_11_7 {c : Nat} (hc : okr kC NC 11 c = true) : okr kC NC 2 (c + 52) = true := by
  have h1 := okr_in hc
  have := kd_11_7 c h1.1 h1.2
  simp [okr, this, NC]
theorem kd_11_8 : ∀ c, c < 246 → (kC c).1 = 11 → c + 214 < 246 ∧ kC (c + 214) = (105, 3) := by decide +kernel
/-- HillDrums.slots -/
theorem rC_11_8 {α : Type} {P : SPt} (h : HC P) {c : Nat} (hc : okr kC NC 11 c = true) (f : Nat → Option α) : cR (P c 8) (okr kC NC 105) f = f (c + 214) := by
  have h1 := okr_in hc
  exact cR_t (h.1 c h1.1 8 214 (by rw [h1.2]; rfl)) (by have := kd_11_8 c h1.1 h1.2; simp [okr, this, NC])
theorem oC_11_8 {c : Nat} (hc : okr kC NC 11 c = true) : okr kC NC 105 (c + 214) = true := by
  have h1 := okr_in hc
  have := kd_11_8 c h1.1 h1.2
  simp [okr, this, NC]
theorem nC_11_8 {c : Nat} (hc : okr kC NC 11 c = true) : (kC (c + 214)).2 = 3 := by
  have h1 := okr_in hc
  rw [(kd_11_8 c h1.1 h1.2).2]
theorem kd_11_10 : ∀ c, c < 246 → (kC c).1 = 11 → c + 215 < 246 ∧ kC (c + 215) = (9, 0) := by decide +kernel
/-- HillDrums.told -/
theorem rC_11_10 {α : Type} {P : SPt} (h : HC P) {c : Nat} (hc : okr kC NC 11 c = true) (f : Nat → Option α) : cR (P c 10) (okr kC NC 9) f = f (c + 215) := by
  have h1 := okr_in hc
  exact cR_t (h.1 c h1.1 10 215 (by rw [h1.2]; rfl)) (by have := kd_11_10 c h1.1 h1.2; simp [okr, this, NC])
theorem oC_11_10 {c : Nat} (hc : okr kC NC 11 c = true) : okr kC NC 9 (c + 215) = true := by
  have h1 := okr_in hc
  have := kd_11_10 c h1.1 h1.2
  simp [okr, this, NC]
theorem kd_11_11 : ∀ c, c < 246 → (kC c).1 = 11 → c + 219 < 246 ∧ kC (c + 219) = (3, 0) := by decide +kernel
/-- HillDrums.plans -/
theorem rC_11_11 {α : Type} {P : SPt} (h : HC P) {c : Nat} (hc : okr kC NC 11 c = true) (f : Nat → Option α) : cR (P c 11) (okr kC NC 3) f = f (c + 219) := by
  have h1 := okr_in hc
  exact cR_t (h.1 c h1.1 11 219 (by rw [h1.2]; rfl)) (by have := kd_11_11 c h1.1 h1.2; simp [okr, this, NC])
theorem oC_11_11 {c : Nat} (hc : okr kC NC 11 c = true) : okr kC NC 3 (c + 219) = true := by
  have h1 := okr_in hc
  have := kd_11_11 c h1.1 h1.2
  simp [okr, this, NC]
theorem kd_11_12 : ∀ c, c < 246 → (kC c).1 = 11 → c + 224 < 246 ∧ kC (c + 224) = (1, 0) := by decide +kernel
/-- HillDrums.loop -/
theorem rC_11_12 {α : Type} {P : SPt} (h : HC P) {c : Nat} (hc : okr kC NC 11 c = true) (f : Nat → Option α) : cR (P c 12) (okr kC NC 1) f = f (c + 224) := by
  have h1 := okr_in hc
  exact cR_t (h.1 c h1.1 12 224 (by rw [h1.2]; rfl)) (by have := kd_11_12 c h1.1 h1.2; simp [okr, this, NC])
theorem oC_11_12 {c : Nat} (hc : okr kC NC 11 c = true) : okr kC NC 1 (c + 224) = true := by
  have h1 := okr_in hc
  have := kd_11_12 c h1.1 h1.2
  simp [okr, this, NC]
/-- the reference's references -/
def HM (P : SPt) : Prop := P 0 1 = some 1 ∧ P 0 3 = some 2 ∧ P 0 5 = some 3 ∧ P 0 6 = some 4 ∧ P 0 7 = some 5 ∧ P 0 8 = some 6 ∧ P 0 9 = some 7 ∧ P 0 21 = some 8 ∧ P 0 22 = some 9 ∧ P 0 23 = some 10 ∧ P 0 24 = some 11 ∧ P 0 25 = some 12 ∧ P 0 26 = some 13 ∧ P 0 27 = some 14 ∧ P 0 28 = some 15 ∧ P 0 29 = some 16 ∧ P 0 30 = some 17 ∧ P 0 31 = some 18 ∧ P 0 32 = some 19 ∧ P 0 33 = some 20 ∧ P 0 34 = some 21 ∧ P 0 35 = some 22 ∧ P 0 36 = some 23 ∧ P 0 37 = some 24 ∧ P 0 39 = some 25 ∧ P 0 40 = some 26 ∧ P 0 41 = some 27 ∧ P 0 42 = some 28 ∧ P 0 43 = some 29 ∧ P 0 45 = some 30 ∧ P 0 46 = some 31 ∧ P 0 47 = some 32 ∧ P 0 49 = some 33 ∧ P 0 50 = some 34 ∧ P 0 52 = some 35 ∧ P 0 53 = some 36 ∧ P 0 54 = some 37 ∧ P 0 58 = some 38 ∧ P 0 59 = some 39 ∧ P 0 60 = some 40 ∧ P 0 61 = some 41 ∧ P 0 64 = some 42 ∧ P 0 65 = some 43 ∧ P 0 66 = some 44 ∧ P 0 67 = some 45 ∧ P 0 68 = some 46
/-- tape -/
theorem rM_1 {α : Type} {P : SPt} (h : HM P) (f : Nat → Option α) : cR (P 0 1) (okr kM NM 100) f = f 1 := cR_t h.1 (by decide +kernel)
/-- text -/
theorem rM_3 {α : Type} {P : SPt} (h : HM P) (f : Nat → Option α) : cR (P 0 3) (okr kM NM 100) f = f 2 := cR_t h.2.1 (by decide +kernel)
/-- tKind -/
theorem rM_5 {α : Type} {P : SPt} (h : HM P) (f : Nat → Option α) : cR (P 0 5) (okr kM NM 101) f = f 3 := cR_t h.2.2.1 (by decide +kernel)
/-- tPlace -/
theorem rM_6 {α : Type} {P : SPt} (h : HM P) (f : Nat → Option α) : cR (P 0 6) (okr kM NM 101) f = f 4 := cR_t h.2.2.2.1 (by decide +kernel)
/-- tValue -/
theorem rM_7 {α : Type} {P : SPt} (h : HM P) (f : Nat → Option α) : cR (P 0 7) (okr kM NM 101) f = f 5 := cR_t h.2.2.2.2.1 (by decide +kernel)
/-- tName -/
theorem rM_8 {α : Type} {P : SPt} (h : HM P) (f : Nat → Option α) : cR (P 0 8) (okr kM NM 103) f = f 6 := cR_t h.2.2.2.2.2.1 (by decide +kernel)
/-- keys -/
theorem rM_9 {α : Type} {P : SPt} (h : HM P) (f : Nat → Option α) : cR (P 0 9) (okr kM NM 103) f = f 7 := cR_t h.2.2.2.2.2.2.1 (by decide +kernel)
/-- nameOf -/
theorem rM_21 {α : Type} {P : SPt} (h : HM P) (f : Nat → Option α) : cR (P 0 21) (okr kM NM 103) f = f 8 := cR_t h.2.2.2.2.2.2.2.1 (by decide +kernel)
/-- nameSort -/
theorem rM_22 {α : Type} {P : SPt} (h : HM P) (f : Nat → Option α) : cR (P 0 22) (okr kM NM 101) f = f 9 := cR_t h.2.2.2.2.2.2.2.2.1 (by decide +kernel)
/-- nameAt -/
theorem rM_23 {α : Type} {P : SPt} (h : HM P) (f : Nat → Option α) : cR (P 0 23) (okr kM NM 101) f = f 10 := cR_t h.2.2.2.2.2.2.2.2.2.1 (by decide +kernel)
/-- hills -/
theorem rM_24 {α : Type} {P : SPt} (h : HM P) (f : Nat → Option α) : cR (P 0 24) (okr kM NM 101) f = f 11 := cR_t h.2.2.2.2.2.2.2.2.2.2.1 (by decide +kernel)
/-- hillX -/
theorem rM_25 {α : Type} {P : SPt} (h : HM P) (f : Nat → Option α) : cR (P 0 25) (okr kM NM 101) f = f 12 := cR_t h.2.2.2.2.2.2.2.2.2.2.2.1 (by decide +kernel)
/-- hillY -/
theorem rM_26 {α : Type} {P : SPt} (h : HM P) (f : Nat → Option α) : cR (P 0 26) (okr kM NM 101) f = f 13 := cR_t h.2.2.2.2.2.2.2.2.2.2.2.2.1 (by decide +kernel)
/-- newsMany -/
theorem rM_27 {α : Type} {P : SPt} (h : HM P) (f : Nat → Option α) : cR (P 0 27) (okr kM NM 101) f = f 14 := cR_t h.2.2.2.2.2.2.2.2.2.2.2.2.2.1 (by decide +kernel)
/-- newsAt -/
theorem rM_28 {α : Type} {P : SPt} (h : HM P) (f : Nat → Option α) : cR (P 0 28) (okr kM NM 101) f = f 15 := cR_t h.2.2.2.2.2.2.2.2.2.2.2.2.2.2.1 (by decide +kernel)
/-- many -/
theorem rM_29 {α : Type} {P : SPt} (h : HM P) (f : Nat → Option α) : cR (P 0 29) (okr kM NM 101) f = f 16 := cR_t h.2.2.2.2.2.2.2.2.2.2.2.2.2.2.2.1 (by decide +kernel)
/-- weather -/
theorem rM_30 {α : Type} {P : SPt} (h : HM P) (f : Nat → Option α) : cR (P 0 30) (okr kM NM 101) f = f 17 := cR_t h.2.2.2.2.2.2.2.2.2.2.2.2.2.2.2.2.1 (by decide +kernel)
/-- order -/
theorem rM_31 {α : Type} {P : SPt} (h : HM P) (f : Nat → Option α) : cR (P 0 31) (okr kM NM 101) f = f 18 := cR_t h.2.2.2.2.2.2.2.2.2.2.2.2.2.2.2.2.2.1 (by decide +kernel)
/-- sleepers -/
theorem rM_32 {α : Type} {P : SPt} (h : HM P) (f : Nat → Option α) : cR (P 0 32) (okr kM NM 101) f = f 19 := cR_t h.2.2.2.2.2.2.2.2.2.2.2.2.2.2.2.2.2.2.1 (by decide +kernel)
/-- sleepHill -/
theorem rM_33 {α : Type} {P : SPt} (h : HM P) (f : Nat → Option α) : cR (P 0 33) (okr kM NM 101) f = f 20 := cR_t h.2.2.2.2.2.2.2.2.2.2.2.2.2.2.2.2.2.2.2.1 (by decide +kernel)
/-- sleepNews -/
theorem rM_34 {α : Type} {P : SPt} (h : HM P) (f : Nat → Option α) : cR (P 0 34) (okr kM NM 101) f = f 21 := cR_t h.2.2.2.2.2.2.2.2.2.2.2.2.2.2.2.2.2.2.2.2.1 (by decide +kernel)
/-- sleepDays -/
theorem rM_35 {α : Type} {P : SPt} (h : HM P) (f : Nat → Option α) : cR (P 0 35) (okr kM NM 101) f = f 22 := cR_t h.2.2.2.2.2.2.2.2.2.2.2.2.2.2.2.2.2.2.2.2.2.1 (by decide +kernel)
/-- lawFirst -/
theorem rM_36 {α : Type} {P : SPt} (h : HM P) (f : Nat → Option α) : cR (P 0 36) (okr kM NM 101) f = f 23 := cR_t h.2.2.2.2.2.2.2.2.2.2.2.2.2.2.2.2.2.2.2.2.2.2.1 (by decide +kernel)
/-- lawLast -/
theorem rM_37 {α : Type} {P : SPt} (h : HM P) (f : Nat → Option α) : cR (P 0 37) (okr kM NM 101) f = f 24 := cR_t h.2.2.2.2.2.2.2.2.2.2.2.2.2.2.2.2.2.2.2.2.2.2.2.1 (by decide +kernel)
/-- hasTest -/
theorem rM_39 {α : Type} {P : SPt} (h : HM P) (f : Nat → Option α) : cR (P 0 39) (okr kM NM 102) f = f 25 := cR_t h.2.2.2.2.2.2.2.2.2.2.2.2.2.2.2.2.2.2.2.2.2.2.2.2.1 (by decide +kernel)
/-- testFrom -/
theorem rM_40 {α : Type} {P : SPt} (h : HM P) (f : Nat → Option α) : cR (P 0 40) (okr kM NM 101) f = f 26 := cR_t h.2.2.2.2.2.2.2.2.2.2.2.2.2.2.2.2.2.2.2.2.2.2.2.2.2.1 (by decide +kernel)
/-- testMid -/
theorem rM_41 {α : Type} {P : SPt} (h : HM P) (f : Nat → Option α) : cR (P 0 41) (okr kM NM 101) f = f 27 := cR_t h.2.2.2.2.2.2.2.2.2.2.2.2.2.2.2.2.2.2.2.2.2.2.2.2.2.2.1 (by decide +kernel)
/-- testTo -/
theorem rM_42 {α : Type} {P : SPt} (h : HM P) (f : Nat → Option α) : cR (P 0 42) (okr kM NM 101) f = f 28 := cR_t h.2.2.2.2.2.2.2.2.2.2.2.2.2.2.2.2.2.2.2.2.2.2.2.2.2.2.2.1 (by decide +kernel)
/-- termTo -/
theorem rM_43 {α : Type} {P : SPt} (h : HM P) (f : Nat → Option α) : cR (P 0 43) (okr kM NM 101) f = f 29 := cR_t h.2.2.2.2.2.2.2.2.2.2.2.2.2.2.2.2.2.2.2.2.2.2.2.2.2.2.2.2.1 (by decide +kernel)
/-- code -/
theorem rM_45 {α : Type} {P : SPt} (h : HM P) (f : Nat → Option α) : cR (P 0 45) (okr kM NM 101) f = f 30 := cR_t h.2.2.2.2.2.2.2.2.2.2.2.2.2.2.2.2.2.2.2.2.2.2.2.2.2.2.2.2.2.1 (by decide +kernel)
/-- codeInt -/
theorem rM_46 {α : Type} {P : SPt} (h : HM P) (f : Nat → Option α) : cR (P 0 46) (okr kM NM 101) f = f 31 := cR_t h.2.2.2.2.2.2.2.2.2.2.2.2.2.2.2.2.2.2.2.2.2.2.2.2.2.2.2.2.2.2.1 (by decide +kernel)
/-- waits -/
theorem rM_47 {α : Type} {P : SPt} (h : HM P) (f : Nat → Option α) : cR (P 0 47) (okr kM NM 101) f = f 32 := cR_t h.2.2.2.2.2.2.2.2.2.2.2.2.2.2.2.2.2.2.2.2.2.2.2.2.2.2.2.2.2.2.2.1 (by decide +kernel)
/-- variables -/
theorem rM_49 {α : Type} {P : SPt} (h : HM P) (f : Nat → Option α) : cR (P 0 49) (okr kM NM 101) f = f 33 := cR_t h.2.2.2.2.2.2.2.2.2.2.2.2.2.2.2.2.2.2.2.2.2.2.2.2.2.2.2.2.2.2.2.2.1 (by decide +kernel)
/-- pile -/
theorem rM_50 {α : Type} {P : SPt} (h : HM P) (f : Nat → Option α) : cR (P 0 50) (okr kM NM 101) f = f 34 := cR_t h.2.2.2.2.2.2.2.2.2.2.2.2.2.2.2.2.2.2.2.2.2.2.2.2.2.2.2.2.2.2.2.2.2.1 (by decide +kernel)
/-- hearers -/
theorem rM_52 {α : Type} {P : SPt} (h : HM P) (f : Nat → Option α) : cR (P 0 52) (okr kM NM 101) f = f 35 := cR_t h.2.2.2.2.2.2.2.2.2.2.2.2.2.2.2.2.2.2.2.2.2.2.2.2.2.2.2.2.2.2.2.2.2.2.1 (by decide +kernel)
/-- now -/
theorem rM_53 {α : Type} {P : SPt} (h : HM P) (f : Nat → Option α) : cR (P 0 53) (okr kM NM 101) f = f 36 := cR_t h.2.2.2.2.2.2.2.2.2.2.2.2.2.2.2.2.2.2.2.2.2.2.2.2.2.2.2.2.2.2.2.2.2.2.2.1 (by decide +kernel)
/-- row -/
theorem rM_54 {α : Type} {P : SPt} (h : HM P) (f : Nat → Option α) : cR (P 0 54) (okr kM NM 101) f = f 37 := cR_t h.2.2.2.2.2.2.2.2.2.2.2.2.2.2.2.2.2.2.2.2.2.2.2.2.2.2.2.2.2.2.2.2.2.2.2.2.1 (by decide +kernel)
/-- history -/
theorem rM_58 {α : Type} {P : SPt} (h : HM P) (f : Nat → Option α) : cR (P 0 58) (okr kM NM 101) f = f 38 := cR_t h.2.2.2.2.2.2.2.2.2.2.2.2.2.2.2.2.2.2.2.2.2.2.2.2.2.2.2.2.2.2.2.2.2.2.2.2.2.1 (by decide +kernel)
/-- drumsBy -/
theorem rM_59 {α : Type} {P : SPt} (h : HM P) (f : Nat → Option α) : cR (P 0 59) (okr kM NM 101) f = f 39 := cR_t h.2.2.2.2.2.2.2.2.2.2.2.2.2.2.2.2.2.2.2.2.2.2.2.2.2.2.2.2.2.2.2.2.2.2.2.2.2.2.1 (by decide +kernel)
/-- drumsThen -/
theorem rM_60 {α : Type} {P : SPt} (h : HM P) (f : Nat → Option α) : cR (P 0 60) (okr kM NM 101) f = f 40 := cR_t h.2.2.2.2.2.2.2.2.2.2.2.2.2.2.2.2.2.2.2.2.2.2.2.2.2.2.2.2.2.2.2.2.2.2.2.2.2.2.2.1 (by decide +kernel)
/-- hole -/
theorem rM_61 {α : Type} {P : SPt} (h : HM P) (f : Nat → Option α) : cR (P 0 61) (okr kM NM 101) f = f 41 := cR_t h.2.2.2.2.2.2.2.2.2.2.2.2.2.2.2.2.2.2.2.2.2.2.2.2.2.2.2.2.2.2.2.2.2.2.2.2.2.2.2.2.1 (by decide +kernel)
/-- toldHill -/
theorem rM_64 {α : Type} {P : SPt} (h : HM P) (f : Nat → Option α) : cR (P 0 64) (okr kM NM 101) f = f 42 := cR_t h.2.2.2.2.2.2.2.2.2.2.2.2.2.2.2.2.2.2.2.2.2.2.2.2.2.2.2.2.2.2.2.2.2.2.2.2.2.2.2.2.2.1 (by decide +kernel)
/-- toldNews -/
theorem rM_65 {α : Type} {P : SPt} (h : HM P) (f : Nat → Option α) : cR (P 0 65) (okr kM NM 101) f = f 43 := cR_t h.2.2.2.2.2.2.2.2.2.2.2.2.2.2.2.2.2.2.2.2.2.2.2.2.2.2.2.2.2.2.2.2.2.2.2.2.2.2.2.2.2.2.1 (by decide +kernel)
/-- toldDay -/
theorem rM_66 {α : Type} {P : SPt} (h : HM P) (f : Nat → Option α) : cR (P 0 66) (okr kM NM 101) f = f 44 := cR_t h.2.2.2.2.2.2.2.2.2.2.2.2.2.2.2.2.2.2.2.2.2.2.2.2.2.2.2.2.2.2.2.2.2.2.2.2.2.2.2.2.2.2.2.1 (by decide +kernel)
/-- isHeld -/
theorem rM_67 {α : Type} {P : SPt} (h : HM P) (f : Nat → Option α) : cR (P 0 67) (okr kM NM 102) f = f 45 := cR_t h.2.2.2.2.2.2.2.2.2.2.2.2.2.2.2.2.2.2.2.2.2.2.2.2.2.2.2.2.2.2.2.2.2.2.2.2.2.2.2.2.2.2.2.2.1 (by decide +kernel)
/-- held -/
theorem rM_68 {α : Type} {P : SPt} (h : HM P) (f : Nat → Option α) : cR (P 0 68) (okr kM NM 101) f = f 46 := cR_t h.2.2.2.2.2.2.2.2.2.2.2.2.2.2.2.2.2.2.2.2.2.2.2.2.2.2.2.2.2.2.2.2.2.2.2.2.2.2.2.2.2.2.2.2.2 (by decide +kernel)
theorem kM_1 : (kM 1).2 = 2000 := rfl
theorem kM_2 : (kM 2).2 = 2000 := rfl
theorem kM_3 : (kM 3).2 = 403 := rfl
theorem kM_4 : (kM 4).2 = 403 := rfl
theorem kM_5 : (kM 5).2 = 403 := rfl
theorem kM_6 : (kM 6).2 = 403 := rfl
theorem kM_7 : (kM 7).2 = 19 := rfl
theorem kM_8 : (kM 8).2 = 10 := rfl
theorem kM_9 : (kM 9).2 = 10 := rfl
theorem kM_10 : (kM 10).2 = 10 := rfl
theorem kM_11 : (kM 11).2 = 2 := rfl
theorem kM_12 : (kM 12).2 = 12 := rfl
theorem kM_13 : (kM 13).2 = 12 := rfl
theorem kM_14 : (kM 14).2 = 2 := rfl
theorem kM_15 : (kM 15).2 = 8 := rfl
theorem kM_16 : (kM 16).2 = 4 := rfl
theorem kM_17 : (kM 17).2 = 48 := rfl
theorem kM_18 : (kM 18).2 = 2 := rfl
theorem kM_19 : (kM 19).2 = 2 := rfl
theorem kM_20 : (kM 20).2 = 8 := rfl
theorem kM_21 : (kM 21).2 = 8 := rfl
theorem kM_22 : (kM 22).2 = 8 := rfl
theorem kM_23 : (kM 23).2 = 2 := rfl
theorem kM_24 : (kM 24).2 = 2 := rfl
theorem kM_25 : (kM 25).2 = 260 := rfl
theorem kM_26 : (kM 26).2 = 260 := rfl
theorem kM_27 : (kM 27).2 = 260 := rfl
theorem kM_28 : (kM 28).2 = 260 := rfl
theorem kM_29 : (kM 29).2 = 260 := rfl
theorem kM_30 : (kM 30).2 = 840 := rfl
theorem kM_31 : (kM 31).2 = 840 := rfl
theorem kM_32 : (kM 32).2 = 64 := rfl
theorem kM_33 : (kM 33).2 = 6 := rfl
theorem kM_34 : (kM 34).2 = 400 := rfl
theorem kM_35 : (kM 35).2 = 6 := rfl
theorem kM_36 : (kM 36).2 = 380 := rfl
theorem kM_37 : (kM 37).2 = 380 := rfl
theorem kM_38 : (kM 38).2 = 15200 := rfl
theorem kM_39 : (kM 39).2 = 64 := rfl
theorem kM_40 : (kM 40).2 = 64 := rfl
theorem kM_41 : (kM 41).2 = 3 := rfl
theorem kM_42 : (kM 42).2 = 20 := rfl
theorem kM_43 : (kM 43).2 = 20 := rfl
theorem kM_44 : (kM 44).2 = 20 := rfl
theorem kM_45 : (kM 45).2 = 3 := rfl
theorem kM_46 : (kM 46).2 = 1140 := rfl
set_option maxRecDepth 100000 in
theorem mM_refs : ∀ k, k < 69 → ((mM.getD (0, hZ)).2.2.2 0 k) = ([none, some 1, none, some 2, none, some 3, some 4, some 5, some 6, some 7, none, none, none, none, none, none, none, none, none, none, none, some 8, some 9, some 10, some 11, some 12, some 13, some 14, some 15, some 16, some 17, some 18, some 19, some 20, some 21, some 22, some 23, some 24, none, some 25, some 26, some 27, some 28, some 29, none, some 30, some 31, some 32, none, some 33, some 34, none, some 35, some 36, some 37, none, none, none, some 38, some 39, some 40, some 41, none, none, some 42, some 43, some 44, some 45, some 46].getD k none) := by decide +kernel
set_option maxRecDepth 100000 in
theorem mC_refs : ∀ c, c < 246 → ∀ k, k < 16 → fxC (kC c).1 k = none ∨ (mC.getD (0, hZ)).2.2.2 c k = (fxC (kC c).1 k).map (fun d => c + d) := by decide +kernel
