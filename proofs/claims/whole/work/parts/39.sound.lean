/-! ===== PURE 4: the class's world: a drum sounds ===== -/
theorem uI_uA {τ : hSt} {c c' : Nat} (h : c' ≠ c) (f : Nat → Int32) (k : Nat) (v : Int32) : uI (uA τ c f) c' k v = uA (uI τ c' k v) c f := by
  unfold uI uA up2
  refine Prod.ext ?_ rfl
  funext x
  by_cases h1 : x = c
  · subst h1
    funext y
    simp [Ne.symm h]
  · funext y
    simp [h1]
theorem uA_comm {τ : hSt} {c c' : Nat} (h : c' ≠ c) (f g : Nat → Int32) : uA (uA τ c f) c' g = uA (uA τ c' g) c f := by
  unfold uA
  refine Prod.ext ?_ rfl
  funext x
  by_cases h1 : x = c
  · subst h1; simp [Ne.symm h]
  · by_cases h2 : x = c' <;> simp [h1, h2, h]
def orK (i : Nat) (f : Int32) (v : Int32) (r : Nat → Int32) : Nat → Int32 := fun p => if p < i ∧ bt f p = true then v else r p
theorem orK_0 (f v : Int32) (r : Nat → Int32) : orK 0 f v r = r := by funext p; simp [orK]
theorem orK_t {i : Nat} {f v : Int32} {r : Nat → Int32} (h : bt f i = true) : upd (orK i f v r) i v = orK (i + 1) f v r := by
  funext p
  by_cases hp : p = i
  · subst hp; simp [upd, orK, h]
  · simp only [upd, if_neg hp, orK]
    have : (p < i ∧ bt f p = true) ↔ (p < i + 1 ∧ bt f p = true) := ⟨fun q => ⟨by omega, q.2⟩, fun q => ⟨by omega, q.2⟩⟩
    simp only [this]
theorem orK_f {i : Nat} {f v : Int32} {r : Nat → Int32} (h : bt f i = false) : orK i f v r = orK (i + 1) f v r := by
  funext p
  simp only [orK]
  have : (p < i ∧ bt f p = true) ↔ (p < i + 1 ∧ bt f p = true) := ⟨fun q => ⟨by omega, q.2⟩, fun q => ⟨by
    by_cases hp : p = i
    · subst hp; rw [h] at q; exact absurd q.2 (by decide)
    · omega, q.2⟩⟩
  simp only [this]
theorem orK_z {v : Int32} {r : Nat → Int32} {i : Nat} : orK i 0 v r = r := by
  funext p
  simp [orK, bt_0]
theorem noteOrigin_eq {w : Nat} {f hl : Int32} {σ : hSt} (hP : HC σ.2.2) (hw : okr kC NC 10 w = true) :
    F_X10_noteOrigin w f hl σ = some (uA (uA σ (w + 1) (orK 24 f (σ.1 w 0) (σ.1 (w + 1)))) (w + 2) (orK 24 f hl (σ.1 (w + 2)))) := by
  unfold F_X10_noteOrigin F_X10_noteOrigin_2
  refine lp_eq 24 (by rw [fuel_v]; omega) (fun i v => v = (nI i, uA (uA σ (w + 1) (orK i f (σ.1 w 0) (σ.1 (w + 1)))) (w + 2) (orK i f hl (σ.1 (w + 2))))) ?_ (fun i v hi hv => ?_)
  · rw [orK_0, orK_0, uA_self]
    have : (σ.1 (w + 2)) = (uA σ (w + 1) (σ.1 (w + 1))).1 (w + 2) := by rw [uA_self]
    rw [uA_self]
    rfl
  · subst hv
    unfold S_X10_noteOrigin_2 F_X10_noteOrigin_2b
    dsimp only
    have hstep : ∀ t : hSt, F_X10_noteOrigin_33 w f hl (nI i) t = some (.inl (nI (i + 1), t)) := fun t => by
      unfold F_X10_noteOrigin_33 cL
      rw [nI_1]
    by_cases h24 : i < 24
    · rw [if_neg (by rw [show (24 : Int32) = nI 24 from rfl]; exact nI_ge h24 (by decide))]
      refine Or.inl ⟨_, h24, ?_, rfl⟩
      by_cases hb : bt f i = true
      · rw [if_neg (by rw [bt_is0 (by omega), hb]; decide), rC_10_9 (P := (uA (uA σ (w + 1) _) (w + 2) _).2.2) hP hw, nC_10_9 hw, cG_t (inb_nI h24 (by decide)), cl_nI (by omega)]
        unfold cL
        dsimp only
        rw [uA_oth' _ _ _ (by omega), uA_oth' _ _ _ (by omega), uI_uA (by omega), uA_uI, orK_t hb]
        rw [rC_10_10 (P := (uA (uA σ (w + 1) _) (w + 2) _).2.2) hP hw, nC_10_10 hw, cG_t (inb_nI h24 (by decide)), uA_uI, orK_t hb, hstep]
      · have hb : bt f i = false := by simpa using hb
        rw [if_pos ((bt_is0 (by omega)).mpr hb), hstep, orK_f hb, orK_f hb]
    · have : i = 24 := by omega
      subst this
      rw [if_pos (by rw [show (24 : Int32) = nI 24 from rfl]; exact nI_le (Nat.le_refl _) (by decide))]
      exact Or.inr rfl
/-- who hears a drum, as pairs of a news: all but its own hill -/
def othC (h m : Nat) (e : Int32) : Int32 := (e &&& ((1 <<< (nI h &&& 31)) ^^^ (-1))) <<< (nI (6 * m) &&& 31)
theorem bt_oth {h m i : Nat} {e : Int32} (hh : h < 6) (hm : m < 4) (hi : i < 32) : bt (othC h m e) i = (decide (6 * m ≤ i) && (bt e (i - 6 * m) && decide (i - 6 * m ≠ h))) := by
  unfold othC
  rw [bt_shl (by omega) hi]
  by_cases hmi : 6 * m ≤ i
  · rw [bt_and, bt_xor, bt_pow (by omega) (by omega), bt_m1 (by omega)]
    simp [hmi]
  · simp [hmi]
def frsC (k o : Int32) : Int32 := o &&& (k ^^^ (-1))
theorem bt_frs {k o : Int32} {i : Nat} (hi : i < 32) : bt (frsC k o) i = (bt o i && !bt k i) := by
  unfold frsC
  rw [bt_and, bt_xor, bt_m1 hi]
  cases bt k i <;> simp
/-- the world behind a drum -/
def sndC (w h m : Nat) (d e : Int32) (σ : hSt) : hSt :=
  let o := othC h m e
  let f := frsC (σ.1 w 1) o
  let s1 := uI (uI σ w 1 (σ.1 w 1 ||| o)) w 8 (σ.1 w 8 + 1)
  let s2 := if d = 0 then uI s1 w 5 (σ.1 w 5 ||| o) else uI (uI s1 w 6 (σ.1 w 6 ||| o)) w 2 (σ.1 w 2 ||| f)
  uA (uA s2 (w + 1) (orK 24 f (σ.1 w 0) (σ.1 (w + 1)))) (w + 2) (orK 24 f (nI h) (σ.1 (w + 2)))
theorem uI_ne (σ : hSt) {c k : Nat} (v : Int32) {c' k' : Nat} (h : ¬ (c' = c ∧ k' = k)) : (uI σ c k v).1 c' k' = σ.1 c' k' := by rw [uI_I, if_neg h]
theorem uI_row (σ : hSt) {c k : Nat} (v : Int32) {c' : Nat} (h : c' ≠ c) : (uI σ c k v).1 c' = σ.1 c' := by funext k'; rw [uI_I, if_neg (fun q => h q.1)]
theorem sound_eq {w h m : Nat} {d e : Int32} {σ : hSt} (hP : HC σ.2.2) (hw : okr kC NC 10 w = true) :
    F_X10_sound w (nI h) (nI m) d e σ = some (sndC w h m d e σ) := by
  have fin : ∀ (s2 : hSt) (f : Int32), s2.2.2 = σ.2.2 → s2.1 w 0 = σ.1 w 0 → s2.1 (w + 1) = σ.1 (w + 1) → s2.1 (w + 2) = σ.1 (w + 2) → F_X10_sound_87 w (nI h) f s2 = some (uA (uA s2 (w + 1) (orK 24 f (σ.1 w 0) (σ.1 (w + 1)))) (w + 2) (orK 24 f (nI h) (σ.1 (w + 2)))) := by
    intro s2 f h1 h2 h3 h4
    unfold F_X10_sound_87
    by_cases hf : f = 0
    · rw [if_pos hf, hf, orK_z, orK_z, ← h3, ← h4, uA_self]
      have : s2.1 (w + 2) = (uA s2 (w + 1) (s2.1 (w + 1))).1 (w + 2) := by rw [uA_self]
      rw [uA_self]
      rfl
    · rw [if_neg hf, noteOrigin_eq (by rw [h1]; exact hP) hw, h2, h3, h4]
      rfl
  unfold F_X10_sound cL
  dsimp only
  rw [show (6 : Int32) = nI 6 from rfl, pk_mul]
  unfold sndC
  dsimp only
  rw [show ((e &&& ((1 : Int32) <<< (nI h &&& 31) ^^^ (-1 : Int32))) <<< (nI (6 * m) &&& 31)) = othC h m e from rfl]
  rw [show (othC h m e &&& (σ.1 w 1 ^^^ (-1 : Int32))) = frsC (σ.1 w 1) (othC h m e) from rfl]
  have e8 : ∀ v, (uI σ w 1 v).1 w 8 = σ.1 w 8 := fun v => uI_ne _ _ (by omega)
  have e5 : ∀ v v', (uI (uI σ w 1 v) w 8 v').1 w 5 = σ.1 w 5 := fun v v' => by rw [uI_ne _ _ (by omega), uI_ne _ _ (by omega)]
  have e6 : ∀ v v', (uI (uI σ w 1 v) w 8 v').1 w 6 = σ.1 w 6 := fun v v' => by rw [uI_ne _ _ (by omega), uI_ne _ _ (by omega)]
  have e2 : ∀ v v' v'', (uI (uI (uI σ w 1 v) w 8 v') w 6 v'').1 w 2 = σ.1 w 2 := fun v v' v'' => by rw [uI_ne _ _ (by omega), uI_ne _ _ (by omega), uI_ne _ _ (by omega)]
  by_cases hd : d = 0
  · rw [if_pos hd, if_pos hd, e8, e5]
    exact fin _ _ rfl (by rw [uI_ne _ _ (by omega), uI_ne _ _ (by omega), uI_ne _ _ (by omega)]) (by rw [uI_row _ _ (by omega), uI_row _ _ (by omega), uI_row _ _ (by omega)]) (by rw [uI_row _ _ (by omega), uI_row _ _ (by omega), uI_row _ _ (by omega)])
  · rw [if_neg hd, if_neg hd, e8, e6, e2]
    exact fin _ _ rfl (by rw [uI_ne _ _ (by omega), uI_ne _ _ (by omega), uI_ne _ _ (by omega), uI_ne _ _ (by omega)]) (by rw [uI_row _ _ (by omega), uI_row _ _ (by omega), uI_row _ _ (by omega), uI_row _ _ (by omega)]) (by rw [uI_row _ _ (by omega), uI_row _ _ (by omega), uI_row _ _ (by omega), uI_row _ _ (by omega)])
