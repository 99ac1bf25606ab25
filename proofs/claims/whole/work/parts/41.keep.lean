/-! ===== PURE 6: a drum keeps the worlds side by side ===== -/
theorem oth_inK {h m x y H : Nat} {e : Int32} (hh : h < 6) (hm : m < 4) (hx : x < 6) (hy : y < 4) (hH : H ≤ 6) (he : ∀ b, b < 32 → bt e b = true → b < H) : bt (othC h m e) (6 * y + x) = true ↔ inK h m e H x y := by
  rw [bt_oth hh hm (by omega)]
  simp only [Bool.and_eq_true, decide_eq_true_eq, inK, hitB]
  constructor
  · rintro ⟨h1, h2, h3⟩
    have h4 := he _ (by omega) h2
    have h5 : y = m := by omega
    subst h5
    rw [show 6 * y + x - 6 * y = x by omega] at h2 h3 h4
    exact ⟨rfl, h4, h2, h3⟩
  · rintro ⟨h1, h2, h3, h4⟩
    subst h1
    rw [show 6 * y + x - 6 * y = x by omega]
    exact ⟨by omega, h3, h4⟩
theorem oth_hi {h m i H : Nat} {e : Int32} (hh : h < 6) (hm : m < 4) (hH : H ≤ 6) (he : ∀ b, b < 32 → bt e b = true → b < H) (h24 : 24 ≤ i) (h32 : i < 32) : bt (othC h m e) i = false := by
  rw [bt_oth hh hm h32]
  cases hb : bt e (i - 6 * m) with
  | false => simp
  | true =>
    have := he _ (by omega) hb
    omega
section SND
variable {w h m : Nat} {d e : Int32} {σ : hSt}
theorem snd_row {c : Nat} (h0 : c ≠ w) (h1 : c ≠ w + 1) (h2 : c ≠ w + 2) : (sndC w h m d e σ).1 c = σ.1 c := by
  funext k
  unfold sndC
  dsimp only
  rw [uA_oth' _ _ _ h2, uA_oth' _ _ _ h1]
  split <;> (rw [uI_row _ _ h0]; try rw [uI_row _ _ h0]) <;> simp only [uI_row _ _ h0]
theorem snd_P : (sndC w h m d e σ).2 = σ.2 := by
  unfold sndC
  dsimp only
  split <;> rfl
theorem snd_w (k : Nat) : (sndC w h m d e σ).1 w k = if k = 1 then σ.1 w 1 ||| othC h m e else if k = 8 then σ.1 w 8 + 1 else if d = 0 then (if k = 5 then σ.1 w 5 ||| othC h m e else σ.1 w k) else if k = 6 then σ.1 w 6 ||| othC h m e else if k = 2 then σ.1 w 2 ||| frsC (σ.1 w 1) (othC h m e) else σ.1 w k := by
  unfold sndC
  dsimp only
  rw [uA_oth' _ _ _ (by omega), uA_oth' _ _ _ (by omega)]
  by_cases hd : d = 0
  · rw [if_pos hd, if_pos hd]
    simp only [uI_I, true_and]
    by_cases h1 : k = 1 <;> by_cases h2 : k = 8 <;> by_cases h3 : k = 5 <;> simp [h1, h2, h3] <;> omega
  · rw [if_neg hd, if_neg hd]
    simp only [uI_I, true_and]
    by_cases h1 : k = 1 <;> by_cases h2 : k = 8 <;> by_cases h3 : k = 6 <;> by_cases h4 : k = 2 <;> simp [h1, h2, h3, h4] <;> omega
theorem snd_w1 : (sndC w h m d e σ).1 (w + 1) = orK 24 (frsC (σ.1 w 1) (othC h m e)) (σ.1 w 0) (σ.1 (w + 1)) := by
  funext k
  unfold sndC
  dsimp only
  rw [uA_oth' _ _ _ (by omega), uA_own]
theorem snd_w2 : (sndC w h m d e σ).1 (w + 2) = orK 24 (frsC (σ.1 w 1) (othC h m e)) (nI h) (σ.1 (w + 2)) := by
  funext k
  unfold sndC
  dsimp only
  rw [uA_own]
end SND
theorem snd_keep {w h m H : Nat} {d e : Int32} {σ : hSt} {r : Nat → Int32} (hW : RWp σ.1 w r) (hh : h < 6) (hm : m < 4) (hd : d = 0 ∨ d = 1) (hH : H ≤ 6) (he : ∀ b, b < 32 → bt e b = true → b < H) :
    RWp (sndC w h m d e σ).1 w (upd (spN h m d e r H) 122 (r 122 + 1)) := by
  obtain ⟨h1, h2, h3, h4⟩ := hW
  refine ⟨?_, ?_, fun i hi hi2 => ?_, fun x y hx hy => ?_⟩
  · rw [snd_w, upd_ne (by decide), spN_hi hm (by decide) H hH]
    simp [h1]
  · rw [snd_w, upd_eq]
    simp [h2]
  · rw [snd_w]
    rw [if_pos rfl, bt_or, h3 i hi hi2, oth_hi hh hm hH he hi hi2]
    rfl
  · obtain ⟨a1, a2, a3, a4⟩ := h4 x y hx hy
    have hp : 6 * y + x < 24 := by omega
    have hp2 : 6 * y + x < 32 := by omega
    have ho := oth_inK hh hm hx hy hH he
    have k1 : (sndC w h m d e σ).1 w 1 = σ.1 w 1 ||| othC h m e := by rw [snd_w, if_pos rfl]
    have kO : inK h m e H x y ∨ ¬ inK h m e H x y := Classical.em _
    have hA := spN_A (h := h) (m := m) (d := d) (e := e) (r := r) hm hx hy H hH
    have hB := spN_X (h := h) (m := m) (d := d) (e := e) (r := r) (o := 24) (v := r 120) hm hx hy (fun b r' hb h120 => by rw [sp1_B hb hm hx hy, h120]) H hH
    have hC := spN_X (h := h) (m := m) (d := d) (e := e) (r := r) (o := 48) (v := nI h) hm hx hy (fun b r' hb _ => sp1_C hb hm hx hy) H hH
    have hD := spN_X (h := h) (m := m) (d := d) (e := e) (r := r) (o := 72) (v := d) hm hx hy (fun b r' hb _ => sp1_D hb hm hx hy) H hH
    have hE := spN_E (h := h) (m := m) (d := d) (e := e) (r := r) hm hx hy H hH
    have hkn : ¬ r (4 * x + y) = 1 ↔ bt (σ.1 w 1) (6 * y + x) = false := by
      rw [a1]
      cases bt (σ.1 w 1) (6 * y + x) <;> simp
    have up : ∀ o, o ≤ 96 → (upd (spN h m d e r H) 122 (r 122 + 1)) (o + (4 * x + y)) = spN h m d e r H (o + (4 * x + y)) := fun o ho => upd_ne (by omega)
    have up0 := up 0 (by omega)
    rw [Nat.zero_add] at up0
    unfold RWq
    rw [up0, up 24 (by omega), up 48 (by omega), up 72 (by omega), up 96 (by omega), k1, bt_or, snd_w1, snd_w2]
    simp only [orK]
    rw [bt_frs hp2]
    by_cases hin : inK h m e H x y
    · have hob : bt (othC h m e) (6 * y + x) = true := ho.mpr hin
      have hA' : spN h m d e r H (4 * x + y) = 1 := by rcases hA with q | q; exact absurd hin q.2; exact q.1
      have hE' : spN h m d e r H (96 + (4 * x + y)) = (r (96 + (4 * x + y)) ||| (if d = 1 then 2 else 1)) := by rcases hE with q | q; exact absurd hin q.2; exact q.1
      rw [hob, hA', hE', a3]
      simp only [Bool.or_true, Bool.true_and, if_true, forall_const]
      refine ⟨trivial, ?_, ?_, fun q => by cases q⟩
      · cases hk : bt (σ.1 w 1) (6 * y + x) with
        | true =>
          obtain ⟨b1, b2, b3⟩ := a2 hk
          have hn : ¬ ¬ r (4 * x + y) = 1 := by rw [hkn, hk]; decide
          have hB' : spN h m d e r H (24 + (4 * x + y)) = r (24 + (4 * x + y)) := by rcases hB with q | q; exact q.1; exact absurd q.2.2 hn
          have hC' : spN h m d e r H (48 + (4 * x + y)) = r (48 + (4 * x + y)) := by rcases hC with q | q; exact q.1; exact absurd q.2.2 hn
          have hD' : spN h m d e r H (72 + (4 * x + y)) = r (72 + (4 * x + y)) := by rcases hD with q | q; exact q.1; exact absurd q.2.2 hn
          rw [hB', hC', hD', b1, b2, b3, snd_w]
          simp only [Bool.not_true, Bool.false_eq_true, and_false, if_false]
          refine ⟨trivial, trivial, ?_⟩
          rcases hd with hd | hd <;> subst hd <;> simp [bt_or, bt_frs hp2, hk]
        | false =>
          have hn : ¬ r (4 * x + y) = 1 := hkn.mpr hk
          have hB' : spN h m d e r H (24 + (4 * x + y)) = r 120 := by rcases hB with q | q; exact absurd ⟨hin, hn⟩ q.2; exact q.1
          have hC' : spN h m d e r H (48 + (4 * x + y)) = nI h := by rcases hC with q | q; exact absurd ⟨hin, hn⟩ q.2; exact q.1
          have hD' : spN h m d e r H (72 + (4 * x + y)) = d := by rcases hD with q | q; exact absurd ⟨hin, hn⟩ q.2; exact q.1
          rw [hB', hC', hD', ← h1, snd_w]
          simp only [Bool.not_false, and_true, hp, if_true]
          refine ⟨trivial, trivial, ?_⟩
          have h2' := a4 hk
          rcases hd with hd | hd <;> subst hd <;> simp [bt_or, bt_frs hp2, hk, hob, h2']
      · rw [snd_w, snd_w]
        rcases hd with hd | hd <;> subst hd <;> simp [bt_or, hob] <;> cases bt (σ.1 w 5) (6 * y + x) <;> cases bt (σ.1 w 6) (6 * y + x) <;> decide
    · have hob : bt (othC h m e) (6 * y + x) = false := by
        cases hq : bt (othC h m e) (6 * y + x) with
        | false => rfl
        | true => exact absurd (ho.mp hq) hin
      have hA' : spN h m d e r H (4 * x + y) = r (4 * x + y) := by rcases hA with q | q; exact q.1; exact absurd q.2 hin
      have hB' : spN h m d e r H (24 + (4 * x + y)) = r (24 + (4 * x + y)) := by rcases hB with q | q; exact q.1; exact absurd q.2.1 hin
      have hC' : spN h m d e r H (48 + (4 * x + y)) = r (48 + (4 * x + y)) := by rcases hC with q | q; exact q.1; exact absurd q.2.1 hin
      have hD' : spN h m d e r H (72 + (4 * x + y)) = r (72 + (4 * x + y)) := by rcases hD with q | q; exact q.1; exact absurd q.2.1 hin
      have hE' : spN h m d e r H (96 + (4 * x + y)) = r (96 + (4 * x + y)) := by rcases hE with q | q; exact q.1; exact absurd q.2 hin
      rw [hob, hA', hB', hC', hD', hE', a1, a3]
      simp only [Bool.or_false, Bool.false_and, Bool.false_eq_true, and_false, if_false]
      have e2 : bt ((sndC w h m d e σ).1 w 2) (6 * y + x) = bt (σ.1 w 2) (6 * y + x) := by
        rw [snd_w]
        rcases hd with hd | hd <;> subst hd <;> simp [bt_or, bt_frs hp2, hob]
      have e5 : bt ((sndC w h m d e σ).1 w 5) (6 * y + x) = bt (σ.1 w 5) (6 * y + x) := by
        rw [snd_w]
        rcases hd with hd | hd <;> subst hd <;> simp [bt_or, hob]
      have e6 : bt ((sndC w h m d e σ).1 w 6) (6 * y + x) = bt (σ.1 w 6) (6 * y + x) := by
        rw [snd_w]
        rcases hd with hd | hd <;> subst hd <;> simp [bt_or, hob]
      rw [e2, e5, e6]
      exact ⟨trivial, a2, by first | rfl | trivial, a4⟩
