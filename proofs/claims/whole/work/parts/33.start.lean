/-! THE START: both systems are made, then the loop -/
def hZ : hSt := ((fun _ _ => 0), (fun _ _ => 0), (fun _ _ => none))
theorem va_P_l {D : va_G} {cl : List vw_C} {w1 w2 : va_W} {H : Heap} (h : va_P D cl (w1 ++ w2) H) : va_P D cl w1 H := fun k x hx => h k x (by rw [List.getElem?_append_left (List.getElem?_eq_some_iff.mp hx).1]; exact hx)
theorem va_P_r {D : va_G} {cl : List vw_C} {w1 w2 : va_W} {H : Heap} (h : va_P D cl (w1 ++ w2) H) : va_P D cl w2 H := fun k x hx => h (w1.length + k) x (by rw [List.getElem?_append_right (by omega), Nat.add_sub_cancel_left]; exact hx)
section HST
variable {p : Program} {l : Launch} {e : Env} {R : Room} {s : State} {m : MethodId} {args : Array Value} {below : List Frame} {meth : Method} {c : Code} {H : Heap} {locs : List Loc} {cells slots : Nat} {Q : State → Prop}
variable {cc : ByteArray} {nL pc : Nat} {ls : Array Slot} {rest : List Value} {D : va_G} {ay : Nat → ClassId} {K : Nat → Nat × Nat} {n0 n : Nat} {ad0 ad : Nat → Nat} {A : Nat → Prop} {σ : hSt} {own : String} {bb : Bool}
theorem a_A2 {a : Array Value} {st : List Value} {mc ms n' n1 : Nat} {K1 : Nat → Nat × Nat} {adA : Nat → Nat} {τ σ' : hSt} {b2 : Bool} (hr : va_Run p l e R s m args below meth c H locs cells slots mc ms (F0 m pc ls st) rest (cA D ay K n ad H.size b2 n' σ' a) (aZ n ad H.size)) (G : Gy p m c cc nL s args own D ay A) (w : Wa D ay K n0 ad0 bb n ad A s σ H locs)
    (hP1 : va_P D vwCl (wld ay K1 n1 adA τ) H) (hd : ∀ i, i < n1 → ¬ aN n ad (adA i))
    (kk : ∀ (H1 : Heap) (locs1 : List Loc) (ad1 : Nat → Nat), (n ≤ n' ∧ ∀ k, k < n → ad1 k = ad k) → Wa D ay K n0 ad0 b2 n' ad1 A s σ' H1 locs1 → va_P D vwCl (wld ay K1 n1 adA τ) H1 → (∀ i j, i < n1 → j < n' → adA i ≠ ad1 j) → W p l e R s m args below meth c H1 locs1 (cells + mc) (slots + ms) Q (F0 m (pc + 3) ls rest)) : W p l e R s m args below meth c H locs cells slots Q (F0 m pc ls st) := by
  have hAz : ∀ q, aZ n ad H.size q → A q := fun q h => by
    rcases h with ⟨k, hk, rfl⟩ | h
    · exact w.2.2.1 k hk
    · exact G.2.2.2 q (Nat.le_trans w.1.2.1 h)
  have hlt : ∀ i, i < n1 → adA i < H.size := fun i hi => (hP1 i _ (wld_get hi)).lt
  refine va_callv hr w.1.2 (fun q _ h => hAz q h) hAz (fun u t H1 locs1 ht hvm hp hB hz hk hS => ?_)
  obtain ⟨hP2, hi1, hnew, hR1⟩ := hB
  have hdz : ∀ i, i < n1 → ¬ aZ n ad H.size (adA i) := fun i hi h => by
    rcases h with h | h
    · exact hd i hi h
    · exact absurd (hlt i hi) (Nat.not_lt.mpr h)
  refine kk H1 locs1 u hp ⟨⟨by rw [← ht]; exact hP2, hS⟩, hi1, fun k hk1 => ?_, ⟨Nat.le_trans w.2.2.2.1.1 hp.1, fun k hk1 => ?_⟩, hR1⟩ (hP1.kept (fun k x hx => ?_)) (fun i j hi hj h => ?_)
  · by_cases h : k < n
    · rw [hp.2 k h]; exact w.2.2.1 k h
    · exact hAz _ (Or.inr (hnew k (by omega) hk1))
  · rw [hp.2 k (Nat.lt_of_lt_of_le hk1 w.2.2.2.1.1)]; exact w.2.2.2.1.2 k hk1
  · by_cases hn : k < n1
    · rw [wld_get hn] at hx
      cases hx
      exact hk _ (hlt k hn) (hdz k hn)
    · simp [wld, hn] at hx
  · by_cases hjn : j < n
    · exact hd i hi ⟨j, hjn, by rw [← hp.2 j hjn]; exact h.symm⟩
    · have h1 := hnew j (by omega) hj
      have h2 := hlt i hi
      omega
end HST
set_option maxRecDepth 100000 in
set_option maxHeartbeats 4000000 in
theorem hNF_of {args : Array Value} {s : State} (hts : ∀ w ∈ lw_tbl, w.before args s = true) : hNF s := List.forall_mem_cons.mpr ⟨va_Nw.of rfl (hts _ (tq_1 (List.mem_of_getElem? (i := 39) rfl))), List.forall_mem_cons.mpr ⟨va_Nw.of rfl (hts _ (tq_1 (List.mem_of_getElem? (i := 40) rfl))), List.forall_mem_cons.mpr ⟨va_Nw.of rfl (hts _ (tq_1 (List.mem_of_getElem? (i := 62) rfl))), List.forall_mem_cons.mpr ⟨va_Nw.of rfl (hts _ (tq_1 (List.mem_of_getElem? (i := 81) rfl))), List.forall_mem_cons.mpr ⟨va_Nw.of rfl (hts _ (tq_1 (List.mem_of_getElem? (i := 83) rfl))), List.forall_mem_cons.mpr ⟨va_Nw.of rfl (hts _ (tq_1 (List.mem_of_getElem? (i := 84) rfl))), List.forall_mem_cons.mpr ⟨va_Nw.of rfl (hts _ (tq_1 (List.mem_of_getElem? (i := 85) rfl))), List.forall_mem_cons.mpr ⟨va_Nw.of rfl (hts _ (tq_1 (List.mem_of_getElem? (i := 92) rfl))), List.forall_mem_cons.mpr ⟨va_Nw.of rfl (hts _ (tq_1 (List.mem_of_getElem? (i := 93) rfl))), List.forall_mem_cons.mpr ⟨va_Nw.of rfl (hts _ (tq_1 (List.mem_of_getElem? (i := 94) rfl))), List.forall_mem_cons.mpr ⟨va_Nw.of rfl (hts _ (tq_1 (List.mem_of_getElem? (i := 95) rfl))), List.forall_mem_cons.mpr ⟨va_Nw.of rfl (hts _ (tq_1 (List.mem_of_getElem? (i := 96) rfl))), List.forall_mem_cons.mpr ⟨va_Nw.of rfl (hts _ (tq_1 (List.mem_of_getElem? (i := 98) rfl))), List.forall_mem_cons.mpr ⟨va_Nw.of rfl (hts _ (tq_1 (List.mem_of_getElem? (i := 100) rfl))), List.forall_mem_cons.mpr ⟨va_Nw.of rfl (hts _ (tq_1 (List.mem_of_getElem? (i := 102) rfl))), List.forall_mem_cons.mpr ⟨va_Nw.of rfl (hts _ (tq_1 (List.mem_of_getElem? (i := 103) rfl))), List.forall_mem_cons.mpr ⟨va_Nw.of rfl (hts _ (tq_1 (List.mem_of_getElem? (i := 104) rfl))), List.forall_mem_cons.mpr ⟨va_Nw.of rfl (hts _ (tq_1 (List.mem_of_getElem? (i := 105) rfl))), List.forall_mem_cons.mpr ⟨va_Nw.of rfl (hts _ (tq_1 (List.mem_of_getElem? (i := 107) rfl))), List.forall_mem_cons.mpr ⟨va_Nw.of rfl (hts _ (tq_1 (List.mem_of_getElem? (i := 108) rfl))), List.forall_mem_cons.mpr ⟨va_Nw.of rfl (hts _ (tq_1 (List.mem_of_getElem? (i := 110) rfl))), List.forall_mem_cons.mpr ⟨va_Nw.of rfl (hts _ (tq_1 (List.mem_of_getElem? (i := 112) rfl))), List.forall_mem_cons.mpr ⟨va_Nw.of rfl (hts _ (tq_1 (List.mem_of_getElem? (i := 113) rfl))), List.forall_mem_cons.mpr ⟨va_Nw.of rfl (hts _ (tq_1 (List.mem_of_getElem? (i := 115) rfl))), List.forall_mem_cons.mpr ⟨va_Nw.of rfl (hts _ (tq_1 (List.mem_of_getElem? (i := 116) rfl))), List.forall_mem_cons.mpr ⟨va_Nw.of rfl (hts _ (tq_1 (List.mem_of_getElem? (i := 118) rfl))), List.forall_mem_cons.mpr ⟨va_Nw.of rfl (hts _ (tq_1 (List.mem_of_getElem? (i := 119) rfl))), List.forall_mem_cons.mpr ⟨va_Nw.of rfl (hts _ (tq_1 (List.mem_of_getElem? (i := 120) rfl))), List.forall_mem_cons.mpr ⟨va_Nw.of rfl (hts _ (tq_1 (List.mem_of_getElem? (i := 121) rfl))), List.forall_mem_cons.mpr ⟨va_Nw.of rfl (hts _ (tq_1 (List.mem_of_getElem? (i := 123) rfl))), List.forall_mem_cons.mpr ⟨va_Nw.of rfl (hts _ (tq_1 (List.mem_of_getElem? (i := 124) rfl))), List.forall_mem_cons.mpr ⟨va_Nw.of rfl (hts _ (tq_1 (List.mem_of_getElem? (i := 125) rfl))), List.forall_mem_cons.mpr ⟨va_Nw.of rfl (hts _ (tq_1 (List.mem_of_getElem? (i := 127) rfl))), List.forall_mem_cons.mpr ⟨va_Nw.of rfl (hts _ (tq_1 (List.mem_of_getElem? (i := 128) rfl))), List.forall_mem_cons.mpr ⟨va_Nw.of rfl (hts _ (tq_1 (List.mem_of_getElem? (i := 130) rfl))), List.forall_mem_cons.mpr ⟨va_Nw.of rfl (hts _ (tq_1 (List.mem_of_getElem? (i := 131) rfl))), List.forall_mem_cons.mpr ⟨va_Nw.of rfl (hts _ (tq_1 (List.mem_of_getElem? (i := 133) rfl))), List.forall_mem_cons.mpr ⟨va_Nw.of rfl (hts _ (tq_1 (List.mem_of_getElem? (i := 134) rfl))), List.forall_mem_cons.mpr ⟨va_Nw.of rfl (hts _ (tq_1 (List.mem_of_getElem? (i := 185) rfl))), List.forall_mem_cons.mpr ⟨va_Nw.of rfl (hts _ (tq_1 (List.mem_of_getElem? (i := 187) rfl))), List.forall_mem_cons.mpr ⟨va_Nw.of rfl (hts _ (tq_1 (List.mem_of_getElem? (i := 189) rfl))), List.forall_mem_cons.mpr ⟨va_Nw.of rfl (hts _ (tq_1 (List.mem_of_getElem? (i := 203) rfl))), List.forall_mem_cons.mpr ⟨va_Nw.of rfl (hts _ (tq_1 (List.mem_of_getElem? (i := 205) rfl))), List.forall_mem_cons.mpr ⟨va_Nw.of rfl (hts _ (tq_1 (List.mem_of_getElem? (i := 234) rfl))), List.forall_mem_cons.mpr ⟨va_Nw.of rfl (hts _ (tq_1 (List.mem_of_getElem? (i := 235) rfl))), List.forall_mem_cons.mpr ⟨va_Nw.of rfl (hts _ (tq_1 (List.mem_of_getElem? (i := 236) rfl))), List.forall_mem_cons.mpr ⟨va_Nw.of rfl (hts _ (tq_1 (List.mem_of_getElem? (i := 238) rfl))), List.forall_mem_cons.mpr ⟨va_Nw.of rfl (hts _ (tq_1 (List.mem_of_getElem? (i := 239) rfl))), List.forall_mem_cons.mpr ⟨va_Nw.of rfl (hts _ (tq_2 (List.mem_of_getElem? (i := 1) rfl))), List.forall_mem_cons.mpr ⟨va_Nw.of rfl (hts _ (tq_2 (List.mem_of_getElem? (i := 7) rfl))), List.forall_mem_cons.mpr ⟨va_Nw.of rfl (hts _ (tq_2 (List.mem_of_getElem? (i := 9) rfl))), List.forall_mem_cons.mpr ⟨va_Nw.of rfl (hts _ (tq_2 (List.mem_of_getElem? (i := 11) rfl))), List.forall_mem_cons.mpr ⟨va_Nw.of rfl (hts _ (tq_2 (List.mem_of_getElem? (i := 12) rfl))), List.forall_mem_cons.mpr ⟨va_Nw.of rfl (hts _ (tq_2 (List.mem_of_getElem? (i := 14) rfl))), List.forall_mem_cons.mpr ⟨va_Nw.of rfl (hts _ (tq_2 (List.mem_of_getElem? (i := 16) rfl))), List.forall_mem_cons.mpr ⟨va_Nw.of rfl (hts _ (tq_2 (List.mem_of_getElem? (i := 54) rfl))), List.forall_mem_cons.mpr ⟨va_Nw.of rfl (hts _ (tq_2 (List.mem_of_getElem? (i := 72) rfl))), List.forall_mem_cons.mpr ⟨va_Nw.of rfl (hts _ (tq_2 (List.mem_of_getElem? (i := 111) rfl))), List.forall_mem_cons.mpr ⟨va_Nw.of rfl (hts _ (tq_2 (List.mem_of_getElem? (i := 113) rfl))), fun _ h => absurd h List.not_mem_nil⟩⟩⟩⟩⟩⟩⟩⟩⟩⟩⟩⟩⟩⟩⟩⟩⟩⟩⟩⟩⟩⟩⟩⟩⟩⟩⟩⟩⟩⟩⟩⟩⟩⟩⟩⟩⟩⟩⟩⟩⟩⟩⟩⟩⟩⟩⟩⟩⟩⟩⟩⟩⟩⟩⟩⟩⟩⟩⟩
set_option maxRecDepth 100000 in
set_option maxHeartbeats 4000000 in
theorem hNM_of {args : Array Value} {s : State} (hts : ∀ w ∈ lw_tbl, w.before args s = true) : hNM s := List.forall_mem_cons.mpr ⟨va_Nw.of rfl (hts _ (tq_1 (List.mem_of_getElem? (i := 33) rfl))), List.forall_mem_cons.mpr ⟨va_Nw.of rfl (hts _ (tq_1 (List.mem_of_getElem? (i := 49) rfl))), List.forall_mem_cons.mpr ⟨va_Nw.of rfl (hts _ (tq_1 (List.mem_of_getElem? (i := 55) rfl))), List.forall_mem_cons.mpr ⟨va_Nw.of rfl (hts _ (tq_1 (List.mem_of_getElem? (i := 76) rfl))), List.forall_mem_cons.mpr ⟨va_Nw.of rfl (hts _ (tq_1 (List.mem_of_getElem? (i := 174) rfl))), List.forall_mem_cons.mpr ⟨va_Nw.of rfl (hts _ (tq_1 (List.mem_of_getElem? (i := 180) rfl))), List.forall_mem_cons.mpr ⟨va_Nw.of rfl (hts _ (tq_1 (List.mem_of_getElem? (i := 229) rfl))), List.forall_mem_cons.mpr ⟨va_Nw.of rfl (hts _ (tq_2 (List.mem_of_getElem? (i := 44) rfl))), List.forall_mem_cons.mpr ⟨va_Nw.of rfl (hts _ (tq_2 (List.mem_of_getElem? (i := 50) rfl))), List.forall_mem_cons.mpr ⟨va_Nw.of rfl (hts _ (tq_2 (List.mem_of_getElem? (i := 64) rfl))), List.forall_mem_cons.mpr ⟨va_Nw.of rfl (hts _ (tq_2 (List.mem_of_getElem? (i := 84) rfl))), List.forall_mem_cons.mpr ⟨va_Nw.of rfl (hts _ (tq_2 (List.mem_of_getElem? (i := 104) rfl))), List.forall_mem_cons.mpr ⟨va_Nw.of rfl (hts _ (tq_2 (List.mem_of_getElem? (i := 109) rfl))), List.forall_mem_cons.mpr ⟨va_Nw.of rfl (hts _ (tq_2 (List.mem_of_getElem? (i := 125) rfl))), List.forall_mem_cons.mpr ⟨va_Nw.of rfl (hts _ (tq_2 (List.mem_of_getElem? (i := 129) rfl))), List.forall_mem_cons.mpr ⟨va_Nw.of rfl (hts _ (tq_2 (List.mem_of_getElem? (i := 140) rfl))), List.forall_mem_cons.mpr ⟨va_Nw.of rfl (hts _ (tq_2 (List.mem_of_getElem? (i := 148) rfl))), List.forall_mem_cons.mpr ⟨va_Nw.of rfl (hts _ (tq_2 (List.mem_of_getElem? (i := 195) rfl))), List.forall_mem_cons.mpr ⟨va_Nw.of rfl (hts _ (tq_2 (List.mem_of_getElem? (i := 207) rfl))), List.forall_mem_cons.mpr ⟨va_Nw.of rfl (hts _ (tq_2 (List.mem_of_getElem? (i := 211) rfl))), List.forall_mem_cons.mpr ⟨va_Nw.of rfl (hts _ (tq_2 (List.mem_of_getElem? (i := 212) rfl))), List.forall_mem_cons.mpr ⟨va_Nw.of rfl (hts _ (tq_2 (List.mem_of_getElem? (i := 219) rfl))), List.forall_mem_cons.mpr ⟨va_Nw.of rfl (hts _ (tq_3 (List.mem_of_getElem? (i := 177) rfl))), List.forall_mem_cons.mpr ⟨va_Nw.of rfl (hts _ (tq_3 (List.mem_of_getElem? (i := 178) rfl))), List.forall_mem_cons.mpr ⟨va_Nw.of rfl (hts _ (tq_3 (List.mem_of_getElem? (i := 210) rfl))), List.forall_mem_cons.mpr ⟨va_Nw.of rfl (hts _ (tq_3 (List.mem_of_getElem? (i := 217) rfl))), List.forall_mem_cons.mpr ⟨va_Nw.of rfl (hts _ (tq_3 (List.mem_of_getElem? (i := 221) rfl))), List.forall_mem_cons.mpr ⟨va_Nw.of rfl (hts _ (tq_4 (List.mem_of_getElem? (i := 4) rfl))), List.forall_mem_cons.mpr ⟨va_Nw.of rfl (hts _ (tq_4 (List.mem_of_getElem? (i := 9) rfl))), List.forall_mem_cons.mpr ⟨va_Nw.of rfl (hts _ (tq_4 (List.mem_of_getElem? (i := 21) rfl))), List.forall_mem_cons.mpr ⟨va_Nw.of rfl (hts _ (tq_4 (List.mem_of_getElem? (i := 26) rfl))), List.forall_mem_cons.mpr ⟨va_Nw.of rfl (hts _ (tq_4 (List.mem_of_getElem? (i := 31) rfl))), List.forall_mem_cons.mpr ⟨va_Nw.of rfl (hts _ (tq_4 (List.mem_of_getElem? (i := 39) rfl))), List.forall_mem_cons.mpr ⟨va_Nw.of rfl (hts _ (tq_4 (List.mem_of_getElem? (i := 43) rfl))), List.forall_mem_cons.mpr ⟨va_Nw.of rfl (hts _ (tq_4 (List.mem_of_getElem? (i := 51) rfl))), List.forall_mem_cons.mpr ⟨va_Nw.of rfl (hts _ (tq_4 (List.mem_of_getElem? (i := 78) rfl))), List.forall_mem_cons.mpr ⟨va_Nw.of rfl (hts _ (tq_4 (List.mem_of_getElem? (i := 82) rfl))), List.forall_mem_cons.mpr ⟨va_Nw.of rfl (hts _ (tq_4 (List.mem_of_getElem? (i := 83) rfl))), List.forall_mem_cons.mpr ⟨va_Nw.of rfl (hts _ (tq_4 (List.mem_of_getElem? (i := 88) rfl))), List.forall_mem_cons.mpr ⟨va_Nw.of rfl (hts _ (tq_4 (List.mem_of_getElem? (i := 100) rfl))), List.forall_mem_cons.mpr ⟨va_Nw.of rfl (hts _ (tq_4 (List.mem_of_getElem? (i := 119) rfl))), List.forall_mem_cons.mpr ⟨va_Nw.of rfl (hts _ (tq_4 (List.mem_of_getElem? (i := 132) rfl))), List.forall_mem_cons.mpr ⟨va_Nw.of rfl (hts _ (tq_4 (List.mem_of_getElem? (i := 147) rfl))), List.forall_mem_cons.mpr ⟨va_Nw.of rfl (hts _ (tq_4 (List.mem_of_getElem? (i := 152) rfl))), List.forall_mem_cons.mpr ⟨va_Nw.of rfl (hts _ (tq_4 (List.mem_of_getElem? (i := 160) rfl))), List.forall_mem_cons.mpr ⟨va_Nw.of rfl (hts _ (tq_4 (List.mem_of_getElem? (i := 161) rfl))), List.forall_mem_cons.mpr ⟨va_Nw.of rfl (hts _ (tq_4 (List.mem_of_getElem? (i := 178) rfl))), List.forall_mem_cons.mpr ⟨va_Nw.of rfl (hts _ (tq_4 (List.mem_of_getElem? (i := 182) rfl))), List.forall_mem_cons.mpr ⟨va_Nw.of rfl (hts _ (tq_4 (List.mem_of_getElem? (i := 195) rfl))), List.forall_mem_cons.mpr ⟨va_Nw.of rfl (hts _ (tq_4 (List.mem_of_getElem? (i := 199) rfl))), List.forall_mem_cons.mpr ⟨va_Nw.of rfl (hts _ (tq_4 (List.mem_of_getElem? (i := 200) rfl))), List.forall_mem_cons.mpr ⟨va_Nw.of rfl (hts _ (tq_4 (List.mem_of_getElem? (i := 201) rfl))), List.forall_mem_cons.mpr ⟨va_Nw.of rfl (hts _ (tq_4 (List.mem_of_getElem? (i := 202) rfl))), List.forall_mem_cons.mpr ⟨va_Nw.of rfl (hts _ (tq_4 (List.mem_of_getElem? (i := 203) rfl))), List.forall_mem_cons.mpr ⟨va_Nw.of rfl (hts _ (tq_4 (List.mem_of_getElem? (i := 204) rfl))), List.forall_mem_cons.mpr ⟨va_Nw.of rfl (hts _ (tq_4 (List.mem_of_getElem? (i := 228) rfl))), List.forall_mem_cons.mpr ⟨va_Nw.of rfl (hts _ (tq_5 (List.mem_of_getElem? (i := 0) rfl))), List.forall_mem_cons.mpr ⟨va_Nw.of rfl (hts _ (tq_5 (List.mem_of_getElem? (i := 5) rfl))), List.forall_mem_cons.mpr ⟨va_Nw.of rfl (hts _ (tq_5 (List.mem_of_getElem? (i := 6) rfl))), List.forall_mem_cons.mpr ⟨va_Nw.of rfl (hts _ (tq_5 (List.mem_of_getElem? (i := 10) rfl))), List.forall_mem_cons.mpr ⟨va_Nw.of rfl (hts _ (tq_5 (List.mem_of_getElem? (i := 11) rfl))), fun _ h => absurd h List.not_mem_nil⟩⟩⟩⟩⟩⟩⟩⟩⟩⟩⟩⟩⟩⟩⟩⟩⟩⟩⟩⟩⟩⟩⟩⟩⟩⟩⟩⟩⟩⟩⟩⟩⟩⟩⟩⟩⟩⟩⟩⟩⟩⟩⟩⟩⟩⟩⟩⟩⟩⟩⟩⟩⟩⟩⟩⟩⟩⟩⟩⟩⟩
set_option maxRecDepth 100000 in
set_option maxHeartbeats 2000000 in
theorem start_open {p : Program} {e : Env} {s : State} {m : MethodId} {below : List Frame} {meth : Method} {c : Code} (l : Launch) {b L : Nat} {xs : Nat → Int32} (C0 : lw_At p s m meth c b L xs) (hXS : hXs (fun q : Nat => s.heap.size ≤ q) s s.heap) {sC sM : hSt} (hC : F_X11_init 0 1 (zO hZ 0) = some (NC, sC)) (hM : F_X12_init 0 1 (zO hZ 0) = some (NM, sM)) (hp : lp (S_law xs L) fuel (0, sC, sM) = some 1) : W p l e room_1 s m #[Value.ref b] below meth c s.heap [] 0 0 (lw_Z below #[Value.ref b] s) (entryFrame m ([Value.ref b] : List Value).toArray 4) := by
  obtain ⟨hx, hb, hr, hml, hown, hts, hX0, hbl, hlocks, hgv⟩ := id C0
  have htW : ∀ w ∈ wsL_law, w.before #[Value.ref b] s = true := fun w h => hts w (wsL_in w h)
  obtain ⟨c0, i0, K0⟩ := u_known (C := RX0) (T := TX0) (N := 4) (n := 4) htW inX0 (htW _ q_54)
  obtain ⟨c1, i1, K1⟩ := u_known (C := RX1) (T := TX1) (N := 4) (n := 4) htW inX1 (htW _ q_343)
  obtain ⟨c2, i2, K2⟩ := u_known (C := RX2) (T := TX2) (N := 3) (n := 3) htW inX2 (htW _ q_283)
  obtain ⟨c3, i3, K3⟩ := u_known (C := RX3) (T := TX3) (N := 4) (n := 4) htW inX3 (htW _ q_323)
  obtain ⟨c4, i4, K4⟩ := u_known (C := RX4) (T := TX4) (N := 9) (n := 9) htW inX4 (htW _ q_173)
  obtain ⟨c5, i5, K5⟩ := u_known (C := RX5) (T := TX5) (N := 2) (n := 2) htW inX5 (htW _ q_75)
  obtain ⟨c6, i6, K6⟩ := u_known (C := RX6) (T := TX6) (N := 2) (n := 2) htW inX6 (htW _ q_32)
  obtain ⟨c7, i7, K7⟩ := u_known (C := RX7) (T := TX7) (N := 16) (n := 16) htW inX7 (htW _ q_48)
  obtain ⟨c8, i8, K8⟩ := u_known (C := RX8) (T := TX8) (N := 3) (n := 3) htW inX8 (htW _ q_179)
  obtain ⟨c9, i9, K9⟩ := u_known (C := RX9) (T := TX9) (N := 4) (n := 4) htW inX9 (htW _ q_303)
  obtain ⟨c10, i10, K10⟩ := u_known (C := RX10) (T := TX10) (N := 12) (n := 12) htW inX10 (htW _ q_228)
  obtain ⟨c11, i11, K11⟩ := u_known (C := RX11) (T := TX11) (N := 13) (n := 13) htW inX11 (htW _ q_24)
  obtain ⟨c12, i12, K12⟩ := u_known (C := RX12) (T := TX12) (N := 69) (n := 69) htW inX12 (htW _ q_985)
  obtain ⟨dC, dI, hKc⟩ : ∃ (dC : Nat → ClassId) (dI : Nat → Nat → Nat), ∀ (k : Nat) (q : vw_C), vwCl[k]? = some q → u_Kn s q.1 q.2.1 q.2.2 (dC k) (dI k) := by
    refine ⟨fun k => [c0, c1, c2, c3, c4, c5, c6, c7, c8, c9, c10, c11, c12].getD k c0, fun k => [i0, i1, i2, i3, i4, i5, i6, i7, i8, i9, i10, i11, i12].getD k i0, ?_⟩
    intro k q hq
    match k, hq with
    | 0, hq => cases hq; exact K0
    | 1, hq => cases hq; exact K1
    | 2, hq => cases hq; exact K2
    | 3, hq => cases hq; exact K3
    | 4, hq => cases hq; exact K4
    | 5, hq => cases hq; exact K5
    | 6, hq => cases hq; exact K6
    | 7, hq => cases hq; exact K7
    | 8, hq => cases hq; exact K8
    | 9, hq => cases hq; exact K9
    | 10, hq => cases hq; exact K10
    | 11, hq => cases hq; exact K11
    | 12, hq => cases hq; exact K12
    | k + 13, hq => simp [vwCl] at hq
  obtain ⟨yB, kB, mB, fB, gB, jB⟩ := Cond.arrayClass_spec (htW _ q_46)
  obtain ⟨yI, kI, mI, fI, gI, jI⟩ := Cond.arrayClass_spec (htW _ q_73)
  obtain ⟨yZ, kZ, mZ, fZ, gZ, jZ⟩ := Cond.arrayClass_spec (htW _ q_341)
  obtain ⟨yJ, kJ, mJ, fJ, gJ, jJ⟩ := Cond.arrayClass_spec (htW _ q_171)
  have hao : va_AO "HillDrums$World" s := va_AO.of (A := #[Value.ref b]) (hts _ (tq_2 (List.mem_of_getElem? (i := 49) rfl)))
  obtain ⟨mQ, yQ, kQ, fQ, -, gQ, hQ, nQ⟩ := Cond.arrayOver_spec hao
  obtain ⟨ay, ea, eb, ec, ed, ee⟩ : ∃ ay : Nat → ClassId, ay 100 = yB ∧ ay 101 = yI ∧ ay 102 = yZ ∧ ay 103 = yJ ∧ ay 105 = yQ := ⟨fun t => if t = 100 then yB else if t = 101 then yI else if t = 102 then yZ else if t = 103 then yJ else yQ, rfl, rfl, rfl, rfl, rfl⟩
  have hK : va_K (dC, dI) vwCl (tyL ay) s := by
    refine ⟨hKc, fun k q hq => ?_⟩
    match k, hq with
    | 0, hq => cases hq; rw [ea]; exact ⟨fun n z => ⟨fun k h => (by cases h), kB, gB, mB, jB⟩, fB⟩
    | 1, hq => cases hq; rw [eb]; exact ⟨fun n z => ⟨fun k h => (by cases h), kI, gI, mI, jI⟩, fI⟩
    | 2, hq => cases hq; rw [ec]; exact ⟨fun n z => ⟨fun k h => (by cases h), kZ, gZ, mZ, jZ⟩, fZ⟩
    | 3, hq => cases hq; rw [ed]; exact ⟨fun n z => ⟨fun k h => (by cases h), kJ, gJ, mJ, jJ⟩, fJ⟩
    | 4, hq => cases hq; rw [ee]; exact ⟨fun n z => ⟨fun k h => (by cases h), kQ, gQ, mQ, hQ⟩, kQ, mQ, gQ, hQ, fQ, nQ⟩
    | k + 5, hq => simp [tyL] at hq
  have hXX : hX (fun q : Nat => s.heap.size ≤ q) s s.heap := ⟨hNF_of hts, hNM_of hts, hXS⟩
  have G : Gy p m c code 4 s #[Value.ref b] RL (dC, dI) ay (fun q : Nat => s.heap.size ≤ q) := ⟨⟨hx, hb, hml, hown, htW⟩, hK, hXX, fun _ h => h⟩
  have w0 : Wa (dC, dI) ay kC 0 (fun _ => 0) true 0 (fun _ => 0) (fun q : Nat => s.heap.size ≤ q) s hZ s.heap [] :=
    ⟨⟨fun k q h => by simp [wld] at h, va_S.rf⟩, fun i j h => absurd h (Nat.not_lt_zero _), fun k h => absurd h (Nat.not_lt_zero _), ⟨Nat.le_refl _, fun _ _ => rfl⟩, fun _ c k r h => by cases h⟩
  have hl := lv_entry ([.ref b]) (n := 4) (Nat.le_of_ble_eq_true rfl)
  rw [lg_entry_eq]
  generalize (lg_sl ([.ref b]) ++ List.replicate (4 - (lg_sl ([.ref b])).length) Slot.unset).toArray = ls at hl ⊢
  have hl : lv_has ls 4 [(0, .ref b)] := hl
  refine r_new cls11 ctf11 okt11 q_23 q_24 q_1 G w0 rfl ⟨Nat.le_of_ble_eq_true rfl, Nat.le_of_ble_eq_true rfl⟩ (dcs_get dec_law_0 0 rfl) (fun H ad1 e1 w => ?_)
  refine lv_dup hx hb (dcs_get dec_law_0 1 rfl) rfl ?_
  refine a_A (k_I (As := []) (rest := [.ref (ad1 0)]) lb_X11_init rfl q_26 q_25 (C_X11_init w.2.1 (w.2.2.2.2 rfl) 0 hC ⟨by decide, rfl⟩) ⟨Nat.le_of_ble_eq_true rfl, Nat.le_of_ble_eq_true rfl⟩ G w rfl rfl hl.1 (Nat.le_of_ble_eq_true rfl) (dcs_get dec_law_0 2 rfl) ⟨Nat.le_of_ble_eq_true rfl, Nat.le_of_ble_eq_true rfl⟩) G w (fun H locs adC e2 w => ?_)
  rw [← e2.2 0 (by decide)]
  refine lv_astore_n (lv' := [(1, .ref (adC 0)), (0, .ref b)]) hx hb (dcs_get dec_law_0 3 rfl) rfl hl (by decide) rfl (fun ls hl => ?_)
  have hA1 := w.2.2.1
  have hi1 := w.2.1
  refine va_new (D := (dC, dI)) (A := fun q : Nat => s.heap.size ≤ q) (H0 := s.heap) (ci := 12) (fs := ofl adC (zO hZ 0) 0 12) hx hb htW inX12 (fty 12) ctf12.1 hown (htW _ q_984) (htW _ q_985) (htW _ q_14) hK w.1.1 (wld_apart hi1 hA1) w.1.2 (fun _ h => h) cls12.2.1 (fun j hj => ?_) (Nat.le_of_ble_eq_true rfl) (Nat.le_of_ble_eq_true rfl) (dcs_get dec_law_0 4 rfl) (fun q H hP hD hS => ?_)
  · have h5 := ofl_get (ad := adC) (σ := zO hZ 0) (c := 0) (ci := 12) (k := j) hj
    show _ = (ofl adC (zO hZ 0) 0 12).getD j .null
    rw [List.getD_eq_getElem?_getD, h5, fvl_z (okt12 j hj)]
    rfl
  have hP1 := va_P_l hP
  have hne : ∀ i, i < NC → ¬ aN 1 (fun _ => q) (adC i) := fun i hi h => by
    obtain ⟨k, hk, h⟩ := h
    have h1 := hD.1 i NC _ _ (by rw [List.getElem?_append_left (by simp [wld, hi])]; exact wld_get hi) (by rw [List.getElem?_append_right (by simp [wld])]; simp [wld]; rfl) h.symm
    omega
  have w2 : Wa (dC, dI) ay kM 1 (fun _ => q) true 1 (fun _ => q) (fun q : Nat => s.heap.size ≤ q) s (zO hZ 0) H locs := by
    refine ⟨⟨?_, hS⟩, fun i j hi hj _ => by omega, fun k _ => ?_, ⟨Nat.le_refl _, fun _ _ => rfl⟩, fun _ c k r h => ?_⟩
    · have h1 := va_P_r hP
      have h2 : wld ay kM 1 (fun _ => q) (zO hZ 0) = [(q, .inr (12, ofl adC (zO hZ 0) 0 12))] := by
        rw [wld_succ, clE_obj (ci := 12) rfl (by decide)]
        simp only [wld, List.range_zero, List.map_nil, List.nil_append]
        congr 3
      rw [h2]
      exact h1
    · exact hD.2 NC (q, _) (by rw [List.getElem?_append_right (by simp [wld])]; simp [wld]; rfl)
    · exfalso
      by_cases hc : c = 0 <;> simp [zO, hZ, hc] at h
  refine lv_dup hx hb (dcs_get dec_law_0 5 rfl) rfl ?_
  refine a_A2 (k_I (c0 := 0) (As := []) (rest := [.ref q]) lb_X12_init rfl q_987 q_986 (C_X12_init w2.2.1 (w2.2.2.2.2 rfl) 0 hM ⟨by decide, rfl⟩) ⟨Nat.le_of_ble_eq_true rfl, Nat.le_of_ble_eq_true rfl⟩ G w2 rfl rfl hl.1 (Nat.le_of_ble_eq_true rfl) (dcs_get dec_law_0 6 rfl) ⟨Nat.le_of_ble_eq_true rfl, Nat.le_of_ble_eq_true rfl⟩) G w2 hP1 hne (fun H locs adM e3 w3 hP1 hdis => ?_)
  have e4 : adM 0 = q := e3.2 0 (by decide)
  rw [← e4]
  refine lv_astore_n (lv' := [(2, .ref (adM 0)), (1, .ref (adC 0)), (0, .ref b)]) hx hb (dcs_get dec_law_0 7 rfl) rfl hl (by decide) rfl (fun ls hl => ?_)
  refine lv_iconst (v := (0 : Int32)) hx hb (dcs_get dec_law_0 8 rfl) (by decide) ?_
  refine lv_istore_n (lv' := [(3, .int (0 : Int32)), (2, .ref (adM 0)), (1, .ref (adC 0)), (0, .ref b)]) hx hb (dcs_get dec_law_0 9 rfl) rfl hl (by decide) rfl (fun ls hl => ?_)
  refine W.widen (k := 293) (n := 37911) (Nat.le_of_ble_eq_true rfl) (Nat.le_of_ble_eq_true rfl) ?_
  exact H_law (ad1 := adC) (ad2 := adM) ⟨⟨G.1, hK, hi1, hA1, hXX⟩, ⟨G.1, hK, w3.2.1, w3.2.2.1, hXX⟩, hdis, hX0, hbl, hr, hlocks⟩ fuel (0, sC, sM) hp H locs ls ⟨hP1, w3.1.1, w3.1.2⟩ (lv_sub hl [3, 2, 1, 0] rfl)

