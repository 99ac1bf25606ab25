/-! THE START, WHOLE: what stands beside the cells, the made states, the loop -/
def stT (i : Nat) : Term := if i = 0 then Term.string "HillDrums$Tokens" 68 else Term.string "HillDrums$Tokens" 56
set_option maxRecDepth 100000 in
theorem gv_ex' : ∀ i, i < 2 → (flatC (Jvm.Cond.and given_1 narrow_1))[(if i = 0 then 9 else 165)]? = some (Cond.exactly (stT i) "java/lang/String") := by decide +kernel
theorem gv_ex : ∀ i, i < 2 → Cond.exactly (stT i) "java/lang/String" ∈ flatC (Jvm.Cond.and given_1 narrow_1) := fun i hi => List.mem_of_getElem? (gv_ex' i hi)
set_option maxRecDepth 100000 in
theorem gv_co' : ∀ i, i < 2 → (flatC (Jvm.Cond.and given_1 narrow_1))[(if i = 0 then 10 else 166)]? = some (Cond.eq (.field (stT i) "java/lang/String" "coder" "B") (.int 0)) := by decide +kernel
theorem gv_co : ∀ i, i < 2 → Cond.eq (.field (stT i) "java/lang/String" "coder" "B") (.int 0) ∈ flatC (Jvm.Cond.and given_1 narrow_1) := fun i hi => List.mem_of_getElem? (gv_co' i hi)
set_option maxRecDepth 100000 in
theorem gv_ar' : ∀ i, i < 2 → (flatC (Jvm.Cond.and given_1 narrow_1))[(if i = 0 then 11 else 167)]? = some (Cond.arrayOf (.field (stT i) "java/lang/String" "value" "[B") .byte) := by decide +kernel
theorem gv_ar : ∀ i, i < 2 → Cond.arrayOf (.field (stT i) "java/lang/String" "value" "[B") .byte ∈ flatC (Jvm.Cond.and given_1 narrow_1) := fun i hi => List.mem_of_getElem? (gv_ar' i hi)
set_option maxRecDepth 100000 in
theorem gv_le' : ∀ i, i < 2 → (flatC (Jvm.Cond.and given_1 narrow_1))[(if i = 0 then 12 else 168)]? = some (Cond.eq (.length (.field (stT i) "java/lang/String" "value" "[B")) (.int (Int32.ofNat (strL.getD i 0)))) := by decide +kernel
theorem gv_le : ∀ i, i < 2 → Cond.eq (.length (.field (stT i) "java/lang/String" "value" "[B")) (.int (Int32.ofNat (strL.getD i 0))) ∈ flatC (Jvm.Cond.and given_1 narrow_1) := fun i hi => List.mem_of_getElem? (gv_le' i hi)
set_option maxRecDepth 100000 in
theorem gv_el' : ∀ i, i < 2 → ∀ j, j < strL.getD i 0 → (flatC (Jvm.Cond.and given_1 narrow_1))[((if i = 0 then 13 else 169) + j)]? = some (Cond.eq (.elem (.field (stT i) "java/lang/String" "value" "[B") (.int (Int32.ofNat j))) (.int ((strB.getD i []).getD j 0))) := by decide +kernel
theorem gv_el : ∀ i, i < 2 → ∀ j, j < strL.getD i 0 → Cond.eq (.elem (.field (stT i) "java/lang/String" "value" "[B") (.int (Int32.ofNat j))) (.int ((strB.getD i []).getD j 0)) ∈ flatC (Jvm.Cond.and given_1 narrow_1) := fun i hi j hj => List.mem_of_getElem? (gv_el' i hi j hj)
set_option maxRecDepth 100000 in
theorem gv_ne' : (flatC (Jvm.Cond.and given_1 narrow_1))[178]? = some (Cond.not (Cond.eq (stT 0) (stT 1))) := by decide +kernel
theorem gv_ne : Cond.not (Cond.eq (stT 0) (stT 1)) ∈ flatC (Jvm.Cond.and given_1 narrow_1) := List.mem_of_getElem? gv_ne'
set_option maxRecDepth 100000 in
theorem gv_cs' : (flatC (Jvm.Cond.and given_1 narrow_1))[4]? = some (Cond.eq (.static "java/lang/String" "COMPACT_STRINGS" "Z") (.int 1)) := by decide +kernel
theorem gv_cs : Cond.eq (.static "java/lang/String" "COMPACT_STRINGS" "Z") (.int 1) ∈ flatC (Jvm.Cond.and given_1 narrow_1) := List.mem_of_getElem? gv_cs'
set_option maxRecDepth 100000 in
theorem gv_si' : (flatC (Jvm.Cond.and given_1 narrow_1))[5]? = some (Cond.isRef (.static "jdk/internal/util/Preconditions" "SIOOBE_FORMATTER" "Ljava/util/function/BiFunction;")) := by decide +kernel
theorem gv_si : Cond.isRef (.static "jdk/internal/util/Preconditions" "SIOOBE_FORMATTER" "Ljava/util/function/BiFunction;") ∈ flatC (Jvm.Cond.and given_1 narrow_1) := List.mem_of_getElem? gv_si'
theorem start_hXs {b : Nat} {s : State} (hts : ∀ w ∈ lw_tbl, w.before #[Value.ref b] s = true) (hgv : (Jvm.Cond.and given_1 narrow_1).before #[Value.ref b] s = true) : hXs (fun q : Nat => s.heap.size ≤ q) s s.heap := by
  have hf := flat_of_before _ hgv
  have hA : ∀ a : Nat, a < s.heap.size → ¬ (fun q : Nat => s.heap.size ≤ q) a := fun a h => Nat.not_le.mpr h
  obtain ⟨adK, adV, h1, h2⟩ := vk_Sof (args := #[Value.ref b]) (s := s) (N := 2) (tm := stT) (len := strL) (byt := strB) (A := fun q : Nat => s.heap.size ≤ q) (by decide) (fun i hi => hf _ (gv_ex i hi)) (fun i hi => hf _ (gv_co i hi)) (fun i hi => hf _ (gv_ar i hi)) (fun i hi => hf _ (gv_le i hi)) (fun i hi j hj => hf _ (gv_el i hi j hj)) (fun i j hi hj hij => by
    rcases (show i = 0 ∧ j = 1 ∨ i = 1 ∧ j = 0 by omega) with ⟨e1, e2⟩ | ⟨e1, e2⟩ <;> subst e1 e2
    · exact Or.inl (hf _ gv_ne)
    · exact Or.inr (hf _ gv_ne)) hA
  exact ⟨va_AO.of (A := #[Value.ref b]) (hts _ (tq_2 (List.mem_of_getElem? (i := 49) rfl))), va_Zof (args := #[Value.ref b]) (hts _ (tq_3 (List.mem_of_getElem? (i := 11) rfl))) (hts _ (tq_1 (List.mem_of_getElem? (i := 15) rfl))) (va_eqt (hf _ gv_cs)) hA, va_Zqof (args := #[Value.ref b]) (hts _ (tq_3 (List.mem_of_getElem? (i := 19) rfl))) (hts _ (tq_1 (List.mem_of_getElem? (i := 17) rfl))) (hf _ gv_si) hA, adK, adV, h1, vk_R.of (A := #[Value.ref b]) (hts _ (tq_3 (List.mem_of_getElem? (i := 1) rfl))) (h2 0 (by decide)), vk_R.of (A := #[Value.ref b]) (hts _ (tq_3 (List.mem_of_getElem? (i := 50) rfl))) (h2 1 (by decide))⟩
theorem whole_start {p : Program} {e : Env} {s : State} {m : MethodId} {below : List Frame} {meth : Method} {c : Code} (l : Launch) (_hflags : l.flags = flags0) {b L : Nat} {xs : Nat → Int32} (hL : L ≤ 3072) (C0 : lw_At p s m meth c b L xs) : W p l e room_1 s m #[Value.ref b] below meth c s.heap [] 0 0 (lw_Z below #[Value.ref b] s) (entryFrame m ([Value.ref b] : List Value).toArray 4) := by
  obtain ⟨-, -, -, -, -, hts, -, -, -, hgv⟩ := id C0
  exact start_open l C0 (start_hXs hts hgv) mC_is mM_is (law_all hL start_Rr)
