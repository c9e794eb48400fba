/-! ===== the environment at the start ===== -/
def xFl : List Cond := flatC (Jvm.Cond.and given_1 narrow_1)
def xtm (i : Nat) : Term := .string (xSn.getD i ("", 0, "")).1 (xSn.getD i ("", 0, "")).2.1
theorem xe_1 : ∀ i, i < 14 → Cond.exactly (xtm i) "java/lang/String" ∈ xFl := by decide +kernel
theorem xe_2 : ∀ i, i < 14 → Cond.eq (.field (xtm i) "java/lang/String" "coder" "B") (.int 0) ∈ xFl := by decide +kernel
theorem xe_3 : ∀ i, i < 14 → Cond.arrayOf (.field (xtm i) "java/lang/String" "value" "[B") .byte ∈ xFl := by decide +kernel
theorem xe_4 : ∀ i, i < 14 → Cond.eq (.length (.field (xtm i) "java/lang/String" "value" "[B")) (.int (Int32.ofNat (xSl.getD i 0))) ∈ xFl := by decide +kernel
theorem xe_5 : ∀ i, i < 14 → ∀ j, j < xSl.getD i 0 → Cond.eq (.elem (.field (xtm i) "java/lang/String" "value" "[B") (.int (Int32.ofNat j))) (.int ((xSy.getD i []).getD j 0)) ∈ xFl := by decide +kernel
def xNe : List Cond := xFl.filter fun w => match w with
  | .not (.eq (.string _ _) (.string _ _)) => true
  | _ => false
theorem xe6_0 : ∀ j, j < 14 → 0 ≠ j → Cond.not (Cond.eq (xtm 0) (xtm j)) ∈ xNe ∨ Cond.not (Cond.eq (xtm j) (xtm 0)) ∈ xNe := by decide +kernel
theorem xe6_1 : ∀ j, j < 14 → 1 ≠ j → Cond.not (Cond.eq (xtm 1) (xtm j)) ∈ xNe ∨ Cond.not (Cond.eq (xtm j) (xtm 1)) ∈ xNe := by decide +kernel
theorem xe6_2 : ∀ j, j < 14 → 2 ≠ j → Cond.not (Cond.eq (xtm 2) (xtm j)) ∈ xNe ∨ Cond.not (Cond.eq (xtm j) (xtm 2)) ∈ xNe := by decide +kernel
theorem xe6_3 : ∀ j, j < 14 → 3 ≠ j → Cond.not (Cond.eq (xtm 3) (xtm j)) ∈ xNe ∨ Cond.not (Cond.eq (xtm j) (xtm 3)) ∈ xNe := by decide +kernel
theorem xe6_4 : ∀ j, j < 14 → 4 ≠ j → Cond.not (Cond.eq (xtm 4) (xtm j)) ∈ xNe ∨ Cond.not (Cond.eq (xtm j) (xtm 4)) ∈ xNe := by decide +kernel
theorem xe6_5 : ∀ j, j < 14 → 5 ≠ j → Cond.not (Cond.eq (xtm 5) (xtm j)) ∈ xNe ∨ Cond.not (Cond.eq (xtm j) (xtm 5)) ∈ xNe := by decide +kernel
theorem xe6_6 : ∀ j, j < 14 → 6 ≠ j → Cond.not (Cond.eq (xtm 6) (xtm j)) ∈ xNe ∨ Cond.not (Cond.eq (xtm j) (xtm 6)) ∈ xNe := by decide +kernel
theorem xe6_7 : ∀ j, j < 14 → 7 ≠ j → Cond.not (Cond.eq (xtm 7) (xtm j)) ∈ xNe ∨ Cond.not (Cond.eq (xtm j) (xtm 7)) ∈ xNe := by decide +kernel
theorem xe6_8 : ∀ j, j < 14 → 8 ≠ j → Cond.not (Cond.eq (xtm 8) (xtm j)) ∈ xNe ∨ Cond.not (Cond.eq (xtm j) (xtm 8)) ∈ xNe := by decide +kernel
theorem xe6_9 : ∀ j, j < 14 → 9 ≠ j → Cond.not (Cond.eq (xtm 9) (xtm j)) ∈ xNe ∨ Cond.not (Cond.eq (xtm j) (xtm 9)) ∈ xNe := by decide +kernel
theorem xe6_10 : ∀ j, j < 14 → 10 ≠ j → Cond.not (Cond.eq (xtm 10) (xtm j)) ∈ xNe ∨ Cond.not (Cond.eq (xtm j) (xtm 10)) ∈ xNe := by decide +kernel
theorem xe6_11 : ∀ j, j < 14 → 11 ≠ j → Cond.not (Cond.eq (xtm 11) (xtm j)) ∈ xNe ∨ Cond.not (Cond.eq (xtm j) (xtm 11)) ∈ xNe := by decide +kernel
theorem xe6_12 : ∀ j, j < 14 → 12 ≠ j → Cond.not (Cond.eq (xtm 12) (xtm j)) ∈ xNe ∨ Cond.not (Cond.eq (xtm j) (xtm 12)) ∈ xNe := by decide +kernel
theorem xe6_13 : ∀ j, j < 14 → 13 ≠ j → Cond.not (Cond.eq (xtm 13) (xtm j)) ∈ xNe ∨ Cond.not (Cond.eq (xtm j) (xtm 13)) ∈ xNe := by decide +kernel
theorem xe_6 (i : Nat) (hi : i < 14) (j : Nat) (hj : j < 14) (h : i ≠ j) : Cond.not (Cond.eq (xtm i) (xtm j)) ∈ xFl ∨ Cond.not (Cond.eq (xtm j) (xtm i)) ∈ xFl := by
  have key : Cond.not (Cond.eq (xtm i) (xtm j)) ∈ xNe ∨ Cond.not (Cond.eq (xtm j) (xtm i)) ∈ xNe := match i, hi, h with
    | 0, _, h => xe6_0 j hj h
    | 1, _, h => xe6_1 j hj h
    | 2, _, h => xe6_2 j hj h
    | 3, _, h => xe6_3 j hj h
    | 4, _, h => xe6_4 j hj h
    | 5, _, h => xe6_5 j hj h
    | 6, _, h => xe6_6 j hj h
    | 7, _, h => xe6_7 j hj h
    | 8, _, h => xe6_8 j hj h
    | 9, _, h => xe6_9 j hj h
    | 10, _, h => xe6_10 j hj h
    | 11, _, h => xe6_11 j hj h
    | 12, _, h => xe6_12 j hj h
    | 13, _, h => xe6_13 j hj h
    | n + 14, hi, _ => absurd hi (by omega)
  exact key.imp (fun h => (List.mem_filter.mp h).1) (fun h => (List.mem_filter.mp h).1)
theorem xe_7 : ∀ i, i < 14 → xSl.getD i 0 < 2 ^ 31 := by decide +kernel
def xst (i : Nat) : Term := .static "BetweenStops" (xSt.getD i ("", [])).1 "[I"
theorem xe_8 : ∀ i, i < 4 → Cond.arrayOf (xst i) .int ∈ xFl := by decide +kernel
theorem xe_9 : ∀ i, i < 4 → Cond.eq (.length (xst i)) (.int (Int32.ofNat (xSt.getD i ("", [])).2.length)) ∈ xFl := by decide +kernel
theorem xe_10 : ∀ i, i < 4 → ∀ j, j < (xSt.getD i ("", [])).2.length → Cond.eq (.elem (xst i) (.int (Int32.ofNat j))) (.int ((xSt.getD i ("", [])).2.getD j 0)) ∈ xFl := by decide +kernel
theorem xe_11 : Cond.eq (.static "java/lang/String" "COMPACT_STRINGS" "Z") (.int 1) ∈ xFl := by decide +kernel
theorem xe_12 : Cond.isRef (.static "jdk/internal/util/Preconditions" "SIOOBE_FORMATTER" "Ljava/util/function/BiFunction;") ∈ xFl := by decide +kernel
theorem xe_13 : ∀ i, i < 14 → Cond.stringRef (xSn.getD i ("", 0, "")).1 (xSn.getD i ("", 0, "")).2.1 (xSn.getD i ("", 0, "")).2.2 ∈ tables_1 := by decide +kernel
theorem xe_14 : ∀ i, i < 4 → Cond.laysStatic "BetweenStops" (xSt.getD i ("", [])).1 "[I" ∈ tables_1 := by decide +kernel
theorem xe_15 : Cond.laysStatic "java/lang/String" "COMPACT_STRINGS" "Z" ∈ tables_1 ∧ Cond.laysStatic "jdk/internal/util/Preconditions" "SIOOBE_FORMATTER" "Ljava/util/function/BiFunction;" ∈ tables_1 ∧ Cond.initialized "java/lang/String" ∈ tables_1 ∧ Cond.initialized "jdk/internal/util/Preconditions" ∈ tables_1 ∧ Cond.initialized "BetweenStops" ∈ tables_1 := by decide +kernel
theorem xe_16 : ∀ w ∈ xNw, w.onTables = true := fun w hw => by
  have hf := (List.mem_filter.mp hw).2
  cases w <;> first | rfl | (simp at hf)
theorem xE_start {A : Nat → Prop} {args : Array Value} {s : State} (hts : ∀ w ∈ lw_tbl, w.before args s = true) (hg : (Jvm.Cond.and given_1 narrow_1).before args s = true) (hA : ∀ a : Nat, a < s.heap.size → ¬ A a) : ∃ Z : xZ, xE A Z s := by
  have hs : ∀ c ∈ xFl, c.before args s = true := flat_of_before _ hg
  have ht : ∀ w ∈ tables_1, w.before args s = true := fun w h => hts w (List.mem_append_right _ h)
  obtain ⟨adK, adV, hS, hK⟩ := vk_Sof (A := A) (tm := xtm) (len := xSl) (byt := xSy) (N := 14) xe_7 (fun i hi => hs _ (xe_1 i hi)) (fun i hi => hs _ (xe_2 i hi)) (fun i hi => hs _ (xe_3 i hi)) (fun i hi => hs _ (xe_4 i hi)) (fun i hi j hj => hs _ (xe_5 i hi j hj)) (fun i j hi hj h => (xe_6 i hi j hj h).imp (hs _) (hs _)) hA
  have hT : ∀ i, ∃ t : Nat, i < 4 → (xst i).eval args s none [] s = some (.ref t) ∧ va_T .int t (xSt.getD i ("", [])).2.length (fun j => .int ((xSt.getD i ("", [])).2.getD j 0)) A s s.heap := by
    intro i
    by_cases hi : i < 4
    · obtain ⟨t, h1, h2⟩ := va_Tof (A := A) (tm := xst i) (ty := .int) (N := (xSt.getD i ("", [])).2.length) (f := fun j => .int ((xSt.getD i ("", [])).2.getD j 0)) (by
        rcases (by omega : i = 0 ∨ i = 1 ∨ i = 2 ∨ i = 3) with rfl | rfl | rfl | rfl <;> decide +kernel) (hs _ (xe_8 i hi)) (va_eqt (hs _ (xe_9 i hi))) (fun j hj => va_eqt (hs _ (xe_10 i hi j hj))) hA
      exact ⟨t, fun _ => ⟨h1, h2⟩⟩
    · exact ⟨0, fun h => absurd h hi⟩
  have hv : ∃ v : Value, (Term.static "jdk/internal/util/Preconditions" "SIOOBE_FORMATTER" "Ljava/util/function/BiFunction;").eval args s none [] s = some v ∧ (v = .null ∨ ∃ q, v = .ref q) := by
    have h := hs _ xe_12
    cases he : (Term.static "jdk/internal/util/Preconditions" "SIOOBE_FORMATTER" "Ljava/util/function/BiFunction;").eval args s none [] s with
    | none => simp [Cond.before, Cond.holds, Cond.value, he] at h
    | some v =>
      refine ⟨v, rfl, ?_⟩
      cases v with
      | null => exact Or.inl rfl
      | ref q => exact Or.inr ⟨q, rfl⟩
      | _ => simp [Cond.before, Cond.holds, Cond.value, he] at h
  obtain ⟨v, hv1, hv2⟩ := hv
  refine ⟨(adK, adV, fun i => Classical.choose (hT i), v), hS, fun i q hq => ?_, fun i q hq => ?_, va_Zof (ht _ xe_15.1) (ht _ xe_15.2.2.1) (va_eqi (hs _ xe_11)) hA, va_Zof (ht _ xe_15.2.1) (ht _ xe_15.2.2.2.1) hv1 hA, hv2, fun w hw => va_Nw.of (xe_16 w hw) (hts w (List.mem_filter.mp hw).1)⟩
  · have hi : i < 14 := (List.getElem?_eq_some_iff.mp hq).1
    have e : xSn.getD i ("", 0, "") = q := by rw [List.getD_eq_getElem?_getD, hq]; rfl
    rw [← e]
    exact vk_R.of (ht _ (xe_13 i hi)) (hK i hi)
  · have hi : i < 4 := (List.getElem?_eq_some_iff.mp hq).1
    have e : xSt.getD i ("", []) = q := by rw [List.getD_eq_getElem?_getD, hq]; rfl
    obtain ⟨h1, h2⟩ := Classical.choose_spec (hT i) hi
    rw [← e]
    exact ⟨va_Zof (ht _ (xe_14 i hi)) (ht _ xe_15.2.2.2.2) h1 hA, h2⟩
