/-! ===== two runs side by side ===== -/
def Rel {α β : Type} (o1 : Option (α × xM)) (o2 : Option (β × xM)) (Q : α → xM → β → xM → Prop) : Prop := Ok o1 (fun r s => Ok o2 (fun r' t => Q r s r' t))
theorem rel_out {α β : Type} {o1 : Option (α × xM)} {o2 : Option (β × xM)} {Q : α → xM → β → xM → Prop} (h : Rel o1 o2 Q) : ∃ r s r' t, o1 = some (r, s) ∧ o2 = some (r', t) ∧ Q r s r' t := by
  obtain ⟨r, s, h1, r', t, h2, q⟩ := h
  exact ⟨r, s, r', t, h1, h2, q⟩
theorem rel_in {α β : Type} {o1 : Option (α × xM)} {o2 : Option (β × xM)} {Q : α → xM → β → xM → Prop} (h : ∃ r s r' t, o1 = some (r, s) ∧ o2 = some (r', t) ∧ Q r s r' t) : Rel o1 o2 Q := by
  obtain ⟨r, s, r', t, h1, h2, q⟩ := h
  exact ⟨r, s, h1, r', t, h2, q⟩
theorem rr_O {α β : Type} {o1 : Option (α × xM)} {o2 : Option (β × xM)} {Q : α → xM → β → xM → Prop} (h : Ok o2 (fun r' t => Ok o1 (fun r s => Q r s r' t))) : Rel o1 o2 Q := by
  obtain ⟨r', t, h2, r, s, h1, q⟩ := h
  exact ⟨r, s, h1, r', t, h2, q⟩
theorem rr_U {α β : Type} {o1 : Option (α × xM)} {o2 : Option (β × xM)} {Q : α → xM → β → xM → Prop} (h : Rel o1 o2 Q) : Ok o2 (fun r' t => Ok o1 (fun r s => Q r s r' t)) := by
  obtain ⟨r, s, h1, r', t, h2, q⟩ := h
  exact ⟨r', t, h2, r, s, h1, q⟩
theorem rel_some {α β : Type} {r : α} {s : xM} {r' : β} {t : xM} {Q : α → xM → β → xM → Prop} : Rel (some (r, s)) (some (r', t)) Q ↔ Q r s r' t := ok_some.trans ok_some
theorem rel_R {α β : Type} {r : α} {s : xM} {r' : β} {t : xM} {Q : α → xM → β → xM → Prop} (h : Q r s r' t) : Rel (some (r, s)) (some (r', t)) Q := rel_some.mpr h
theorem rel_mono {α β : Type} {o1 : Option (α × xM)} {o2 : Option (β × xM)} {Q Q' : α → xM → β → xM → Prop} (h : Rel o1 o2 Q) (m : ∀ r s r' t, Q r s r' t → Q' r s r' t) : Rel o1 o2 Q' := ok_mono h (fun _ _ g => ok_mono g (fun _ _ q => m _ _ _ _ q))
/-! the left run's rows -/
theorem rl_B {α β γ : Type} {o : Option (γ × xM)} {k : γ → xM → Option (α × xM)} {o2 : Option (β × xM)} {Q : α → xM → β → xM → Prop} (h : Ok o (fun r s => Rel (k r s) o2 Q)) : Rel (bd o k) o2 Q := ok_B h
theorem rl_E {α β γ : Type} {o : Option (γ × xM)} {r : γ} {s : xM} {k : γ → xM → Option (α × xM)} {o2 : Option (β × xM)} {Q : α → xM → β → xM → Prop} (e : o = some (r, s)) (h : Rel (k r s) o2 Q) : Rel (bd o k) o2 Q := by rw [e]; exact h
theorem rl_T {α β : Type} {c : Prop} {d : Decidable c} {a b : Option (α × xM)} {o2 : Option (β × xM)} {Q : α → xM → β → xM → Prop} (h : c) (q : Rel a o2 Q) : Rel (@ite _ c d a b) o2 Q := by rw [if_pos h]; exact q
theorem rl_F {α β : Type} {c : Prop} {d : Decidable c} {a b : Option (α × xM)} {o2 : Option (β × xM)} {Q : α → xM → β → xM → Prop} (h : ¬ c) (q : Rel b o2 Q) : Rel (@ite _ c d a b) o2 Q := by rw [if_neg h]; exact q
theorem rl_gd {α β : Type} {b : Bool} {o : Option (α × xM)} {o2 : Option (β × xM)} {Q : α → xM → β → xM → Prop} : Rel (gd b o) o2 Q ↔ b = true ∧ Rel o o2 Q := ok_gd
theorem rl_G {α β : Type} {b : Bool} {o : Option (α × xM)} {o2 : Option (β × xM)} {Q : α → xM → β → xM → Prop} (h : b = true) (q : Rel o o2 Q) : Rel (gd b o) o2 Q := rl_gd.mpr ⟨h, q⟩
theorem rl_lz {α β γ : Type} {a : γ} {f : γ → Option (α × xM)} {o2 : Option (β × xM)} {Q : α → xM → β → xM → Prop} : Rel (lz a f) o2 Q ↔ Rel (f a) o2 Q := Iff.rfl
/-! the right run's rows -/
theorem rr_B {α β γ : Type} {o : Option (γ × xM)} {k : γ → xM → Option (β × xM)} {o1 : Option (α × xM)} {Q : α → xM → β → xM → Prop} (h : Ok o (fun r t => Rel o1 (k r t) Q)) : Rel o1 (bd o k) Q := rr_O (ok_B (ok_mono h (fun _ _ g => rr_U g)))
theorem rr_E {α β γ : Type} {o : Option (γ × xM)} {r : γ} {s : xM} {k : γ → xM → Option (β × xM)} {o1 : Option (α × xM)} {Q : α → xM → β → xM → Prop} (e : o = some (r, s)) (h : Rel o1 (k r s) Q) : Rel o1 (bd o k) Q := by rw [e]; exact h
theorem rr_T {α β : Type} {c : Prop} {d : Decidable c} {a b : Option (β × xM)} {o1 : Option (α × xM)} {Q : α → xM → β → xM → Prop} (h : c) (q : Rel o1 a Q) : Rel o1 (@ite _ c d a b) Q := by rw [if_pos h]; exact q
theorem rr_F {α β : Type} {c : Prop} {d : Decidable c} {a b : Option (β × xM)} {o1 : Option (α × xM)} {Q : α → xM → β → xM → Prop} (h : ¬ c) (q : Rel o1 b Q) : Rel o1 (@ite _ c d a b) Q := by rw [if_neg h]; exact q
theorem rr_gd {α β : Type} {b : Bool} {o : Option (β × xM)} {o1 : Option (α × xM)} {Q : α → xM → β → xM → Prop} : Rel o1 (gd b o) Q ↔ b = true ∧ Rel o1 o Q := by
  cases b
  · constructor
    · rintro ⟨r, s, h1, r', t, h2, q⟩
      cases h2
    · exact fun h => absurd h.1 (by decide)
  · exact ⟨fun h => ⟨rfl, h⟩, fun h => h.2⟩
theorem rr_G {α β : Type} {b : Bool} {o : Option (β × xM)} {o1 : Option (α × xM)} {Q : α → xM → β → xM → Prop} (h : b = true) (q : Rel o1 o Q) : Rel o1 (gd b o) Q := rr_gd.mpr ⟨h, q⟩
theorem rr_lz {α β γ : Type} {a : γ} {f : γ → Option (β × xM)} {o1 : Option (α × xM)} {Q : α → xM → β → xM → Prop} : Rel o1 (lz a f) Q ↔ Rel o1 (f a) Q := Iff.rfl
/-! ===== what is asked of numbers as told ===== -/
theorem n10 : ¬ (1 : Int32) = 0 := by decide
theorem e_isWithin (a l m : Int32) (s : xM) : fX9_isWithin a l m s = some (if a < l ∨ m < a then 0 else 1, s) := by
  unfold fX9_isWithin
  by_cases c1 : a < l
  · rw [if_pos c1, if_pos (Or.inl c1)]
  · rw [if_neg c1]
    by_cases c2 : m < a
    · rw [if_pos c2, if_pos (Or.inr c2)]
    · rw [if_neg c2, if_neg (fun h => h.elim c1 c2)]
theorem e_in (a l m : Int32) (s : xM) : fX10_in a l m s = some (if a < l ∨ m < a then 0 else 1, s) := by
  unfold fX10_in
  by_cases c1 : a < l
  · rw [if_pos c1, if_pos (Or.inl c1)]
  · rw [if_neg c1]
    by_cases c2 : m < a
    · rw [if_pos c2, if_pos (Or.inr c2)]
    · rw [if_neg c2, if_neg (fun h => h.elim c1 c2)]
theorem isZ_ite2 {c : Prop} {d : Decidable c} : isZ (@ite _ c d (0 : Int32) 1) = true := by
  by_cases h : c
  · rw [if_pos h]; exact isZ0
  · rw [if_neg h]; exact isZ1
theorem e_isCell9 (a : Int32) (s : xM) : fX9_isCell a s = some (if a < 0 ∨ 40 < a then 0 else 1, s) := by
  unfold fX9_isCell
  rw [e_isWithin, bd_some, gd_of isZ_ite2]
theorem e_isCell10 (a : Int32) (s : xM) : fX10_isCell a s = some (if a < 0 ∨ 40 < a then 0 else 1, s) := by
  unfold fX10_isCell
  rw [e_in, bd_some, gd_of isZ_ite2]
theorem e_isSort9 (a : Int32) (s : xM) : fX9_isSort a s = some (if a < 0 ∨ 2 < a then 0 else 1, s) := by
  unfold fX9_isSort
  rw [e_isWithin, bd_some, gd_of isZ_ite2]
theorem e_isKind9 (a : Int32) (s : xM) : fX9_isKind a s = some (if a < 0 ∨ 5 < a then 0 else 1, s) := by
  unfold fX9_isKind
  rw [e_isWithin, bd_some, gd_of isZ_ite2]
theorem e_isSheet9 (a : Int32) (s : xM) : fX9_isSheet a s = some (if a < 0 ∨ 3 < a then 0 else 1, s) := by
  unfold fX9_isSheet
  rw [e_isWithin, bd_some, gd_of isZ_ite2]
theorem e_isStop9 (a : Int32) (s : xM) : fX9_isStop a s = some (if a < 0 ∨ gi s 1 7 - 1 < a then 0 else 1, s) := by
  unfold fX9_isStop
  rw [e_isWithin, bd_some, gd_of isZ_ite2]
theorem e_isTrip9 (a : Int32) (s : xM) : fX9_isTrip a s = some (if a < 0 ∨ gi s 1 9 - 1 < a then 0 else 1, s) := by
  unfold fX9_isTrip
  rw [e_isWithin, bd_some, gd_of isZ_ite2]
theorem e_isStop10 (a : Int32) (s : xM) : fX10_isStop a s = some (if a < 0 ∨ gi s 0 4 - 1 < a then 0 else 1, s) := by
  unfold fX10_isStop
  rw [e_in, bd_some, gd_of isZ_ite2]
theorem e_isTrip10 (a : Int32) (s : xM) : fX10_isTrip a s = some (if a < 0 ∨ gi s 0 12 - 1 < a then 0 else 1, s) := by
  unfold fX10_isTrip
  rw [e_in, bd_some, gd_of isZ_ite2]
/-- out of its bounds, or a number -/
theorem rcase (a : Int32) {M : Int32} {n : Nat} (hM : M.toInt = n) : (a < 0 ∨ M < a) ∨ ¬ (a < 0 ∨ M < a) ∧ ∃ j, j ≤ n ∧ a = nI j := by
  by_cases c : a < 0 ∨ M < a
  · exact Or.inl c
  · refine Or.inr ⟨c, ?_⟩
    have c1 : ¬ a < 0 := fun h => c (Or.inl h)
    refine nI_of2 hM c1 ?_
    have c2 : ¬ M < a := fun h => c (Or.inr h)
    rw [Int32.lt_iff_toInt_lt] at c2
    rw [Int32.le_iff_toInt_le]
    omega
/-- out of its bounds, or a number below N -/
theorem rcaseN (a : Int32) {N : Nat} (hN : N < 2 ^ 30) : (a < 0 ∨ nI N - 1 < a) ∨ ¬ (a < 0 ∨ nI N - 1 < a) ∧ ∃ j, j < N ∧ a = nI j := by
  have e : (nI N - 1).toInt = (N : Int) - 1 := pk_sub_toInt (a := N) (b := 1) hN (by omega)
  by_cases c : a < 0 ∨ nI N - 1 < a
  · exact Or.inl c
  · refine Or.inr ⟨c, ?_⟩
    have c1 : ¬ a < 0 := fun h => c (Or.inl h)
    have c2 : ¬ nI N - 1 < a := fun h => c (Or.inr h)
    obtain ⟨j, hj, rfl⟩ := nI_of c1
    rw [Int32.lt_iff_toInt_lt, e, nI_toInt hj] at c2
    exact ⟨j, by omega, rfl⟩
