/-! ===== PURE: a small logic over the functions ===== -/
theorem fu_big : ∃ n, fu = n + 4000 := ⟨996000, by decide⟩
/-- it comes to an end, and there Q -/
def Ok {α : Type} (o : Option (α × xM)) (Q : α → xM → Prop) : Prop := ∃ r s, o = some (r, s) ∧ Q r s
theorem ok_some {α : Type} {r : α} {s : xM} {Q : α → xM → Prop} : Ok (some (r, s)) Q ↔ Q r s := by
  constructor
  · rintro ⟨r1, s1, h, q⟩
    cases h
    exact q
  · exact fun q => ⟨r, s, rfl, q⟩
theorem ok_gd {α : Type} {b : Bool} {o : Option (α × xM)} {Q : α → xM → Prop} : Ok (gd b o) Q ↔ b = true ∧ Ok o Q := by
  constructor
  · rintro ⟨r1, s1, h, q⟩
    exact ⟨(gd_ok h).1, r1, s1, (gd_ok h).2, q⟩
  · rintro ⟨h, q⟩
    rw [gd_of h]
    exact q
theorem ok_bd {α β : Type} {o : Option (α × xM)} {k : α → xM → Option (β × xM)} {Q : β → xM → Prop} : Ok (bd o k) Q ↔ Ok o (fun r s => Ok (k r s) Q) := by
  constructor
  · rintro ⟨r1, s1, h, q⟩
    obtain ⟨r, s, h1, h2⟩ := bd_ok h
    exact ⟨r, s, h1, r1, s1, h2, q⟩
  · rintro ⟨r, s, h1, q⟩
    rw [bd_of h1]
    exact q
theorem ok_lz {α β : Type} {a : α} {f : α → Option (β × xM)} {Q : β → xM → Prop} : Ok (lz a f) Q ↔ Ok (f a) Q := Iff.rfl
theorem ok_ite {α : Type} {c : Prop} {d : Decidable c} {a b : Option (α × xM)} {Q : α → xM → Prop} : Ok (@ite _ c d a b) Q ↔ (c → Ok a Q) ∧ (¬ c → Ok b Q) := by
  by_cases h : c
  · simp [h]
  · simp [h]
theorem ok_mono {α : Type} {o : Option (α × xM)} {Q Q' : α → xM → Prop} (h : Ok o Q) (m : ∀ r s, Q r s → Q' r s) : Ok o Q' := by
  obtain ⟨r, s, h1, h2⟩ := h
  exact ⟨r, s, h1, m r s h2⟩
theorem ok_eq {α : Type} {o : Option (α × xM)} {r : α} {s : xM} {Q : α → xM → Prop} (h : o = some (r, s)) (q : Q r s) : Ok o Q := ⟨r, s, h, q⟩
theorem ok_T {α : Type} {c : Prop} {d : Decidable c} {a b : Option (α × xM)} {Q : α → xM → Prop} (h : c) (q : Ok a Q) : Ok (@ite _ c d a b) Q := by rw [if_pos h]; exact q
theorem ok_F {α : Type} {c : Prop} {d : Decidable c} {a b : Option (α × xM)} {Q : α → xM → Prop} (h : ¬ c) (q : Ok b Q) : Ok (@ite _ c d a b) Q := by rw [if_neg h]; exact q
theorem ok_G {α : Type} {b : Bool} {o : Option (α × xM)} {Q : α → xM → Prop} (h : b = true) (q : Ok o Q) : Ok (gd b o) Q := ok_gd.mpr ⟨h, q⟩
theorem ok_B {α β : Type} {o : Option (α × xM)} {k : α → xM → Option (β × xM)} {Q : β → xM → Prop} (h : Ok o (fun r s => Ok (k r s) Q)) : Ok (bd o k) Q := ok_bd.mpr h
theorem ok_R {α : Type} {r : α} {s : xM} {Q : α → xM → Prop} (q : Q r s) : Ok (some (r, s)) Q := ok_some.mpr q
/-! an index that is a number -/
theorem inb_n {i N : Nat} (h : i < N) (hN : N < 2 ^ 31) : inb (nI i) N = true := by
  unfold inb
  exact decide_eq_true (nI_in h hN)
theorem isZ_ite {c : Prop} {d : Decidable c} : isZ (@ite _ c d (1 : Int32) 0) = true := by
  by_cases h : c
  · rw [if_pos h]; exact isZ1
  · rw [if_neg h]; exact isZ0
/-- v lies in least .. most -/
def xin (v l m : Int32) : Prop := ¬ v < l ∧ ¬ m < v
theorem xin_dec (v l m : Int32) : xin v l m ∨ ¬ xin v l m := Classical.em _
theorem xin_n {v : Int32} {m : Int32} {n : Nat} (hM : m.toInt = n) (h : xin v 0 m) : ∃ j : Nat, j ≤ n ∧ v = nI j := nI_of2 hM h.1 (by
  have := h.2
  rw [Int32.lt_iff_toInt_lt] at this
  rw [Int32.le_iff_toInt_le]
  omega)
theorem of_X9_isWithin {a l m : Int32} {s : xM} {Q : Int32 → xM → Prop} (h1 : xin a l m → Q 1 s) (h0 : ¬ xin a l m → Q 0 s) : Ok (fX9_isWithin a l m s) Q := by
  unfold fX9_isWithin
  by_cases h : xin a l m
  · rw [if_neg h.1, if_neg h.2]
    exact ok_R (h1 h)
  · by_cases c1 : a < l
    · rw [if_pos c1]
      exact ok_R (h0 h)
    · rw [if_neg c1, if_pos (Classical.not_not.mp fun c => h ⟨c1, c⟩)]
      exact ok_R (h0 h)
theorem of_X10_in {a l m : Int32} {s : xM} {Q : Int32 → xM → Prop} (h1 : xin a l m → Q 1 s) (h0 : ¬ xin a l m → Q 0 s) : Ok (fX10_in a l m s) Q := by
  unfold fX10_in
  by_cases h : xin a l m
  · rw [if_neg h.1, if_neg h.2]
    exact ok_R (h1 h)
  · by_cases c1 : a < l
    · rw [if_pos c1]
      exact ok_R (h0 h)
    · rw [if_neg c1, if_pos (Classical.not_not.mp fun c => h ⟨c1, c⟩)]
      exact ok_R (h0 h)
