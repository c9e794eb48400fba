/-! ===== the memory of a world, as numbers: cell, place ===== -/
abbrev xM : Type := (Nat → Nat → Int32) × (Nat → Nat → Int64)
def gi (s : xM) (c i : Nat) : Int32 := s.1 c i
def gl (s : xM) (c i : Nat) : Int64 := s.2 c i
def si (s : xM) (c i : Nat) (v : Int32) : xM := (fun c' i' => if c' = c ∧ i' = i then v else s.1 c' i', s.2)
def sl (s : xM) (c i : Nat) (v : Int64) : xM := (s.1, fun c' i' => if c' = c ∧ i' = i then v else s.2 c' i')
/-- n numbers of cell c0, from p0 on, come to cell c1, place p1, as they were -/
def scp (s : xM) (c0 p0 c1 p1 n : Nat) : xM := (fun c' i' => if c' = c1 ∧ p1 ≤ i' ∧ i' < p1 + n then s.1 c0 (p0 + (i' - p1)) else s.1 c' i', s.2)
theorem gi_si (s : xM) (c i c' i' : Nat) (v : Int32) : gi (si s c i v) c' i' = if c' = c ∧ i' = i then v else gi s c' i' := rfl
theorem gi_same (s : xM) (c i : Nat) (v : Int32) : gi (si s c i v) c i = v := if_pos ⟨rfl, rfl⟩
theorem gi_sl (s : xM) (c i c' i' : Nat) (v : Int64) : gi (sl s c i v) c' i' = gi s c' i' := rfl
theorem gl_si (s : xM) (c i c' i' : Nat) (v : Int32) : gl (si s c i v) c' i' = gl s c' i' := rfl
theorem gl_sl (s : xM) (c i c' i' : Nat) (v : Int64) : gl (sl s c i v) c' i' = if c' = c ∧ i' = i then v else gl s c' i' := rfl
theorem gl_same (s : xM) (c i : Nat) (v : Int64) : gl (sl s c i v) c i = v := if_pos ⟨rfl, rfl⟩
theorem gi_scp (s : xM) (c0 p0 c1 p1 n c' i' : Nat) : gi (scp s c0 p0 c1 p1 n) c' i' = if c' = c1 ∧ p1 ≤ i' ∧ i' < p1 + n then gi s c0 (p0 + (i' - p1)) else gi s c' i' := rfl
theorem gl_scp (s : xM) (c0 p0 c1 p1 n c' i' : Nat) : gl (scp s c0 p0 c1 p1 n) c' i' = gl s c' i' := rfl
/-- an index inside a row of n -/
def inb (i : Int32) (n : Nat) : Bool := decide (¬ (i < 0 ∨ n ≤ i.toNatClampNeg))
/-- behind a test that the machine makes -/
def gd {α : Type} (b : Bool) (k : Option α) : Option α := if b = true then k else none
def bd {α β : Type} (o : Option (α × xM)) (k : α → xM → Option β) : Option β := match o with
  | none => none
  | some q => k q.1 q.2
theorem gd_ok {α : Type} {b : Bool} {k : Option α} {z : α} (h : gd b k = some z) : b = true ∧ k = some z := by
  unfold gd at h
  split at h
  · exact ⟨by assumption, h⟩
  · cases h
theorem gd_t {α : Type} (k : Option α) : gd true k = k := rfl
theorem gd_of {α : Type} {b : Bool} (h : b = true) (k : Option α) : gd b k = k := by rw [h]; rfl
theorem bd_ok {α β : Type} {o : Option (α × xM)} {k : α → xM → Option β} {z : β} (h : bd o k = some z) : ∃ r s, o = some (r, s) ∧ k r s = some z := by
  cases o with
  | none => cases h
  | some q => exact ⟨q.1, q.2, rfl, h⟩
theorem bd_some {α β : Type} (r : α) (s : xM) (k : α → xM → Option β) : bd (some (r, s)) k = k r s := rfl
theorem bd_none {α β : Type} (k : α → xM → Option β) : bd none k = none := rfl
theorem bd_of {α β : Type} {o : Option (α × xM)} {r : α} {s : xM} (h : o = some (r, s)) (k : α → xM → Option β) : bd o k = k r s := by rw [h]; rfl
theorem ite_t {α : Type} {c : Prop} {d : Decidable c} {a b z : α} (h : (@ite α c d a b) = z) (hc : c) : a = z := by rw [if_pos hc] at h; exact h
theorem ite_f {α : Type} {c : Prop} {d : Decidable c} {a b z : α} (h : (@ite α c d a b) = z) (hc : ¬ c) : b = z := by rw [if_neg hc] at h; exact h
theorem inb_in {i : Int32} {n : Nat} (h : inb i n = true) : vp_in i n := by
  unfold inb at h
  have h2 : ¬ (i < 0 ∨ n ≤ i.toNatClampNeg) := by simpa using h
  exact h2
theorem inb_lt {i : Int32} {n : Nat} (h : inb i n = true) : i.toNatClampNeg < n := Nat.not_le.mp fun q => (inb_in h) (Or.inr q)
/-- 0 or 1 -/
def isZ (v : Int32) : Bool := decide (v = 0 ∨ v = 1)
theorem isZ_or {v : Int32} (h : isZ v = true) : v = 0 ∨ v = 1 := of_decide_eq_true h
theorem isZ_nar {v : Int32} (h : isZ v = true) : narrow .boolean (.int v) = .int v := by
  rcases isZ_or h with rfl | rfl
  · decide +kernel
  · decide +kernel
theorem isZ_fit {v : Int32} (h : isZ v = true) : fits .boolean (.int v) = true := by
  rcases isZ_or h with rfl | rfl
  · decide +kernel
  · decide +kernel
theorem isZ0 : isZ 0 = true := by decide +kernel
theorem isZ1 : isZ 1 = true := by decide +kernel
/-- a name for a value -/
def lz {α β : Type} (a : α) (f : α → β) : β := f a
theorem lz_ok {α β : Type} {a : α} {f : α → β} {z : β} (h : lz a f = z) : ∃ y, y = a ∧ f y = z := ⟨a, rfl, h⟩
/-- how often a loop may turn -/
def fu : Nat := 1000000
