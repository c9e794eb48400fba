/-! ===== worlds of a fixed shape: which cells, of which kinds, who refers to whom; the numbers stand in xM ===== -/
/-- a row (kind, length, whom it refers to) or an object (kind, each field: whom it refers to, or 0 an int, 1 a long) -/
abbrev xSh : Type := (Nat × Nat × List (Option Nat)) ⊕ (Nat × List (Option Nat ⊕ Nat))
abbrev xG : Type := (Nat → xSh) × Nat × (Nat → Nat) × (Nat → ClassId) × va_G
def xfv (ad : Nat → Nat) (s : xM) (c k : Nat) (f : Option Nat ⊕ Nat) : Value := match f with
  | .inl none => .null
  | .inl (some r) => .ref (ad r)
  | .inr 0 => .int (s.1 c k)
  | .inr _ => .long (s.2 c k)
/-- kinds of rows: 0 int, 1 long, 2 boolean, 3 int[], 4 Stop, 5 Trip, 6 Text, 7 Sheet -/
def xct (L : Nat → xSh) (ad : Nat → Nat) (cA : Nat → ClassId) (s : xM) (c : Nat) : va_E := match L c with
  | .inl (t, n, ch) => .inl (cA t, n, if t = 1 then .inr (.inl (s.2 c)) else if t < 3 then .inl (s.1 c) else .inr (.inr (.inr (.inr fun k => (ch.getD k none).map ad))))
  | .inr (ci, fl) => .inr (ci, fl.mapIdx (xfv ad s c))
def xW (G : xG) (s : xM) : va_W := (List.range G.2.1).map fun c => (G.2.2.1 c, xct G.1 G.2.2.1 G.2.2.2.1 s c)
def xA (G : xG) : Nat → Prop := fun q => ∃ c, c < G.2.1 ∧ q = G.2.2.1 c
def xty (t : Nat) : FieldType := match t with
  | 0 => .int
  | 1 => .long
  | 2 => .boolean
  | 3 => .array .int
  | 4 => .object "BetweenStops$Stop"
  | 5 => .object "BetweenStops$Trip"
  | 6 => .object "BetweenStops$Text"
  | _ => .object "BetweenStops$Sheet"
def xT (cA : Nat → ClassId) : List (ClassId × FieldType) := (List.range 8).map fun t => (cA t, xty t)
theorem xT_get {cA : Nat → ClassId} {t : Nat} (h : t < 8) : (xT cA)[t]? = some (cA t, xty t) := by
  unfold xT
  rw [List.getElem?_map, List.getElem?_range h]
  rfl
theorem xW_get {G : xG} {s : xM} {c : Nat} (h : c < G.2.1) : (xW G s)[c]? = some (G.2.2.1 c, xct G.1 G.2.2.1 G.2.2.2.1 s c) := by
  unfold xW
  rw [List.getElem?_map, List.getElem?_range h]
  rfl
theorem xW_len {G : xG} {s : xM} : (xW G s).length = G.2.1 := by simp [xW]
theorem xct_other {L : Nat → xSh} {ad : Nat → Nat} {cA : Nat → ClassId} {s s' : xM} {c : Nat} (h1 : s'.1 c = s.1 c) (h2 : s'.2 c = s.2 c) : xct L ad cA s' c = xct L ad cA s c := by
  unfold xct
  cases L c with
  | inl a => simp only [h1, h2]
  | inr o =>
    simp only
    congr 2
    refine congrArg (fun f => List.mapIdx f o.2) ?_
    funext k f
    unfold xfv
    rcases f with (_ | _) | _ | _
    · rfl
    · rfl
    · simp only [h1]
    · simp only [h2]
theorem xW_set {G : xG} {s s' : xM} {c : Nat} (hc : c < G.2.1) (h : ∀ c', c' ≠ c → s'.1 c' = s.1 c' ∧ s'.2 c' = s.2 c') {e : va_E} (he : xct G.1 G.2.2.1 G.2.2.2.1 s' c = e) : (xW G s).set c (G.2.2.1 c, e) = xW G s' := by
  apply List.ext_getElem?
  intro k
  rw [List.getElem?_set]
  by_cases hk : c = k
  · subst hk
    rw [if_pos rfl, xW_get hc, xW_len, if_pos hc, he]
  · rw [if_neg hk]
    by_cases hl : k < G.2.1
    · rw [xW_get hl, xW_get hl, xct_other (h k (Ne.symm hk)).1 (h k (Ne.symm hk)).2]
    · rw [List.getElem?_eq_none (by rw [xW_len]; omega), List.getElem?_eq_none (by rw [xW_len]; omega)]
def xInj (G : xG) : Prop := ∀ i j : Nat, i < G.2.1 → j < G.2.1 → G.2.2.1 i = G.2.2.1 j → i = j
theorem xW_D {G : xG} {s : xM} (h : xInj G) : va_D (xA G) (xW G s) := by
  have key : ∀ (k : Nat) (q : Nat × va_E), (xW G s)[k]? = some q → k < G.2.1 ∧ q.1 = G.2.2.1 k := by
    intro k q hq
    have hl := (List.getElem?_eq_some_iff.mp hq).1
    rw [xW_len] at hl
    rw [xW_get hl] at hq
    cases hq
    exact ⟨hl, rfl⟩
  refine ⟨fun i j p q hi hj e => ?_, fun k q hq => ?_⟩
  · obtain ⟨h1, h2⟩ := key i p hi
    obtain ⟨h3, h4⟩ := key j q hj
    exact h i j h1 h3 (by rw [← h2, ← h4, e])
  · obtain ⟨h1, h2⟩ := key k q hq
    exact ⟨k, h1, h2⟩
theorem xfv_set {ad : Nat → Nat} {s : xM} {c k : Nat} {fl : List (Option Nat ⊕ Nat)} {v : Int32} (hk : fl[k]? = some (.inr 0)) : (fl.mapIdx (xfv ad s c)).set k (.int v) = fl.mapIdx (xfv ad (si s c k v) c) := by
  apply List.ext_getElem?
  intro j
  rw [List.getElem?_set, List.length_mapIdx, List.getElem?_mapIdx, List.getElem?_mapIdx]
  by_cases hj : k = j
  · subst hj
    have hl := (List.getElem?_eq_some_iff.mp hk).1
    rw [if_pos rfl, if_pos hl, hk]
    show _ = some (xfv ad (si s c k v) c k (.inr 0))
    show _ = some (Value.int (gi (si s c k v) c k))
    rw [gi_same]
  · rw [if_neg hj]
    congr 1
    funext f
    unfold xfv
    rcases f with (_ | _) | _ | _
    · rfl
    · rfl
    · show Value.int (gi s c j) = Value.int (gi (si s c k v) c j)
      rw [gi_si, if_neg (fun h => hj h.2.symm)]
    · rfl
theorem xfv_setL {ad : Nat → Nat} {s : xM} {c k : Nat} {fl : List (Option Nat ⊕ Nat)} {v : Int64} (hk : fl[k]? = some (.inr 1)) : (fl.mapIdx (xfv ad s c)).set k (.long v) = fl.mapIdx (xfv ad (sl s c k v) c) := by
  apply List.ext_getElem?
  intro j
  rw [List.getElem?_set, List.length_mapIdx, List.getElem?_mapIdx, List.getElem?_mapIdx]
  by_cases hj : k = j
  · subst hj
    have hl := (List.getElem?_eq_some_iff.mp hk).1
    rw [if_pos rfl, if_pos hl, hk]
    show _ = some (xfv ad (sl s c k v) c k (.inr 1))
    show _ = some (Value.long (gl (sl s c k v) c k))
    rw [gl_same]
  · rw [if_neg hj]
    congr 1
    funext f
    unfold xfv
    rcases f with (_ | _) | _ | _
    · rfl
    · rfl
    · rfl
    · show Value.long (gl s c j) = Value.long (gl (sl s c k v) c j)
      rw [gl_sl, if_neg (fun h => hj h.2.symm)]
/-! ===== the words ===== -/
def xTB : List Cond := lw_tbl.filter goodWord
theorem xTB_in {w : Cond} (h : w ∈ lw_tbl) (hg : goodWord w = true) : w ∈ xTB := List.mem_filter.mpr ⟨h, hg⟩
theorem xTB_good : GoodIn xTB xTB := fun w h => ⟨h, good_of_word (List.mem_filter.mp h).2⟩
theorem xTB_hts {args : Array Value} {s : State} (h : ∀ w ∈ lw_tbl, w.before args s = true) : ∀ w ∈ xTB, w.before args s = true := fun w hw => h w (List.mem_filter.mp hw).1
