/-! ===== a town: its numbers in the model's places ===== -/
def vT (c i : Nat) : Prop := (c = 0 ∧ (i = 2 ∨ i = 3 ∨ i = 4 ∨ i = 12)) ∨ (c = 1 ∧ i < 41) ∨ (c = 2 ∧ i < 18) ∨ (3 ≤ c ∧ c ≤ 13 ∧ i < 8)
/-- where the class keeps them: the cell -/
def xlc (c i : Nat) : Nat := if c = 0 then 1 else if c = 1 then 2 else if c = 2 then 6 + i / 6 else if c ≤ 9 then 11 + i else 19 + i
/-- and the place there -/
def xlp (c i : Nat) : Nat := if c = 0 then (if i = 2 then 4 else if i = 3 then 5 else if i = 4 then 7 else 9) else if c = 1 then i else if c = 2 then i % 6 else if c = 3 then 0 else if c ≤ 9 then c - 2 else c - 10
def hiT (c i : Nat) : Nat := if c = 0 then (if i = 2 then 3600 else if i = 3 then 60 else 8) else if c = 2 then (if i % 6 < 2 then 60 else if i % 6 = 5 then 9999 else 9) else [0, 9, 0, 5, 40, 99, 60, 1, 10, 2, 40, 40, 99, 2].getD c 0
theorem xl_cases {c i : Nat} (h : vT c i) : (c = 0 ∧ xlc c i = 1 ∧ ((i = 2 ∧ xlp c i = 4) ∨ (i = 3 ∧ xlp c i = 5) ∨ (i = 4 ∧ xlp c i = 7) ∨ (i = 12 ∧ xlp c i = 9))) ∨ (c = 1 ∧ i < 41 ∧ xlc c i = 2 ∧ xlp c i = i) ∨ (c = 2 ∧ i < 18 ∧ xlc c i = 6 + i / 6 ∧ xlp c i = i % 6) ∨ (c = 3 ∧ i < 8 ∧ xlc c i = 11 + i ∧ xlp c i = 0) ∨ (4 ≤ c ∧ c ≤ 9 ∧ i < 8 ∧ xlc c i = 11 + i ∧ xlp c i = c - 2) ∨ (10 ≤ c ∧ c ≤ 13 ∧ i < 8 ∧ xlc c i = 19 + i ∧ xlp c i = c - 10) := by
  unfold vT at h
  rcases h with ⟨rfl, rfl | rfl | rfl | rfl⟩ | ⟨rfl, h⟩ | ⟨rfl, h⟩ | ⟨h1, h2, h3⟩
  · exact Or.inl ⟨rfl, rfl, Or.inl ⟨rfl, rfl⟩⟩
  · exact Or.inl ⟨rfl, rfl, Or.inr (Or.inl ⟨rfl, rfl⟩)⟩
  · exact Or.inl ⟨rfl, rfl, Or.inr (Or.inr (Or.inl ⟨rfl, rfl⟩))⟩
  · exact Or.inl ⟨rfl, rfl, Or.inr (Or.inr (Or.inr ⟨rfl, rfl⟩))⟩
  · exact Or.inr (Or.inl ⟨rfl, h, rfl, rfl⟩)
  · exact Or.inr (Or.inr (Or.inl ⟨rfl, h, rfl, rfl⟩))
  · by_cases h4 : c = 3
    · subst h4
      exact Or.inr (Or.inr (Or.inr (Or.inl ⟨rfl, h3, rfl, rfl⟩)))
    · have n0 : ¬ c = 0 := by omega
      have n1 : ¬ c = 1 := by omega
      have n2 : ¬ c = 2 := by omega
      by_cases h5 : c ≤ 9
      · refine Or.inr (Or.inr (Or.inr (Or.inr (Or.inl ⟨by omega, h5, h3, ?_, ?_⟩))))
        · unfold xlc
          rw [if_neg n0, if_neg n1, if_neg n2, if_pos h5]
        · unfold xlp
          rw [if_neg n0, if_neg n1, if_neg n2, if_neg h4, if_pos h5]
      · refine Or.inr (Or.inr (Or.inr (Or.inr (Or.inr ⟨by omega, h2, h3, ?_, ?_⟩))))
        · unfold xlc
          rw [if_neg n0, if_neg n1, if_neg n2, if_neg h5]
        · unfold xlp
          rw [if_neg n0, if_neg n1, if_neg n2, if_neg h4, if_neg h5]
theorem xl_inj {c i d j : Nat} (h : vT c i) (g : vT d j) (e1 : xlc c i = xlc d j) (e2 : xlp c i = xlp d j) : c = d ∧ i = j := by
  have a := xl_cases h
  have b := xl_cases g
  omega
/-- a place of the class's that no town has -/
def xoff (c i : Nat) : Prop := c = 0 ∨ 27 ≤ c ∨ (3 ≤ c ∧ c ≤ 5) ∨ (9 ≤ c ∧ c ≤ 10) ∨ (11 ≤ c ∧ c ≤ 18 ∧ i = 1) ∨ (c = 1 ∧ 10 ≤ i)
theorem xl_off {c i d j : Nat} (h : vT c i) (g : xoff d j) : ¬ (xlc c i = d ∧ xlp c i = j) := by
  have a := xl_cases h
  unfold xoff at g
  omega
abbrev xTw : Type := Nat → Nat → Nat
def up (T : xTw) (c i n : Nat) : xTw := fun d j => if d = c ∧ j = i then n else T d j
theorem up_same (T : xTw) (c i n : Nat) : up T c i n c i = n := if_pos ⟨rfl, rfl⟩
theorem up_ne {T : xTw} {c i n d j : Nat} (h : ¬ (d = c ∧ j = i)) : up T c i n d j = T d j := if_neg h
def xTn (σ : xM) (T : xTw) : Prop := ∀ c i, vT c i → gi σ (xlc c i) (xlp c i) = nI (T c i)
def mTn (τ : xM) (T : xTw) : Prop := ∀ c i, vT c i → gi τ c i = nI (T c i)
def rgT (T : xTw) : Prop := (∀ c i, vT c i → T c i ≤ hiT c i) ∧ 1 ≤ T 0 2
theorem xTn_up {σ : xM} {T : xTw} (h : xTn σ T) {c i : Nat} (n : Nat) (hv : vT c i) : xTn (si σ (xlc c i) (xlp c i) (nI n)) (up T c i n) := by
  intro d j hd
  rw [gi_si]
  by_cases e : d = c ∧ j = i
  · obtain ⟨rfl, rfl⟩ := e
    rw [if_pos ⟨rfl, rfl⟩, up_same]
  · rw [up_ne e, if_neg (fun q => e (xl_inj hd hv q.1 q.2))]
    exact h d j hd
theorem xTn_off {σ : xM} {T : xTw} (h : xTn σ T) {c i : Nat} (v : Int32) (hv : xoff c i) : xTn (si σ c i v) T := by
  intro d j hd
  rw [gi_si, if_neg (xl_off hd hv)]
  exact h d j hd
theorem mTn_up {τ : xM} {T : xTw} (h : mTn τ T) {c i : Nat} (n : Nat) : mTn (si τ c i (nI n)) (up T c i n) := by
  intro d j hd
  rw [gi_si]
  by_cases e : d = c ∧ j = i
  · rw [if_pos e, e.1, e.2, up_same]
  · rw [up_ne e, if_neg e]
    exact h d j hd
theorem mTn_off {τ : xM} {T : xTw} (h : mTn τ T) {c i : Nat} (v : Int32) (hv : ¬ vT c i) : mTn (si τ c i v) T := by
  intro d j hd
  rw [gi_si, if_neg (fun q => hv (by rw [← q.1, ← q.2]; exact hd))]
  exact h d j hd
/-- the same numbers but at the places of P -/
def Fr (P : Nat → Nat → Prop) (s s' : xM) : Prop := ∀ c i, ¬ P c i → gi s' c i = gi s c i ∧ gl s' c i = gl s c i
theorem Fr_rf {P : Nat → Nat → Prop} {s : xM} : Fr P s s := fun _ _ _ => ⟨rfl, rfl⟩
theorem Fr_tr {P : Nat → Nat → Prop} {s s1 s2 : xM} (h : Fr P s s1) (g : Fr P s1 s2) : Fr P s s2 := fun c i n => ⟨(g c i n).1.trans (h c i n).1, (g c i n).2.trans (h c i n).2⟩
theorem Fr_mono {P P' : Nat → Nat → Prop} {s s' : xM} (h : Fr P s s') (m : ∀ c i, P c i → P' c i) : Fr P' s s' := fun c i n => h c i fun q => n (m c i q)
theorem Fr_si {P : Nat → Nat → Prop} {s s' : xM} (h : Fr P s s') {c i : Nat} (v : Int32) (hp : P c i) : Fr P s (si s' c i v) := fun d j n => by
  rw [gi_si, gl_si, if_neg (fun q => n (by rw [q.1, q.2]; exact hp))]
  exact h d j n
theorem Fr_sl {P : Nat → Nat → Prop} {s s' : xM} (h : Fr P s s') {c i : Nat} (v : Int64) (hp : P c i) : Fr P s (sl s' c i v) := fun d j n => by
  rw [gi_sl, gl_sl, if_neg (fun q => n (by rw [q.1, q.2]; exact hp))]
  exact h d j n
theorem Fr_scp {P : Nat → Nat → Prop} {s s' : xM} (h : Fr P s s') {c0 p0 c1 p1 n : Nat} (hp : ∀ i, p1 ≤ i → i < p1 + n → P c1 i) : Fr P s (scp s' c0 p0 c1 p1 n) := fun d j m => by
  rw [gi_scp, gl_scp, if_neg (fun q => m (by rw [q.1]; exact hp j q.2.1 q.2.2))]
  exact h d j m
theorem xTn_fr {P : Nat → Nat → Prop} {σ σ' : xM} {T : xTw} (h : xTn σ T) (f : Fr P σ σ') (hp : ∀ c i, P c i → xoff c i) : xTn σ' T := fun c i hv => by
  rw [(f _ _ (fun q => xl_off hv (hp _ _ q) ⟨rfl, rfl⟩)).1]
  exact h c i hv
theorem mTn_fr {P : Nat → Nat → Prop} {τ τ' : xM} {T : xTw} (h : mTn τ T) (f : Fr P τ τ') (hp : ∀ c i, P c i → ¬ vT c i) : mTn τ' T := fun c i hv => by
  rw [(f _ _ (fun q => hp _ _ q hv)).1]
  exact h c i hv
/-! the class's numbers one by one -/
theorem xT_every {σ : xM} {T : xTw} (h : xTn σ T) : gi σ 1 4 = nI (T 0 2) := h 0 2 (Or.inl ⟨rfl, by omega⟩)
theorem xT_pace {σ : xM} {T : xTw} (h : xTn σ T) : gi σ 1 5 = nI (T 0 3) := h 0 3 (Or.inl ⟨rfl, by omega⟩)
theorem xT_stops {σ : xM} {T : xTw} (h : xTn σ T) : gi σ 1 7 = nI (T 0 4) := h 0 4 (Or.inl ⟨rfl, by omega⟩)
theorem xT_trips {σ : xM} {T : xTw} (h : xTn σ T) : gi σ 1 9 = nI (T 0 12) := h 0 12 (Or.inl ⟨rfl, by omega⟩)
theorem xT_height {σ : xM} {T : xTw} (h : xTn σ T) {i : Nat} (hi : i < 41) : gi σ 2 i = nI (T 1 i) := h 1 i (Or.inr (Or.inl ⟨rfl, hi⟩))
theorem xT_sort {σ : xM} {T : xTw} (h : xTn σ T) {k w : Nat} (hk : k < 3) (hw : w < 6) : gi σ (6 + k) w = nI (T 2 (6 * k + w)) := by
  have g := h 2 (6 * k + w) (Or.inr (Or.inr (Or.inl ⟨rfl, by omega⟩)))
  have e1 : xlc 2 (6 * k + w) = 6 + k := by
    show 6 + (6 * k + w) / 6 = 6 + k
    omega
  have e2 : xlp 2 (6 * k + w) = w := by
    show (6 * k + w) % 6 = w
    omega
  rw [e1, e2] at g
  exact g
theorem xT_kind {σ : xM} {T : xTw} (h : xTn σ T) {i : Nat} (hi : i < 8) : gi σ (11 + i) 0 = nI (T 3 i) := h 3 i (Or.inr (Or.inr (Or.inr ⟨by omega, by omega, hi⟩)))
theorem xT_cell {σ : xM} {T : xTw} (h : xTn σ T) {i : Nat} (hi : i < 8) : gi σ (11 + i) 2 = nI (T 4 i) := h 4 i (Or.inr (Or.inr (Or.inr ⟨by omega, by omega, hi⟩)))
theorem xT_takes {σ : xM} {T : xTw} (h : xTn σ T) {i : Nat} (hi : i < 8) : gi σ (11 + i) 3 = nI (T 5 i) := h 5 i (Or.inr (Or.inr (Or.inr ⟨by omega, by omega, hi⟩)))
theorem xT_more {σ : xM} {T : xTw} (h : xTn σ T) {i : Nat} (hi : i < 8) : gi σ (11 + i) 4 = nI (T 6 i) := h 6 i (Or.inr (Or.inr (Or.inr ⟨by omega, by omega, hi⟩)))
theorem xT_open {σ : xM} {T : xTw} (h : xTn σ T) {i : Nat} (hi : i < 8) : gi σ (11 + i) 5 = nI (T 7 i) := h 7 i (Or.inr (Or.inr (Or.inr ⟨by omega, by omega, hi⟩)))
theorem xT_wanted {σ : xM} {T : xTw} (h : xTn σ T) {i : Nat} (hi : i < 8) : gi σ (11 + i) 6 = nI (T 8 i) := h 8 i (Or.inr (Or.inr (Or.inr ⟨by omega, by omega, hi⟩)))
theorem xT_pattern {σ : xM} {T : xTw} (h : xTn σ T) {i : Nat} (hi : i < 8) : gi σ (11 + i) 7 = nI (T 9 i) := h 9 i (Or.inr (Or.inr (Or.inr ⟨by omega, by omega, hi⟩)))
theorem xT_from {σ : xM} {T : xTw} (h : xTn σ T) {i : Nat} (hi : i < 8) : gi σ (19 + i) 0 = nI (T 10 i) := h 10 i (Or.inr (Or.inr (Or.inr ⟨by omega, by omega, hi⟩)))
theorem xT_to {σ : xM} {T : xTw} (h : xTn σ T) {i : Nat} (hi : i < 8) : gi σ (19 + i) 1 = nI (T 11 i) := h 11 i (Or.inr (Or.inr (Or.inr ⟨by omega, by omega, hi⟩)))
theorem xT_many {σ : xM} {T : xTw} (h : xTn σ T) {i : Nat} (hi : i < 8) : gi σ (19 + i) 2 = nI (T 12 i) := h 12 i (Or.inr (Or.inr (Or.inr ⟨by omega, by omega, hi⟩)))
theorem xT_tsort {σ : xM} {T : xTw} (h : xTn σ T) {i : Nat} (hi : i < 8) : gi σ (19 + i) 3 = nI (T 13 i) := h 13 i (Or.inr (Or.inr (Or.inr ⟨by omega, by omega, hi⟩)))
theorem vt0 {i : Nat} (h : i = 2 ∨ i = 3 ∨ i = 4 ∨ i = 12) : vT 0 i := Or.inl ⟨rfl, h⟩
theorem vt1 {i : Nat} (h : i < 41) : vT 1 i := Or.inr (Or.inl ⟨rfl, h⟩)
theorem vt2 {i : Nat} (h : i < 18) : vT 2 i := Or.inr (Or.inr (Or.inl ⟨rfl, h⟩))
theorem vt3 {c i : Nat} (h1 : 3 ≤ c) (h2 : c ≤ 13) (h : i < 8) : vT c i := Or.inr (Or.inr (Or.inr ⟨h1, h2, h⟩))
/-! ranges one by one -/
theorem rg_every {T : xTw} (h : rgT T) : T 0 2 ≤ 3600 := h.1 0 2 (vt0 (by omega))
theorem rg_pace {T : xTw} (h : rgT T) : T 0 3 ≤ 60 := h.1 0 3 (vt0 (by omega))
theorem rg_stops {T : xTw} (h : rgT T) : T 0 4 ≤ 8 := h.1 0 4 (vt0 (by omega))
theorem rg_trips {T : xTw} (h : rgT T) : T 0 12 ≤ 8 := h.1 0 12 (vt0 (by omega))
theorem rg_height {T : xTw} (h : rgT T) {i : Nat} (hi : i < 41) : T 1 i ≤ 9 := h.1 1 i (vt1 hi)
theorem rg_kind {T : xTw} (h : rgT T) {i : Nat} (hi : i < 8) : T 3 i ≤ 5 := h.1 3 i (vt3 (by omega) (by omega) hi)
theorem rg_cell {T : xTw} (h : rgT T) {i : Nat} (hi : i < 8) : T 4 i ≤ 40 := h.1 4 i (vt3 (by omega) (by omega) hi)
theorem rg_takes {T : xTw} (h : rgT T) {i : Nat} (hi : i < 8) : T 5 i ≤ 99 := h.1 5 i (vt3 (by omega) (by omega) hi)
theorem rg_more {T : xTw} (h : rgT T) {i : Nat} (hi : i < 8) : T 6 i ≤ 60 := h.1 6 i (vt3 (by omega) (by omega) hi)
theorem rg_open {T : xTw} (h : rgT T) {i : Nat} (hi : i < 8) : T 7 i ≤ 1 := h.1 7 i (vt3 (by omega) (by omega) hi)
theorem rg_wanted {T : xTw} (h : rgT T) {i : Nat} (hi : i < 8) : T 8 i ≤ 10 := h.1 8 i (vt3 (by omega) (by omega) hi)
theorem rg_pattern {T : xTw} (h : rgT T) {i : Nat} (hi : i < 8) : T 9 i ≤ 2 := h.1 9 i (vt3 (by omega) (by omega) hi)
theorem rg_from {T : xTw} (h : rgT T) {i : Nat} (hi : i < 8) : T 10 i ≤ 40 := h.1 10 i (vt3 (by omega) (by omega) hi)
theorem rg_to {T : xTw} (h : rgT T) {i : Nat} (hi : i < 8) : T 11 i ≤ 40 := h.1 11 i (vt3 (by omega) (by omega) hi)
theorem rg_many {T : xTw} (h : rgT T) {i : Nat} (hi : i < 8) : T 12 i ≤ 99 := h.1 12 i (vt3 (by omega) (by omega) hi)
theorem rg_tsort {T : xTw} (h : rgT T) {i : Nat} (hi : i < 8) : T 13 i ≤ 2 := h.1 13 i (vt3 (by omega) (by omega) hi)
theorem rg_sort {T : xTw} (h : rgT T) {k w : Nat} (hk : k < 3) (hw : w < 6) : T 2 (6 * k + w) ≤ (if w < 2 then 60 else if w = 5 then 9999 else 9) := by
  have g := h.1 2 (6 * k + w) (vt2 (by omega))
  have e : hiT 2 (6 * k + w) = (if (6 * k + w) % 6 < 2 then 60 else if (6 * k + w) % 6 = 5 then 9999 else 9) := rfl
  rw [e, show (6 * k + w) % 6 = w by omega] at g
  exact g
theorem rgT_up {T : xTw} (h : rgT T) {c i n : Nat} (hn : n ≤ hiT c i) (h0 : c = 0 → i = 2 → 1 ≤ n) : rgT (up T c i n) := by
  refine ⟨fun d j hv => ?_, ?_⟩
  · by_cases e : d = c ∧ j = i
    · rw [e.1, e.2, up_same]
      exact hn
    · rw [up_ne e]
      exact h.1 d j hv
  · by_cases e : 0 = c ∧ 2 = i
    · rw [← e.1, ← e.2, up_same]
      exact h0 e.1.symm e.2.symm
    · rw [up_ne e]
      exact h.2
