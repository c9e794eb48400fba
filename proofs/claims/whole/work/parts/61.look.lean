/-! ===== the members of a set ===== -/
def memL (T : xTw) : Nat → List Nat
  | 0 => []
  | n + 1 => if T 7 n = 1 then memL T n ++ [n] else memL T n
theorem memL_len (T : xTw) : ∀ n, (memL T n).length ≤ n
  | 0 => Nat.le_refl _
  | n + 1 => by
    have := memL_len T n
    unfold memL
    split
    · rw [List.length_append]
      show (memL T n).length + 1 ≤ n + 1
      omega
    · omega
theorem memL_lt (T : xTw) : ∀ n p, p ∈ memL T n → p < n ∧ T 7 p = 1
  | 0, p, h => absurd h List.not_mem_nil
  | n + 1, p, h => by
    unfold memL at h
    split at h
    · rcases List.mem_append.mp h with h | h
      · have := memL_lt T n p h
        omega
      · have e : p = n := by simpa using h
        subst e
        exact ⟨Nat.lt_succ_self _, by assumption⟩
    · have := memL_lt T n p h
      omega
/-- the members are laid -/
def memS (σ : xM) (l : List Nat) : Prop := gi σ 27 7 = nI l.length ∧ ∀ i, i < l.length → gi σ 49 i = nI (l.getD i 0)
def frB (c i : Nat) : Prop := (c = 27 ∧ i = 7) ∨ c = 49
theorem ol_look7 {T : xTw} (hR : rgT T) {a1 a2 : Int32} (hb : ∀ p, p < T 0 4 → (a1 &&& ((1 : Int32) <<< (nI p &&& 31)) = 0 ↔ ¬ T 7 p = 1)) {kt : xM → Option (Int32 × xM)} {Q : Int32 → xM → Prop} : ∀ (m p n : Nat) (s : xM), p + m = T 0 4 → m < n → gi s 1 7 = nI (T 0 4) → memS s (memL T p) → (∀ s', Fr frB s s' → memS s' (memL T (T 0 4)) → Ok (kt s') Q) → Ok (fX8_look_L7 kt a1 a2 n (nI p) s) Q := by
  have h8 := rg_stops hR
  intro m
  induction m with
  | zero =>
    intro p n s hp hn hs hm kk
    obtain ⟨n, rfl⟩ : ∃ n', n = n' + 1 := ⟨n - 1, by omega⟩
    have : p = T 0 4 := by omega
    unfold fX8_look_L7
    refine ok_T (by rw [hs]; exact nI_le (by omega) (by omega)) ?_
    rw [this] at hm
    exact kk s Fr_rf hm
  | succ m ih =>
    intro p n s hp hn hs hm kk
    obtain ⟨n, rfl⟩ : ∃ n', n = n' + 1 := ⟨n - 1, by omega⟩
    have hl := memL_len T p
    unfold fX8_look_L7
    refine ok_F (by rw [hs]; exact nI_ge (by omega) (by omega)) ?_
    by_cases c : T 7 p = 1
    · refine ok_F (fun h => (hb p (by omega)).mp h c) ?_
      rw [hm.1]
      simp (disch := omega) only [ok_gd, ok_lz, inb_n, nI_clamp, true_and, nI_1]
      have f1 : Fr frB s (si s 49 (memL T p).length (nI p)) := Fr_si Fr_rf _ (Or.inr rfl)
      have e7 : gi (si s 49 (memL T p).length (nI p)) 27 7 = nI (memL T p).length := hm.1
      rw [e7, nI_1]
      have f2 := Fr_si f1 (c := 27) (i := 7) (nI ((memL T p).length + 1)) (Or.inl ⟨rfl, rfl⟩)
      refine ih (p + 1) n _ (by omega) (by omega) hs ?_ (fun s' f => kk s' (Fr_tr f2 f))
      have el : memL T (p + 1) = memL T p ++ [p] := if_pos c
      rw [el]
      refine ⟨?_, fun i hi => ?_⟩
      · rw [gi_same, List.length_append]
        rfl
      · rw [List.length_append] at hi
        have hi : i < (memL T p).length + 1 := hi
        rw [gi_si, if_neg (by omega), gi_si]
        by_cases e : i = (memL T p).length
        · rw [if_pos ⟨rfl, e⟩, e]
          simp
        · rw [if_neg (by omega), hm.2 i (by omega)]
          rw [List.getD_eq_getElem?_getD, List.getD_eq_getElem?_getD, List.getElem?_append_left (by omega)]
    · refine ok_T ((hb p (by omega)).mpr c) ?_
      rw [nI_1]
      refine ih (p + 1) n s (by omega) (by omega) hs ?_ kk
      have el : memL T (p + 1) = memL T p := if_neg c
      rw [el]
      exact hm
/-! ===== what a look reads of the town itself ===== -/
def vK (c i : Nat) : Prop := (c = 0 ∧ (i = 3 ∨ i = 4 ∨ i = 12)) ∨ (c = 2 ∧ i < 18) ∨ (c = 4 ∧ i < 8) ∨ (10 ≤ c ∧ c ≤ 13 ∧ i < 8)
theorem vK_vT {c i : Nat} (h : vK c i) : vT c i := by
  unfold vK at h
  unfold vT
  omega
def xTk (σ : xM) (T : xTw) : Prop := ∀ c i, vK c i → gi σ (xlc c i) (xlp c i) = nI (T c i)
theorem xTk_of {σ : xM} {T : xTw} (h : xTn σ T) : xTk σ T := fun c i hv => h c i (vK_vT hv)
theorem xTk_cg {σ : xM} {T T' : xTw} (h : xTk σ T) (e : ∀ c i, vK c i → T' c i = T c i) : xTk σ T' := fun c i hv => by
  rw [e c i hv]
  exact h c i hv
theorem xTk_fr {P : Nat → Nat → Prop} {σ σ' : xM} {T : xTw} (h : xTk σ T) (f : Fr P σ σ') (hp : ∀ c i, P c i → xoff c i) : xTk σ' T := fun c i hv => by
  rw [(f _ _ (fun q => xl_off (vK_vT hv) (hp _ _ q) ⟨rfl, rfl⟩)).1]
  exact h c i hv
theorem xK_pace {σ : xM} {T : xTw} (h : xTk σ T) : gi σ 1 5 = nI (T 0 3) := h 0 3 (Or.inl ⟨rfl, by omega⟩)
theorem xK_stops {σ : xM} {T : xTw} (h : xTk σ T) : gi σ 1 7 = nI (T 0 4) := h 0 4 (Or.inl ⟨rfl, by omega⟩)
theorem xK_trips {σ : xM} {T : xTw} (h : xTk σ T) : gi σ 1 9 = nI (T 0 12) := h 0 12 (Or.inl ⟨rfl, by omega⟩)
theorem xK_cell {σ : xM} {T : xTw} (h : xTk σ T) {i : Nat} (hi : i < 8) : gi σ (11 + i) 2 = nI (T 4 i) := h 4 i (Or.inr (Or.inr (Or.inl ⟨rfl, hi⟩)))
theorem xK_many {σ : xM} {T : xTw} (h : xTk σ T) {i : Nat} (hi : i < 8) : gi σ (19 + i) 2 = nI (T 12 i) := h 12 i (Or.inr (Or.inr (Or.inr ⟨by omega, by omega, hi⟩)))
theorem xK_tsort {σ : xM} {T : xTw} (h : xTk σ T) {i : Nat} (hi : i < 8) : gi σ (19 + i) 3 = nI (T 13 i) := h 13 i (Or.inr (Or.inr (Or.inr ⟨by omega, by omega, hi⟩)))
theorem xK_sort {σ : xM} {T : xTw} (h : xTk σ T) {k w : Nat} (hk : k < 3) (hw : w < 6) : gi σ (6 + k) w = nI (T 2 (6 * k + w)) := by
  have g := h 2 (6 * k + w) (Or.inr (Or.inl ⟨rfl, by omega⟩))
  have e1 : xlc 2 (6 * k + w) = 6 + k := by
    show 6 + (6 * k + w) / 6 = 6 + k
    omega
  have e2 : xlp 2 (6 * k + w) = w := by
    show (6 * k + w) % 6 = w
    omega
  rw [e1, e2] at g
  exact g
