/-! ===== literals, small facts of Int32 ===== -/
theorem q0 : (0 : Int32) = nI 0 := rfl
theorem q1 : (1 : Int32) = nI 1 := rfl
theorem q2 : (2 : Int32) = nI 2 := rfl
theorem q3 : (3 : Int32) = nI 3 := rfl
theorem q5 : (5 : Int32) = nI 5 := rfl
theorem q6 : (6 : Int32) = nI 6 := rfl
theorem q8 : (8 : Int32) = nI 8 := rfl
theorem q41 : (41 : Int32) = nI 41 := rfl
theorem pos_sub {a b : Nat} (ha : a < 2 ^ 30) (hb : b < 2 ^ 30) : (if (0 : Int32) < nI a - nI b then nI a - nI b else 0) = nI (a - b) := by
  by_cases h : b < a
  · rw [pk_sub (by omega), if_pos (show (0 : Int32) < nI (a - b) from nI_lt (a := 0) (by omega) (by omega))]
  · have e : a - b = 0 := by omega
    rw [e, if_neg]
    · rfl
    · rw [Int32.lt_iff_toInt_lt, pk_sub_toInt ha hb, show (0 : Int32).toInt = 0 from rfl]
      omega
theorem neg_swap (a b : Nat) : -(nI a - nI b) = nI b - nI a := by
  rw [Int32.neg_sub]
theorem abs_sub {a b : Nat} (ha : a < 2 ^ 30) (hb : b < 2 ^ 30) : (if (0 : Int32) ≤ nI a - nI b then nI a - nI b else 0 - (nI a - nI b)) = nI (if b ≤ a then a - b else b - a) := by
  by_cases h : b ≤ a
  · rw [if_pos h, pk_sub h, if_pos (nI_pos' (by omega))]
  · rw [if_neg h, if_neg, Int32.zero_sub, neg_swap, pk_sub (by omega)]
    rw [Int32.le_iff_toInt_le, pk_sub_toInt ha hb, show (0 : Int32).toInt = 0 from rfl]
    omega
/-! ===== steps up on the way out, and on the way home ===== -/
def ups (T : xTw) : Nat → Nat
  | 0 => 0
  | c + 1 => ups T c + (T 1 (c + 1) - T 1 c)
def dns (T : xTw) : Nat → Nat
  | 0 => 0
  | c + 1 => dns T c + (T 1 c - T 1 (c + 1))
theorem ups_le {T : xTw} (hR : rgT T) : ∀ c, c < 41 → ups T c ≤ 9 * c
  | 0, _ => Nat.le_refl _
  | c + 1, h => by
    have h1 := ups_le hR c (by omega)
    have h2 := rg_height hR h
    show ups T c + (T 1 (c + 1) - T 1 c) ≤ 9 * (c + 1)
    omega
theorem dns_le {T : xTw} (hR : rgT T) : ∀ c, c < 41 → dns T c ≤ 9 * c
  | 0, _ => Nat.le_refl _
  | c + 1, h => by
    have h1 := dns_le hR c (by omega)
    have h2 := rg_height hR (i := c) (by omega)
    show dns T c + (T 1 c - T 1 (c + 1)) ≤ 9 * (c + 1)
    omega
theorem ups_mono (T : xTw) {a b : Nat} (h : a ≤ b) : ups T a ≤ ups T b := by
  induction h with
  | refl => exact Nat.le_refl _
  | step _ ih => exact Nat.le_trans ih (Nat.le_add_right _ _)
theorem dns_mono (T : xTw) {a b : Nat} (h : a ≤ b) : dns T a ≤ dns T b := by
  induction h with
  | refl => exact Nat.le_refl _
  | step _ ih => exact Nat.le_trans ih (Nat.le_add_right _ _)
def xCl (s : xM) (T : xTw) : Prop := ∀ c, c < 41 → gi s 3 c = nI (ups T c) ∧ gi s 4 c = nI (dns T c)
theorem ol_measure {T : xTw} (hR : rgT T) {k : xM → Option (Int32 × xM)} {Q : Int32 → xM → Prop} : ∀ (m i n : Nat) (s : xM), i + m = 41 → 1 ≤ i → m < n → xTn s T → (∀ c, c < i → gi s 3 c = nI (ups T c) ∧ gi s 4 c = nI (dns T c)) → (∀ s', Fr (fun c _ => c = 3 ∨ c = 4) s s' → xCl s' T → Ok (k s') Q) → Ok (fX6_measureClimbs_L2 k n (nI i) s) Q := by
  intro m
  induction m with
  | zero =>
    intro i n s hi h1 hn hT hc kk
    obtain ⟨n, rfl⟩ : ∃ n', n = n' + 1 := ⟨n - 1, by omega⟩
    unfold fX6_measureClimbs_L2
    refine ok_T (show (41 : Int32) ≤ nI i from nI_le (a := 41) (by omega) (by omega)) ?_
    exact kk s Fr_rf (fun c h => hc c (by omega))
  | succ m ih =>
    intro i n s hi h1 hn hT hc kk
    obtain ⟨n, rfl⟩ : ∃ n', n = n' + 1 := ⟨n - 1, by omega⟩
    unfold fX6_measureClimbs_L2
    refine ok_F (show ¬ (41 : Int32) ≤ nI i from nI_ge (b := 41) (by omega) (by omega)) ?_
    have b1 := rg_height hR (i := i) (by omega)
    have b2 := rg_height hR (i := i - 1) (by omega)
    have c1 := hc (i - 1) (by omega)
    have e3 : ups T (i - 1) + (T 1 i - T 1 (i - 1)) = ups T i := by
      obtain ⟨j, rfl⟩ : ∃ j, i = j + 1 := ⟨i - 1, by omega⟩
      rfl
    have e4 : dns T (i - 1) + (T 1 (i - 1) - T 1 i) = dns T i := by
      obtain ⟨j, rfl⟩ : ∃ j, i = j + 1 := ⟨i - 1, by omega⟩
      rfl
    simp (disch := omega) only [ok_gd, ok_lz, q1, pk_sub, nI_add, inb_n, nI_clamp, xT_height hT, pos_sub, neg_swap, c1.1, gi_si, c1.2, e3, e4, true_and]
    have n1 : ¬ (4 = 3 ∧ i - 1 = i) := by omega
    simp (disch := omega) only [if_neg n1, c1.2, nI_add, e4]
    refine ih (i + 1) n _ (by omega) (by omega) (by omega) (xTn_off (xTn_off hT _ (by unfold xoff; omega)) _ (by unfold xoff; omega)) ?_ ?_
    · intro c hc2
      by_cases e : c = i
      · subst e
        constructor
        · rw [gi_si, if_neg (by omega), gi_same]
        · rw [gi_same]
      · have h := hc c (by omega)
        rw [gi_si, gi_si, if_neg (by omega), if_neg (by omega), gi_si, gi_si, if_neg (by omega), if_neg (by omega)]
        exact h
    · intro s' f hcl
      exact kk s' (Fr_tr (Fr_si (Fr_si Fr_rf _ (Or.inl rfl)) _ (Or.inr rfl)) f) hcl
theorem of_measureClimbs {T : xTw} (hR : rgT T) {s : xM} {Q : Int32 → xM → Prop} (hT : xTn s T) (h3 : gi s 3 0 = 0) (h4 : gi s 4 0 = 0) (kk : ∀ s', Fr (fun c _ => c = 3 ∨ c = 4) s s' → xCl s' T → Q 0 s') : Ok (fX6_measureClimbs s) Q := by
  obtain ⟨n, hn⟩ := fu_big
  unfold fX6_measureClimbs
  rw [hn]
  refine ol_measure hR 40 1 _ s (by omega) (by omega) (by omega) hT ?_ (fun s' f h => ok_R (kk s' f h))
  intro c hc
  have : c = 0 := by omega
  subst this
  exact ⟨h3, h4⟩
