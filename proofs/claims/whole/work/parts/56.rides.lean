/-! ===== riding, as the model has it ===== -/
def sumN (f : Nat → Nat) : Nat → Nat
  | 0 => 0
  | n + 1 => sumN f n + f n
theorem sumN_le {f : Nat → Nat} {b : Nat} : ∀ n, (∀ i, i < n → f i ≤ b) → sumN f n ≤ n * b
  | 0, _ => by simp [sumN]
  | n + 1, h => by
    have h1 := sumN_le n (fun i hi => h i (by omega))
    have h2 := h n (by omega)
    show sumN f n + f n ≤ (n + 1) * b
    rw [Nat.add_mul, Nat.one_mul]
    omega
theorem sumN_congr {f g : Nat → Nat} : ∀ n, (∀ i, i < n → f i = g i) → sumN f n = sumN g n
  | 0, _ => rfl
  | n + 1, h => by
    show sumN f n + f n = sumN g n + g n
    rw [sumN_congr n (fun i hi => h i (by omega)), h n (by omega)]
def loS (T : xTw) (p q : Nat) : Nat := if T 4 p < T 4 q then T 4 p else T 4 q
def hgS (T : xTw) (p q : Nat) : Nat := if T 4 p < T 4 q then T 4 q else T 4 p
theorem loS_hgS (T : xTw) (p q : Nat) : loS T p q ≤ hgS T p q := by
  unfold loS hgS
  split <;> omega
theorem hgS_le {T : xTw} (hR : rgT T) {p q : Nat} (hp : p < 8) (hq : q < 8) : hgS T p q ≤ 40 := by
  have a := rg_cell hR hp
  have b := rg_cell hR hq
  unfold hgS
  split <;> omega
def rdT (T : xTw) (p q c o : Nat) : Nat := if loS T p q < T 4 o ∧ T 4 o < hgS T p q ∧ stpS T o c = 1 then secS T o else 0
def rdS (T : xTw) (p q c : Nat) : Nat := T 0 3 * (hgS T p q - loS T p q) + sumN (rdT T p q c) (T 0 4)
theorem rdT_le {T : xTw} (hR : rgT T) {p q c o : Nat} (ho : o < 8) : rdT T p q c o ≤ 159 := by
  have := secS_le hR ho
  unfold rdT
  split <;> omega
theorem rdS_le {T : xTw} (hR : rgT T) {p q c : Nat} (hp : p < 8) (hq : q < 8) : rdS T p q c ≤ 4000 := by
  have a := rg_stops hR
  have b := sumN_le (f := rdT T p q c) (b := 159) (T 0 4) (fun i hi => rdT_le hR (by omega))
  have d := hgS_le hR hp hq
  have e : T 0 3 * (hgS T p q - loS T p q) ≤ 60 * 40 := mul_le2 (rg_pace hR) (by omega)
  have f : T 0 4 * 159 ≤ 8 * 159 := mul_le2 a (Nat.le_refl _)
  unfold rdS
  omega
theorem e_isBetween {T : xTw} (hR : rgT T) {s : xM} (hT : mTn s T) {x p q : Nat} (hx : x < 100) (hp : p < 8) (hq : q < 8) : fX10_isBetween (nI x) (nI p) (nI q) s = some (nI (if loS T p q < x ∧ x < hgS T p q then 1 else 0), s) := by
  have a := rg_cell hR hp
  have b := rg_cell hR hq
  have e1 := hT 4 p (vt3 (by omega) (by omega) hp)
  have e2 := hT 4 q (vt3 (by omega) (by omega) hq)
  unfold fX10_isBetween fX10_isBetween_J31 fX10_isBetween_J65 loS hgS
  simp (disch := omega) only [inb_n, gd_t, nI_clamp, e1, e2, nI_leI, q0, q1]
  repeat' split
  all_goals first | rfl | omega
theorem ol_rides {T : xTw} (hR : rgT T) {s : xM} (hT : mTn s T) {p q c : Nat} (hp : p < 8) (hq : q < 8) (hc : c < 2) {kt : Int32 → xM → Option (Int32 × xM)} (x : Nat) : ∀ (m i n : Nat), i + m = T 0 4 → m < n → fX10_rides_L54 kt (nI p) (nI q) (nI c) n (nI (x + sumN (rdT T p q c) i)) (nI i) s = kt (nI (x + sumN (rdT T p q c) (T 0 4))) s := by
  have h8 := rg_stops hR
  have e4 := hT 0 4 (vt0 (by omega))
  intro m
  induction m with
  | zero =>
    intro i n hi hn
    obtain ⟨n, rfl⟩ : ∃ n', n = n' + 1 := ⟨n - 1, by omega⟩
    have : i = T 0 4 := by omega
    unfold fX10_rides_L54
    rw [e4, if_pos (nI_le (by omega) (by omega)), this]
  | succ m ih =>
    intro i n hi hn
    obtain ⟨n, rfl⟩ : ∃ n', n = n' + 1 := ⟨n - 1, by omega⟩
    have hi8 : i < 8 := by omega
    have e5 := hT 4 i (vt3 (by omega) (by omega) hi8)
    have b5 := rg_cell hR hi8
    have g := ih (i + 1) n (by omega) (by omega)
    have gs : sumN (rdT T p q c) (i + 1) = sumN (rdT T p q c) i + rdT T p q c i := rfl
    rw [gs] at g
    have b6 := stpS_le T i c
    unfold fX10_rides_L54
    rw [e4, if_neg (nI_ge (by omega) (by omega))]
    simp (disch := omega) only [inb_n, gd_t, nI_clamp, e5, e_isBetween hR hT, bd_some, lz, e_doesStop hR hT hi8 hc, e_seconds hR hT hi8, q0, q1, nI_add, nI_eq, Nat.add_zero]
    by_cases c1 : loS T p q < T 4 i ∧ T 4 i < hgS T p q
    · rw [if_pos c1, if_neg (show ¬ nI 1 = nI 0 by decide)]
      by_cases c2 : stpS T i c = 1
      · rw [if_neg (show ¬ stpS T i c = 0 by omega)]
        rw [show rdT T p q c i = secS T i from if_pos ⟨c1.1, c1.2, c2⟩, ← Nat.add_assoc] at g
        exact g
      · rw [if_pos (show stpS T i c = 0 by omega)]
        rw [show rdT T p q c i = 0 from if_neg (fun h => c2 h.2.2), Nat.add_zero] at g
        exact g
    · rw [if_neg c1, if_pos rfl]
      rw [show rdT T p q c i = 0 from if_neg (fun h => c1 ⟨h.1, h.2.1⟩), Nat.add_zero] at g
      exact g
theorem e_rides {T : xTw} (hR : rgT T) {s : xM} (hT : mTn s T) {p q c : Nat} (hp : p < 8) (hq : q < 8) (hc : c < 2) : fX10_rides (nI p) (nI q) (nI c) s = some (nI (rdS T p q c), s) := by
  have a := rg_cell hR hp
  have b := rg_cell hR hq
  have h8 := rg_stops hR
  have e1 := hT 4 p (vt3 (by omega) (by omega) hp)
  have e2 := hT 4 q (vt3 (by omega) (by omega) hq)
  have e3 := hT 0 3 (vt0 (by omega))
  obtain ⟨n, hn⟩ := fu_big
  have J : ∀ d, d = hgS T p q - loS T p q → fX10_rides_J48 (nI p) (nI q) (nI c) (nI d) (nI (T 0 3)) s = some (nI (rdS T p q c), s) := by
    intro d hd
    unfold fX10_rides_J48
    have g := ol_rides hR hT hp hq hc (kt := fun x3 s4 => some (x3, s4)) (T 0 3 * d) (T 0 4) 0 (n + 4000) (by omega) (by omega)
    rw [hn, pk_mul, q0]
    simp only [lz]
    rw [hd] at g ⊢
    exact g
  unfold fX10_rides
  simp (disch := omega) only [inb_n, gd_t, nI_clamp, e1, e2, e3, nI_leI]
  by_cases h : T 4 q ≤ T 4 p
  · rw [if_pos h, pk_sub h]
    refine J _ ?_
    unfold hgS loS
    rw [if_neg (by omega), if_neg (by omega)]
  · rw [if_neg h, pk_sub (by omega)]
    refine J _ ?_
    unfold hgS loS
    rw [if_pos (by omega), if_pos (by omega)]
