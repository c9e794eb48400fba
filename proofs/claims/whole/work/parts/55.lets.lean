/-! ===== who lets a car stop ===== -/
/-- car c (0, 1) is let by v (1 the first, 2 the second, 3 both) -/
def bitS (v c : Nat) : Nat := v / (c + 1) % 2
theorem bitS_le (v c : Nat) : bitS v c ≤ 1 := by
  unfold bitS
  omega
theorem lets_tab : ∀ v, v < 4 → ∀ c, c < 2 → ∀ g, g < 3 → bitS (carP v g) c = (if bitS v c = 1 ∧ (g = 0 ∨ g = c + 1) then 1 else 0) := by decide +kernel
theorem e_lets {T : xTw} (hR : rgT T) {s : xM} (hT : mTn s T) {p c : Nat} (hp : p < 8) (hc : c < 2) : fX10_lets (nI p) (nI c) s = some (nI (bitS (carS T p) c), s) := by
  have a := rg_pattern hR hp
  have b := rg_more hR hp
  have d := rg_kind hR hp
  have e3 := hT 3 p (vt3 (by omega) (by omega) hp)
  have e6 := hT 6 p (vt3 (by omega) (by omega) hp)
  have e9 := hT 9 p (vt3 (by omega) (by omega) hp)
  have w := srvS_le T p
  unfold carS
  rw [lets_tab _ (by omega) _ hc _ (by omega)]
  have J : ∀ t, t < 2 → fX10_lets_J57 (nI p) (nI c) (nI t) s = some (nI (if t = 1 ∧ (T 9 p = 0 ∨ T 9 p = c + 1) then 1 else 0), s) := by
    intro t ht
    unfold fX10_lets_J57
    simp (disch := omega) only [inb_n, gd_t, nI_clamp, e9, q0, q1, nI_add, nI_eq]
    repeat' split
    all_goals first | rfl | omega
  have J0 := J 0 (by omega)
  have J1 := J 1 (by omega)
  unfold fX10_lets fX10_lets_J52
  simp (disch := omega) only [inb_n, gd_t, nI_clamp, e3, e6, q0, q1, q2, q4, nI_eq, pk_rem, J0, J1]
  unfold srvS bitS
  by_cases h2 : T 3 p = 2
  · rw [if_pos h2, if_pos h2]
    by_cases hm : c = T 6 p % 2
    · (rw [if_pos hm, show (1 + T 6 p % 2) / (c + 1) % 2 = 1 by (have : T 6 p % 2 < 2 := Nat.mod_lt _ (by omega)); rw [← hm]; (match c, hc with | 0, _ => rfl | 1, _ => rfl | c + 2, h => exact absurd h (by omega))]) <;> simp
    · (rw [if_neg hm, show (1 + T 6 p % 2) / (c + 1) % 2 = 0 by (have : T 6 p % 2 = 1 - c := by omega); rw [this]; (match c, hc with | 0, _ => rfl | 1, _ => rfl | c + 2, h => exact absurd h (by omega))]) <;> simp
  · rw [if_neg h2, if_neg h2]
    by_cases h4 : T 3 p = 4
    · rw [if_pos h4, if_pos h4]
      by_cases hm : c = T 6 p % 2
      · (rw [if_pos hm, show (2 - T 6 p % 2) / (c + 1) % 2 = 0 by rw [← hm]; (match c, hc with | 0, _ => rfl | 1, _ => rfl | c + 2, h => exact absurd h (by omega))]) <;> simp
      · (rw [if_neg hm, show (2 - T 6 p % 2) / (c + 1) % 2 = 1 by (have : T 6 p % 2 = 1 - c := by omega); rw [this]; (match c, hc with | 0, _ => rfl | 1, _ => rfl | c + 2, h => exact absurd h (by omega))]) <;> simp
    · rw [if_neg h4, if_neg h4]
      (rw [show 3 / (c + 1) % 2 = 1 by (match c, hc with | 0, _ => rfl | 1, _ => rfl | c + 2, h => exact absurd h (by omega))]) <;> simp
/-- a car stops there: open, and lets it -/
def stpS (T : xTw) (p c : Nat) : Nat := if T 7 p = 1 then bitS (carS T p) c else 0
theorem stpS_le (T : xTw) (p c : Nat) : stpS T p c ≤ 1 := by
  unfold stpS
  split
  · exact bitS_le _ _
  · omega
theorem e_doesStop {T : xTw} (hR : rgT T) {s : xM} (hT : mTn s T) {p c : Nat} (hp : p < 8) (hc : c < 2) : fX10_doesStop (nI p) (nI c) s = some (nI (stpS T p c), s) := by
  have a := rg_open hR hp
  have e7 := hT 7 p (vt3 (by omega) (by omega) hp)
  have b := bitS_le (carS T p) c
  unfold fX10_doesStop stpS
  simp (disch := omega) only [inb_n, gd_t, nI_clamp, e7, q0, q1, nI_eq, e_lets hR hT hp hc, bd_some]
  repeat' split
  all_goals first | rfl | omega | skip
  · rename_i h
    rw [h]
  · rename_i h
    rw [show bitS (carS T p) c = 1 by omega]
