/-! ===== kinds of stops ===== -/
theorem q4 : (4 : Int32) = nI 4 := rfl
theorem q7 : (7 : Int32) = nI 7 := rfl
theorem q9 : (9 : Int32) = nI 9 := rfl
theorem q10 : (10 : Int32) = nI 10 := rfl
theorem q40 : (40 : Int32) = nI 40 := rfl
def abv (k : Nat) : Nat := if k = 4 then 2 else if k = 5 then 1 else 0
def xKA (σ : xM) (T : xTw) : Prop := ∀ p, p < 8 → gi σ (11 + p) 1 = nI (abv (T 3 p))
/-- seconds at a stop by tenths -/
def secB (T : xTw) (p w : Nat) : Nat := if T 3 p = 1 then T 5 p * w / 10 else if T 3 p = 2 then T 5 p else if T 3 p = 3 then T 5 p + T 6 p else if T 3 p = 4 then T 5 p / 2 else if T 3 p = 5 then T 5 p * w / 10 + T 6 p else T 5 p
theorem secB_le {T : xTw} (hR : rgT T) {p w : Nat} (hp : p < 8) (hw : w ≤ 10) : secB T p w ≤ 159 := by
  have a := rg_takes hR hp
  have b := rg_more hR hp
  have c : T 5 p * w ≤ 99 * 10 := mul_le2 a hw
  unfold secB
  repeat' split
  all_goals omega
theorem e_secondsIf {T : xTw} (hR : rgT T) {s : xM} (hT : xTn s T) {p w : Nat} (hp : p < 8) (hw : w ≤ 10) : fX3_secondsIf p (nI w) s = some (nI (secB T p w), s) := by
  have a := rg_takes hR hp
  have b := rg_more hR hp
  have d := rg_kind hR hp
  have c : T 5 p * w ≤ 99 * 10 := mul_le2 a hw
  unfold fX3_secondsIf secB
  simp (disch := omega) only [xT_kind hT hp, xT_takes hT hp, xT_more hT hp, q1, q2, q3, q4, q5, q10, nI_eq, pk_mul, pk_div, nI_add]
  repeat' split
  all_goals first | rfl | omega
theorem e_secondsBy {T : xTw} (hR : rgT T) {s : xM} (hT : mTn s T) {p w : Nat} (hp : p < 8) (hw : w ≤ 10) : fX10_secondsBy (nI p) (nI w) s = some (nI (secB T p w), s) := by
  have a := rg_takes hR hp
  have b := rg_more hR hp
  have d := rg_kind hR hp
  have c : T 5 p * w ≤ 99 * 10 := mul_le2 a hw
  have e3 := hT 3 p (vt3 (by omega) (by omega) hp)
  have e5 := hT 5 p (vt3 (by omega) (by omega) hp)
  have e6 := hT 6 p (vt3 (by omega) (by omega) hp)
  unfold fX10_secondsBy secB
  simp (disch := omega) only [inb_n, gd_t, nI_clamp, e3, e5, e6, q1, q2, q3, q4, q5, q10, nI_eq, pk_mul, pk_div, nI_add]
  repeat' split
  all_goals first | rfl | omega
def secS (T : xTw) (p : Nat) : Nat := secB T p (T 8 p)
theorem secS_le {T : xTw} (hR : rgT T) {p : Nat} (hp : p < 8) : secS T p ≤ 159 := secB_le hR hp (rg_wanted hR hp)
theorem e_seconds {T : xTw} (hR : rgT T) {s : xM} (hT : mTn s T) {p : Nat} (hp : p < 8) : fX10_seconds (nI p) s = some (nI (secS T p), s) := by
  have e8 := hT 8 p (vt3 (by omega) (by omega) hp)
  unfold fX10_seconds
  simp (disch := omega) only [inb_n, gd_t, nI_clamp, e8, e_secondsBy hR hT hp (rg_wanted hR hp), bd_some]
  rfl
/-- the cars that serve a stop, and of them those that a pattern lets stop: 1 the first, 2 the second, 3 both -/
def srvS (T : xTw) (p : Nat) : Nat := if T 3 p = 2 then 1 + T 6 p % 2 else if T 3 p = 4 then 2 - T 6 p % 2 else 3
def carP (v pt : Nat) : Nat := if pt = 0 then v else if pt = 1 then v % 2 else v / 2 * 2
def carS (T : xTw) (p : Nat) : Nat := carP (srvS T p) (T 9 p)
theorem srvS_le (T : xTw) (p : Nat) : 1 ≤ srvS T p ∧ srvS T p ≤ 3 := by
  unfold srvS
  repeat' split
  all_goals omega
theorem carP_le {v pt : Nat} (h : v ≤ 3) : carP v pt ≤ 3 := by
  unfold carP
  repeat' split
  all_goals omega
theorem carS_le (T : xTw) (p : Nat) : carS T p ≤ 3 := carP_le (srvS_le T p).2
theorem and_tab : ∀ a, a < 4 → ∀ b, b < 4 → nI a &&& nI b = nI (a &&& b) := by decide +kernel
theorem carP_tab : ∀ a, a < 4 → ∀ b, b < 3 → (if b = 0 then a &&& 3 else a &&& b) = carP a b := by decide +kernel
theorem e_isOf {T : xTw} {s : xM} (hR : rgT T) (hT : xTn s T) (hA : xKA s T) {p k : Nat} (hp : p < 8) (hk : k < 6) : fX3_isOf p (nI k) s = some (if k = T 3 p ∨ k = abv (T 3 p) ∨ k = 0 then 1 else 0, s) := by
  have d := rg_kind hR hp
  have e := hA p hp
  have f : abv (T 3 p) < 6 := by
    unfold abv
    repeat' split
    all_goals omega
  unfold fX3_isOf
  simp (disch := omega) only [xT_kind hT hp, e, q0, q1, nI_eq]
  by_cases h1 : k = T 3 p
  · rw [if_pos h1, if_pos (Or.inl h1)]
  · rw [if_neg h1]
    by_cases h2 : k = abv (T 3 p)
    · rw [if_pos h2, if_pos (Or.inr (Or.inl h2))]
    · rw [if_neg h2]
      by_cases h3 : k = 0
      · rw [if_pos h3, if_pos (Or.inr (Or.inr h3))]
      · rw [if_neg h3, if_neg (by omega)]
theorem e_carsServed {T : xTw} {s : xM} (hR : rgT T) (hT : xTn s T) (hA : xKA s T) {p : Nat} (hp : p < 8) : fX3_carsServed p s = some (nI (srvS T p), s) := by
  have d := rg_kind hR hp
  have b := rg_more hR hp
  unfold fX3_carsServed fX3_carsServed_J24
  rw [q2, e_isOf hR hT hA hp (by omega), bd_some]
  have hk : (2 = T 3 p ∨ 2 = abv (T 3 p) ∨ 2 = 0) ↔ (T 3 p = 2 ∨ T 3 p = 4) := by
    unfold abv
    repeat' split
    all_goals omega
  simp (disch := omega) only [hk, xT_kind hT hp, xT_more hT hp, pk_rem]
  unfold srvS
  by_cases h2 : T 3 p = 2
  · rw [h2]
    by_cases hm : T 6 p % 2 = 0
    · simp [hm]
      rfl
    · have hm1 : T 6 p % 2 = 1 := by omega
      simp [hm1]
      rw [if_neg (by decide), if_neg (by decide)]
  · by_cases h4 : T 3 p = 4
    · rw [h4]
      by_cases hm : T 6 p % 2 = 0
      · simp [hm]
        rfl
      · have hm1 : T 6 p % 2 = 1 := by omega
        simp [hm1]
        rw [if_neg (by decide), if_pos (by decide)]
        rfl
    · rw [if_pos (show (if T 3 p = 2 ∨ T 3 p = 4 then (1 : Int32) else 0) = 0 from if_neg (by omega)), if_neg h2, if_neg h4]
      rfl
theorem e_carsBy {T : xTw} {s : xM} (hR : rgT T) (hT : xTn s T) (hA : xKA s T) {p pt : Nat} (hp : p < 8) (hpt : pt < 3) : fX3_carsBy p (nI pt) s = some (nI (carP (srvS T p) pt), s) := by
  have d := srvS_le T p
  unfold fX3_carsBy
  rw [e_carsServed hR hT hA hp, bd_some, q0, q3, and_tab _ (by omega) _ (by omega), and_tab _ (by omega) _ (by omega), ← carP_tab _ (by omega) _ hpt]
  by_cases h : pt = 0
  · rw [if_pos h, if_pos (by rw [h])]
  · rw [if_neg h, if_neg (by rw [nI_eq (by omega) (by omega)]; exact h)]
