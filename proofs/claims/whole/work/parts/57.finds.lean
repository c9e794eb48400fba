/-! ===== the best way of a trip, as the model finds it ===== -/
def oneS (T : xTw) (p q c : Nat) : Nat := if stpS T p c = 1 ∧ stpS T q c = 1 then 1 else 0
theorem oneS_le (T : xTw) (p q c : Nat) : oneS T p q c ≤ 1 := by
  unfold oneS
  split <;> omega
def rideS (T : xTw) (p q : Nat) : Nat := if oneS T p q 0 = 1 ∧ oneS T p q 1 = 1 then (rdS T p q 0 + rdS T p q 1) / 2 else if oneS T p q 0 = 1 then rdS T p q 0 else rdS T p q 1
def waitS (T : xTw) (p q : Nat) : Nat := if oneS T p q 0 = 1 ∧ oneS T p q 1 = 1 then T 0 2 / 2 else T 0 2
def wlkS (T : xTw) (t p q : Nat) : Nat := wkS T (T 10 t) (T 4 p) (T 13 t) + wkS T (T 4 q) (T 11 t) (T 13 t)
def cstS (T : xTw) (t p q : Nat) : Nat := wlkS T t p q * T 2 (6 * T 13 t + 2) + waitS T p q * T 2 (6 * T 13 t + 3) + rideS T p q * T 2 (6 * T 13 t + 4)
def dirS (T : xTw) (t : Nat) : Nat := wkS T (T 10 t) (T 11 t) (T 13 t)
abbrev xBs : Type := Nat × Nat × Nat
def stepB (T : xTw) (t p q : Nat) (b : xBs) : xBs := if p ≠ q ∧ (oneS T p q 0 = 1 ∨ oneS T p q 1 = 1) ∧ cstS T t p q < b.1 then (cstS T t p q, p + 1, q + 1) else b
def rowB (T : xTw) (t p : Nat) (b : xBs) : Nat → xBs
  | 0 => b
  | n + 1 => stepB T t p n (rowB T t p b n)
def bstN (T : xTw) (t : Nat) (b : xBs) : Nat → xBs
  | 0 => b
  | n + 1 => rowB T t n (bstN T t b n) (T 0 4)
def bst0 (T : xTw) (t : Nat) : xBs := (dirS T t * T 2 (6 * T 13 t + 2), 0, 0)
def bstS (T : xTw) (t : Nat) : xBs := bstN T t (bst0 T t) (T 0 4)
def wayW (T : xTw) (t : Nat) (b : xBs) : Nat := if b.2.1 = 0 then dirS T t else wlkS T t (b.2.1 - 1) (b.2.2 - 1)
def wayA (T : xTw) (b : xBs) : Nat := if b.2.1 = 0 then 0 else waitS T (b.2.1 - 1) (b.2.2 - 1)
def wayR (T : xTw) (b : xBs) : Nat := if b.2.1 = 0 then 0 else rideS T (b.2.1 - 1) (b.2.2 - 1)
theorem wlkS_le {T : xTw} (hR : rgT T) {t p q : Nat} (ht : t < 8) (hp : p < 8) (hq : q < 8) : wlkS T t p q ≤ 48000 := by
  have a := rg_from hR ht
  have b := rg_to hR ht
  have c := rg_cell hR hp
  have d := rg_cell hR hq
  have e := rg_tsort hR ht
  have g1 := wkS_le hR (a := T 10 t) (b := T 4 p) (k := T 13 t) (by omega) (by omega) (by omega)
  have g2 := wkS_le hR (a := T 4 q) (b := T 11 t) (k := T 13 t) (by omega) (by omega) (by omega)
  unfold wlkS
  omega
theorem rideS_le {T : xTw} (hR : rgT T) {p q : Nat} (hp : p < 8) (hq : q < 8) : rideS T p q ≤ 4000 := by
  have a := rdS_le hR hp hq (c := 0)
  have b := rdS_le hR hp hq (c := 1)
  unfold rideS
  repeat' split
  all_goals omega
theorem waitS_le {T : xTw} (hR : rgT T) (p q : Nat) : waitS T p q ≤ 3600 := by
  have a := rg_every hR
  unfold waitS
  split <;> omega
theorem rg_worth {T : xTw} (hR : rgT T) {k w : Nat} (hk : k < 3) (h1 : 2 ≤ w) (h2 : w ≤ 4) : T 2 (6 * k + w) ≤ 9 := by
  have g := rg_sort hR hk (w := w) (by omega)
  rw [if_neg (by omega), if_neg (by omega)] at g
  exact g
theorem cstS_le {T : xTw} (hR : rgT T) {t p q : Nat} (ht : t < 8) (hp : p < 8) (hq : q < 8) : cstS T t p q ≤ 501000 := by
  have e := rg_tsort hR ht
  have g1 : wlkS T t p q * T 2 (6 * T 13 t + 2) ≤ 48000 * 9 := mul_le2 (wlkS_le hR ht hp hq) (rg_worth hR (by omega) (by omega) (by omega))
  have g2 : waitS T p q * T 2 (6 * T 13 t + 3) ≤ 3600 * 9 := mul_le2 (waitS_le hR p q) (rg_worth hR (by omega) (by omega) (by omega))
  have g3 : rideS T p q * T 2 (6 * T 13 t + 4) ≤ 4000 * 9 := mul_le2 (rideS_le hR hp hq) (rg_worth hR (by omega) (by omega) (by omega))
  unfold cstS
  omega
theorem bst0_le {T : xTw} (hR : rgT T) {t : Nat} (ht : t < 8) : (bst0 T t).1 ≤ 501000 := by
  have a := rg_from hR ht
  have b := rg_to hR ht
  have e := rg_tsort hR ht
  have g1 : dirS T t * T 2 (6 * T 13 t + 2) ≤ 24000 * 9 := mul_le2 (wkS_le hR (by omega) (by omega) (by omega)) (rg_worth hR (by omega) (by omega) (by omega))
  show dirS T t * T 2 (6 * T 13 t + 2) ≤ 501000
  omega
/-- what holds of a best so far -/
def okB (b : xBs) : Prop := b.1 ≤ 501000 ∧ ((b.2.1 = 0 ∧ b.2.2 = 0) ∨ (1 ≤ b.2.1 ∧ b.2.1 ≤ 8 ∧ 1 ≤ b.2.2 ∧ b.2.2 ≤ 8))
theorem okB_step {T : xTw} (hR : rgT T) {t p q : Nat} (ht : t < 8) (hp : p < 8) (hq : q < 8) {b : xBs} (h : okB b) : okB (stepB T t p q b) := by
  unfold stepB
  split
  · exact ⟨cstS_le hR ht hp hq, Or.inr ⟨Nat.succ_le_succ (Nat.zero_le _), hp, Nat.succ_le_succ (Nat.zero_le _), hq⟩⟩
  · exact h
theorem okB_row {T : xTw} (hR : rgT T) {t p : Nat} (ht : t < 8) (hp : p < 8) {b : xBs} (h : okB b) : ∀ n, n ≤ 8 → okB (rowB T t p b n)
  | 0, _ => h
  | n + 1, hn => okB_step hR ht hp (by omega) (okB_row hR ht hp h n (by omega))
theorem okB_bst {T : xTw} (hR : rgT T) {t : Nat} (ht : t < 8) : ∀ n, n ≤ 8 → okB (bstN T t (bst0 T t) n)
  | 0, _ => ⟨bst0_le hR ht, Or.inl ⟨rfl, rfl⟩⟩
  | n + 1, hn => okB_row hR ht (by omega) (okB_bst hR ht n (by omega)) _ (rg_stops hR)
theorem okB_S {T : xTw} (hR : rgT T) {t : Nat} (ht : t < 8) : okB (bstS T t) := okB_bst hR ht _ (rg_stops hR)
/-- the model's way is b -/
def wayM (T : xTw) (t : Nat) (b : xBs) (s : xM) : Prop := gi s 0 37 = nI b.1 ∧ gi s 0 38 = nI b.2.1 - 1 ∧ gi s 0 39 = nI b.2.2 - 1 ∧ gi s 0 40 = nI (wayW T t b) ∧ gi s 0 41 = nI (wayA T b) ∧ gi s 0 42 = nI (wayR T b)
def frW (c i : Nat) : Prop := c = 0 ∧ 37 ≤ i ∧ i ≤ 42
theorem frW_off {c i : Nat} (h : frW c i) : ¬ vT c i := by
  unfold frW at h
  unfold vT
  omega
theorem of_tries132 {T : xTw} (hR : rgT T) {s : xM} {Q : Int32 → xM → Prop} (hT : mTn s T) {t p q : Nat} (ht : t < 8) (hp : p < 8) (hq : q < 8) (hpq : p ≠ q) (hcan : oneS T p q 0 = 1 ∨ oneS T p q 1 = 1) {b : xBs} (hb : okB b) (hw : wayM T t b s) (kk : ∀ s', Fr frW s s' → wayM T t (stepB T t p q b) s' → Q 0 s') : Ok (fX10_tries_J132 (nI t) (nI p) (nI q) (nI (rideS T p q)) (nI (waitS T p q)) s) Q := by
  have a := rg_from hR ht
  have b' := rg_to hR ht
  have c := rg_cell hR hp
  have d := rg_cell hR hq
  have e := rg_tsort hR ht
  have e13 := hT 13 t (vt3 (by omega) (by omega) ht)
  have e10 := hT 10 t (vt3 (by omega) (by omega) ht)
  have e11 := hT 11 t (vt3 (by omega) (by omega) ht)
  have e4 := hT 4 p (vt3 (by omega) (by omega) hp)
  have e4' := hT 4 q (vt3 (by omega) (by omega) hq)
  have w2 := mT_sort hT (k := T 13 t) (w := 2) (by omega) (by omega)
  have w3 := mT_sort hT (k := T 13 t) (w := 3) (by omega) (by omega)
  have w4 := mT_sort hT (k := T 13 t) (w := 4) (by omega) (by omega)
  have hc := cstS_le hR ht hp hq
  unfold fX10_tries_J132
  simp (disch := omega) only [ok_gd, ok_lz, ok_bd, inb_n, nI_clamp, e13, e10, e11, e4, e4', true_and]
  refine of_walk hR hT (by omega) (by omega) (by omega) ?_
  simp (disch := omega) only [ok_gd, ok_lz, ok_bd, inb_n, nI_clamp, e13, e10, e11, e4, e4', true_and]
  refine of_walk hR hT (by omega) (by omega) (by omega) ?_
  simp (disch := omega) only [ok_gd, ok_lz, q6, q2, q3, q4, pk_mul, nI_add, inb_n, nI_clamp, w2, w3, w4, true_and]
  have ec : (wkS T (T 10 t) (T 4 p) (T 13 t) + wkS T (T 4 q) (T 11 t) (T 13 t)) * T 2 (6 * T 13 t + 2) + waitS T p q * T 2 (6 * T 13 t + 3) + rideS T p q * T 2 (6 * T 13 t + 4) = cstS T t p q := rfl
  simp only [ec]
  obtain ⟨h1, h2, h3, h4, h5, h6⟩ := hw
  have hb1 := hb.1
  by_cases cc : b.1 ≤ cstS T t p q
  · refine ok_T (by rw [h1]; exact nI_le cc (by omega)) (ok_R ?_)
    refine kk s Fr_rf ?_
    unfold stepB
    rw [if_neg (by omega)]
    exact ⟨h1, h2, h3, h4, h5, h6⟩
  · refine ok_F (by rw [h1]; exact nI_ge (by omega) (by omega)) (ok_R ?_)
    refine kk _ (Fr_si (Fr_si (Fr_si (Fr_si (Fr_si (Fr_si Fr_rf _ ?_) _ ?_) _ ?_) _ ?_) _ ?_) _ ?_) ?_
    · exact ⟨rfl, by omega, by omega⟩
    · exact ⟨rfl, by omega, by omega⟩
    · exact ⟨rfl, by omega, by omega⟩
    · exact ⟨rfl, by omega, by omega⟩
    · exact ⟨rfl, by omega, by omega⟩
    · exact ⟨rfl, by omega, by omega⟩
    · unfold stepB
      rw [if_pos ⟨hpq, hcan, by omega⟩]
      refine ⟨rfl, ?_, ?_, rfl, rfl, rfl⟩
      · show nI p = nI (p + 1) - 1
        rw [nI_pred]
      · show nI q = nI (q + 1) - 1
        rw [nI_pred]
