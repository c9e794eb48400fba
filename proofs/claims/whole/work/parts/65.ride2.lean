theorem oneS_sym (T : xTw) (p q c : Nat) : oneS T q p c = oneS T p q c := by
  unfold oneS
  repeat' split
  all_goals omega
theorem loS_sym (T : xTw) (p q : Nat) : loS T q p = loS T p q := by
  unfold loS
  repeat' split
  all_goals omega
theorem hgS_sym (T : xTw) (p q : Nat) : hgS T q p = hgS T p q := by
  unfold hgS
  repeat' split
  all_goals omega
theorem rdS_sym (T : xTw) (p q c : Nat) : rdS T q p c = rdS T p q c := by
  unfold rdS
  rw [loS_sym, hgS_sym]
  congr 1
  refine sumN_congr _ (fun o ho => ?_)
  unfold rdT
  rw [loS_sym, hgS_sym]
theorem rideS_sym (T : xTw) (p q : Nat) : rideS T q p = rideS T p q := by
  unfold rideS
  rw [oneS_sym T p q 0, oneS_sym T p q 1, rdS_sym T p q 0, rdS_sym T p q 1]
theorem waitS_sym (T : xTw) (p q : Nat) : waitS T q p = waitS T p q := by
  unfold waitS
  rw [oneS_sym T p q 0, oneS_sym T p q 1]
/-- a car stops at both -/
abbrev canS (T : xTw) (p q : Nat) : Prop := oneS T p q 0 = 1 ∨ oneS T p q 1 = 1
theorem canS_sym {T : xTw} {p q : Nat} : canS T q p ↔ canS T p q := by
  unfold canS
  rw [oneS_sym T p q 0, oneS_sym T p q 1]
/-- what the class keeps of the ride from p to q -/
def good (σ : xM) (T : xTw) (p q : Nat) : Prop := (canS T p q → gi σ (54 + p) q = nI (waitS T p q) ∧ gi σ (63 + p) q = nI (rideS T p q)) ∧ (¬ canS T p q → gi σ (54 + p) q = -1)
theorem and_bits3 : ∀ a, a < 4 → ∀ b, b < 4 → (nI a &&& nI b = nI 3 ↔ (bitS a 0 = 1 ∧ bitS b 0 = 1) ∧ (bitS a 1 = 1 ∧ bitS b 1 = 1)) := by decide +kernel
theorem and_bits0 : ∀ a, a < 4 → ∀ b, b < 4 → (nI a &&& nI b = nI 0 ↔ ¬ (bitS a 0 = 1 ∧ bitS b 0 = 1) ∧ ¬ (bitS a 1 = 1 ∧ bitS b 1 = 1)) := by decide +kernel
theorem and_bits1 : ∀ a, a < 4 → ∀ b, b < 4 → (nI a &&& nI b = nI 1 ↔ (bitS a 0 = 1 ∧ bitS b 0 = 1) ∧ ¬ (bitS a 1 = 1 ∧ bitS b 1 = 1)) := by decide +kernel
theorem oneS_bits {T : xTw} {p q c : Nat} (hp : T 7 p = 1) (hq : T 7 q = 1) : oneS T p q c = 1 ↔ (bitS (carS T p) c = 1 ∧ bitS (carS T q) c = 1) := by
  unfold oneS stpS
  rw [if_pos hp, if_pos hq]
  constructor
  · intro h
    split at h
    · assumption
    · cases h
  · intro h
    rw [if_pos h]
def frR (p q c i : Nat) : Prop := ((c = 54 + p ∨ c = 63 + p) ∧ i = q) ∨ ((c = 54 + q ∨ c = 63 + q) ∧ i = p)
theorem of_ride81 {s : xM} {p q : Nat} {w r : Int32} {Q : Int32 → xM → Prop} (hp : p < 8) (hq : q < 8) (hpq : p ≠ q) (kk : ∀ s', Fr (frR p q) s s' → gi s' (54 + p) q = w → gi s' (54 + q) p = w → gi s' (63 + p) q = r → gi s' (63 + q) p = r → Q 0 s') : Ok (fX8_ride_J81 (nI p) (nI q) w r s) Q := by
  unfold fX8_ride_J81
  simp (disch := omega) only [ok_gd, ok_lz, inb_n, nI_clamp, true_and, ok_some]
  refine kk _ (Fr_si (Fr_si (Fr_si (Fr_si Fr_rf _ ?_) _ ?_) _ ?_) _ ?_) ?_ ?_ ?_ ?_
  · unfold frR; omega
  · unfold frR; omega
  · unfold frR; omega
  · unfold frR; omega
  · rw [gi_si, if_neg (by omega), gi_si, if_neg (by omega), gi_si, if_neg (by omega), gi_same]
  · rw [gi_si, if_neg (by omega), gi_si, if_neg (by omega), gi_same]
  · rw [gi_si, if_neg (by omega), gi_same]
  · rw [gi_same]
theorem of_ride {T : xTw} (hR : rgT T) {s : xM} {Q : Int32 → xM → Prop} (hT : xTk s T) (hS : stdX s T) (h1 : mes1 s T (T 0 4)) {p q ev : Nat} (hev : ev = T 0 2) (hp : p < T 0 4) (hq : q < T 0 4) (hpq : p ≠ q) (op : T 7 p = 1) (oq : T 7 q = 1) (kk : ∀ s', Fr (frR p q) s s' → good s' T p q → good s' T q p → Q 0 s') : Ok (fX8_ride (nI p) (nI q) (nI ev) s) Q := by
  subst hev
  have h8 := rg_stops hR
  have ev := rg_every hR
  have r0 := rdS_le hR (p := p) (q := q) (c := 0) (by omega) (by omega)
  have r1 := rdS_le hR (p := p) (q := q) (c := 1) (by omega) (by omega)
  have cp := carS_le T p
  have cq := carS_le T q
  have b3 := and_bits3 (carS T p) (by omega) (carS T q) (by omega)
  have b0 := and_bits0 (carS T p) (by omega) (carS T q) (by omega)
  have b1 := and_bits1 (carS T p) (by omega) (carS T q) (by omega)
  rw [← oneS_bits op oq, ← oneS_bits op oq] at b3 b0 b1
  have ct : ∀ c, c < 2 → fX8_carTime (nI c) (nI p) (nI q) s = some (nI (rdS T p q c), s) := fun c hc => e_carTime hR hT hS hc (by omega) (by omega)
  have c0 := ct 0 (by omega)
  have c1 := ct 1 (by omega)
  have fin : ∀ s', gi s' (54 + p) q = (if canS T p q then nI (waitS T p q) else -1) → gi s' (54 + q) p = (if canS T p q then nI (waitS T p q) else -1) → (canS T p q → gi s' (63 + p) q = nI (rideS T p q) ∧ gi s' (63 + q) p = nI (rideS T p q)) → good s' T p q ∧ good s' T q p := by
    intro s' a b c
    by_cases h : canS T p q
    · rw [if_pos h] at a b
      have c := c h
      refine ⟨⟨fun _ => ⟨a, c.1⟩, fun n => absurd h n⟩, ⟨fun _ => ?_, fun n => absurd (canS_sym.mpr h) n⟩⟩
      rw [waitS_sym, rideS_sym]
      exact ⟨b, c.2⟩
    · rw [if_neg h] at a b
      exact ⟨⟨fun n => absurd n h, fun _ => a⟩, ⟨fun n => absurd (canS_sym.mp n) h, fun _ => b⟩⟩
  unfold fX8_ride fX8_ride_J74
  rw [show (0 : Int32) = nI 0 from rfl, show (1 : Int32) = nI 1 from rfl, q3, q2]
  simp (disch := omega) only [inb_n, gd_t, nI_clamp, (h1 p hp).1, (h1 q hq).1, lz, c0, c1, bd_some, nI_add, pk_div, b3, b0, b1]
  by_cases o0 : oneS T p q 0 = 1
  · by_cases o1 : oneS T p q 1 = 1
    · rw [if_pos ⟨o0, o1⟩]
      have ew : waitS T p q = T 0 2 / 2 := if_pos ⟨o0, o1⟩
      have er : rideS T p q = (rdS T p q 0 + rdS T p q 1) / 2 := if_pos ⟨o0, o1⟩
      rw [← ew, ← er]
      refine of_ride81 (by omega) (by omega) hpq (fun s' f x1 x2 x3 x4 => ?_)
      have := fin s' (by rw [if_pos (Or.inl o0)]; exact x1) (by rw [if_pos (Or.inl o0)]; exact x2) (fun _ => ⟨x3, x4⟩)
      exact kk s' f this.1 this.2
    · rw [if_neg (by omega), if_neg (by omega), if_pos ⟨o0, o1⟩]
      have ew : waitS T p q = T 0 2 := if_neg (by omega)
      have er : rideS T p q = rdS T p q 0 := by
        unfold rideS
        rw [if_neg (by omega), if_pos o0]
      rw [← ew, ← er]
      refine of_ride81 (by omega) (by omega) hpq (fun s' f x1 x2 x3 x4 => ?_)
      have := fin s' (by rw [if_pos (Or.inl o0)]; exact x1) (by rw [if_pos (Or.inl o0)]; exact x2) (fun _ => ⟨x3, x4⟩)
      exact kk s' f this.1 this.2
  · by_cases o1 : oneS T p q 1 = 1
    · rw [if_neg (by omega), if_neg (by omega), if_neg (by omega)]
      have ew : waitS T p q = T 0 2 := if_neg (by omega)
      have er : rideS T p q = rdS T p q 1 := by
        unfold rideS
        rw [if_neg (by omega), if_neg o0]
      rw [← ew, ← er]
      refine of_ride81 (by omega) (by omega) hpq (fun s' f x1 x2 x3 x4 => ?_)
      have := fin s' (by rw [if_pos (Or.inr o1)]; exact x1) (by rw [if_pos (Or.inr o1)]; exact x2) (fun _ => ⟨x3, x4⟩)
      exact kk s' f this.1 this.2
    · rw [if_neg (by omega), if_pos ⟨o0, o1⟩]
      have nc : ¬ canS T p q := fun h => h.elim o0 o1
      refine of_ride81 (by omega) (by omega) hpq (fun s' f x1 x2 x3 x4 => ?_)
      have := fin s' (by rw [if_neg nc]; exact x1) (by rw [if_neg nc]; exact x2) (fun h => absurd h nc)
      exact kk s' f this.1 this.2
