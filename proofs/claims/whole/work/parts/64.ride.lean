/-! ===== riding, as the class has it ===== -/
theorem stdS_mid (T : xTw) (c p q : Nat) (h : loS T p q < hgS T p q) : stdS T c (hgS T p q) = stdS T c (loS T p q + 1) + sumN (rdT T p q c) (T 0 4) := by
  unfold stdS
  rw [← sumN_add]
  refine sumN_congr _ (fun o ho => ?_)
  unfold stB rdT stpS
  by_cases h7 : T 7 o = 1
  · rw [if_pos h7, if_pos h7, if_pos h7]
    by_cases hb : bitS (carS T o) c = 1
    · repeat' split
      all_goals omega
    · rw [if_neg (fun x => hb x.2), if_neg (fun x => hb x.2), if_neg (fun x => hb x.2.2)]
  · rw [if_neg h7, if_neg h7, if_neg h7, if_neg (by omega)]
theorem rdS_same {T : xTw} {c p q : Nat} (h : loS T p q = hgS T p q) : rdS T p q c = 0 := by
  unfold rdS
  rw [h, Nat.sub_self, Nat.mul_zero, Nat.zero_add]
  have : sumN (rdT T p q c) (T 0 4) = sumN (fun _ => 0) (T 0 4) := sumN_congr _ (fun o ho => by
    unfold rdT
    rw [if_neg (by omega)])
  rw [this, sumN_zero]
def stdX (σ : xM) (T : xTw) : Prop := ∀ c, c < 2 → ∀ x, x < 42 → gi σ (51 + c) x = nI (stdS T c x)
theorem stdS_le {T : xTw} (hR : rgT T) (c x : Nat) : stdS T c x ≤ 8 * 159 := by
  have h8 := rg_stops hR
  have h := sumN_le (f := fun o => if T 7 o = 1 then stB T c x o else 0) (b := 159) (T 0 4) (fun i hi => by
    have := secS_le hR (p := i) (by omega)
    unfold stB
    repeat' split
    all_goals omega)
  have g : T 0 4 * 159 ≤ 8 * 159 := mul_le2 h8 (Nat.le_refl _)
  unfold stdS
  omega
theorem e_carTime {T : xTw} (hR : rgT T) {s : xM} (hT : xTk s T) (hS : stdX s T) {c p q : Nat} (hc : c < 2) (hp : p < 8) (hq : q < 8) : fX8_carTime (nI c) (nI p) (nI q) s = some (nI (rdS T p q c), s) := by
  have a := rg_cell hR hp
  have b := rg_cell hR hq
  have lh := loS_hgS T p q
  have hh := hgS_le hR hp hq
  have el : (if nI (T 4 q) < nI (T 4 p) then nI (T 4 q) else nI (T 4 p)) = nI (loS T p q) := by
    simp (disch := omega) only [nI_ltI]
    unfold loS
    repeat' split
    all_goals first | rfl | omega | (congr 1; omega)
  have eh : (if nI (T 4 p) < nI (T 4 q) then nI (T 4 q) else nI (T 4 p)) = nI (hgS T p q) := by
    simp (disch := omega) only [nI_ltI]
    unfold hgS
    repeat' split
    all_goals first | rfl | omega
  unfold fX8_carTime
  simp (disch := omega) only [inb_n, gd_t, nI_clamp, xK_cell hT hp, xK_cell hT hq, el, eh, lz, xK_pace hT, nI_1, nI_eq]
  by_cases h : loS T p q = hgS T p q
  · rw [if_pos h, rdS_same h]
    rfl
  · rw [if_neg h, pk_sub lh, pk_mul, hS c hc _ (by omega), hS c hc _ (by omega), nI_add, stdS_mid T c p q (by omega), pk_sub (by omega)]
    congr 3
    unfold rdS
    rw [Nat.mul_comm]
    omega
