/-! ===== the best way of a trip, as the class finds it ===== -/
theorem stpS_open {T : xTw} {p c : Nat} (h : ¬ T 7 p = 1) : stpS T p c = 0 := if_neg h
theorem canS_open {T : xTw} {p q : Nat} (h : canS T p q) : T 7 p = 1 ∧ T 7 q = 1 := by
  constructor
  · refine Classical.byContradiction fun n => ?_
    unfold canS oneS at h
    rw [stpS_open n, stpS_open n, if_neg (by omega), if_neg (by omega)] at h
    omega
  · refine Classical.byContradiction fun n => ?_
    unfold canS oneS at h
    rw [stpS_open (p := q) n, stpS_open (p := q) n, if_neg (by omega), if_neg (by omega)] at h
    omega
theorem stepB_no {T : xTw} {t p q : Nat} {b : xBs} (h : ¬ (p ≠ q ∧ canS T p q ∧ cstS T t p q < b.1)) : stepB T t p q b = b := if_neg h
theorem rowB_closed {T : xTw} {t p : Nat} (h : ¬ T 7 p = 1) (b : xBs) : ∀ n, rowB T t p b n = b
  | 0 => rfl
  | n + 1 => by
    show stepB T t p n (rowB T t p b n) = b
    rw [rowB_closed h b n]
    exact stepB_no (fun x => h (canS_open x.2.1).1)
theorem rowB_mem (T : xTw) (t p : Nat) (b : xBs) : ∀ n, rowB T t p b n = (memL T n).foldl (fun b q => stepB T t p q b) b
  | 0 => rfl
  | n + 1 => by
    show stepB T t p n (rowB T t p b n) = _
    rw [rowB_mem T t p b n]
    by_cases c : T 7 n = 1
    · have el : memL T (n + 1) = memL T n ++ [n] := if_pos c
      rw [el, List.foldl_append]
      rfl
    · have el : memL T (n + 1) = memL T n := if_neg c
      rw [el]
      exact stepB_no (fun x => c (canS_open x.2.1).2)
theorem bstN_mem (T : xTw) (t : Nat) (b : xBs) : ∀ n, bstN T t b n = (memL T n).foldl (fun b p => rowB T t p b (T 0 4)) b
  | 0 => rfl
  | n + 1 => by
    show rowB T t n (bstN T t b n) (T 0 4) = _
    rw [bstN_mem T t b n]
    by_cases c : T 7 n = 1
    · have el : memL T (n + 1) = memL T n ++ [n] := if_pos c
      rw [el, List.foldl_append]
      rfl
    · have el : memL T (n + 1) = memL T n := if_neg c
      rw [el]
      exact rowB_closed c _ _
theorem take_step {l : List Nat} {i : Nat} (h : i < l.length) : l.take (i + 1) = l.take i ++ [l.getD i 0] := by
  rw [List.take_succ, List.getD_eq_getElem?_getD, List.getElem?_eq_getElem h]
  rfl
/-- the best so far, as the class has it -/
def bstX (σ : xM) (t : Nat) (b : xBs) : Prop := gi σ 71 t = nI b.1 ∧ gi σ 72 t = nI b.2.1 - 1 ∧ gi σ 73 t = nI b.2.2 - 1
/-- what the best so far may be -/
def okC (T : xTw) (b : xBs) : Prop := b.1 ≤ 501000 ∧ ((b.2.1 = 0 ∧ b.2.2 = 0) ∨ (1 ≤ b.2.1 ∧ b.2.1 ≤ T 0 4 ∧ 1 ≤ b.2.2 ∧ b.2.2 ≤ T 0 4 ∧ b.2.1 ≠ b.2.2 ∧ canS T (b.2.1 - 1) (b.2.2 - 1)))
theorem okC_step {T : xTw} (hR : rgT T) {t p q : Nat} (ht : t < 8) (hp : p < T 0 4) (hq : q < T 0 4) {b : xBs} (h : okC T b) : okC T (stepB T t p q b) := by
  have h8 := rg_stops hR
  unfold stepB
  split
  · rename_i c
    exact ⟨cstS_le hR ht (by omega) (by omega), Or.inr ⟨Nat.succ_le_succ (Nat.zero_le _), hp, Nat.succ_le_succ (Nat.zero_le _), hq, fun e => c.1 (Nat.succ.inj e), c.2.1⟩⟩
  · exact h
theorem okC_row {T : xTw} (hR : rgT T) {t p : Nat} (ht : t < 8) (hp : p < T 0 4) {b : xBs} (h : okC T b) : ∀ n, n ≤ T 0 4 → okC T (rowB T t p b n)
  | 0, _ => h
  | n + 1, hn => okC_step hR ht hp (by omega) (okC_row hR ht hp h n (by omega))
theorem okC_bst {T : xTw} (hR : rgT T) {t : Nat} (ht : t < 8) : ∀ n, n ≤ T 0 4 → okC T (bstN T t (bst0 T t) n)
  | 0, _ => ⟨bst0_le hR ht, Or.inl ⟨rfl, rfl⟩⟩
  | n + 1, hn => okC_row hR ht (by omega) (okC_bst hR ht n (by omega)) _ (Nat.le_refl _)
theorem okC_S {T : xTw} (hR : rgT T) {t : Nat} (ht : t < 8) : okC T (bstS T t) := okC_bst hR ht _ (Nat.le_refl _)
theorem okC_stepl {T : xTw} (hR : rgT T) {t p : Nat} (ht : t < 8) (hp : p < T 0 4) : ∀ (l : List Nat) (b : xBs), (∀ x, x ∈ l → x < T 0 4) → okC T b → okC T (l.foldl (fun b q => stepB T t p q b) b)
  | [], _, _, h => h
  | x :: l, b, hl, h => okC_stepl hR ht hp l _ (fun y hy => hl y (List.mem_cons_of_mem _ hy)) (okC_step hR ht hp (hl x List.mem_cons_self) h)
theorem okC_rowl {T : xTw} (hR : rgT T) {t : Nat} (ht : t < 8) : ∀ (l : List Nat) (b : xBs), (∀ x, x ∈ l → x < T 0 4) → okC T b → okC T (l.foldl (fun b p => rowB T t p b (T 0 4)) b)
  | [], _, _, h => h
  | x :: l, b, hl, h => okC_rowl hR ht l _ (fun y hy => hl y (List.mem_cons_of_mem _ hy)) (okC_row hR ht (hl x List.mem_cons_self) h _ (Nat.le_refl _))
theorem memL_in {T : xTw} {n x : Nat} (h : x ∈ memL T n) : x < n := (memL_lt T n x h).1
theorem memT_in {T : xTw} {n i x : Nat} (h : x ∈ (memL T n).take i) : x < n := memL_in (List.mem_of_mem_take h)
/-- what a trip's search stands on -/
def onB (s : xM) (T : xTw) (t : Nat) : Prop := xTk s T ∧ memS s (memL T (T 0 4)) ∧ gi s 30 t = nI (dirS T t) ∧ mes3 s T t (T 0 4) ∧ (∀ p q, p < T 0 4 → q < T 0 4 → p ≠ q → T 7 p = 1 → T 7 q = 1 → good s T p q)
def frC (t c i : Nat) : Prop := 71 ≤ c ∧ c ≤ 73 ∧ i = t
theorem onB_fr {s s' : xM} {T : xTw} {t u : Nat} (h : onB s T t) (f : Fr (frC u) s s') (ht : t < 8) (h8 : T 0 4 ≤ 8) : onB s' T t := by
  refine ⟨xTk_fr h.1 f (fun c i q => ?_), ⟨?_, fun i hi => ?_⟩, ?_, fun p hp => ?_, fun p q hp hq hpq op oq => ?_⟩
  · unfold frC at q
    unfold xoff
    omega
  · rw [(f 27 7 (by unfold frC; omega)).1]
    exact h.2.1.1
  · rw [(f 49 i (by unfold frC; omega)).1]
    exact h.2.1.2 i hi
  · rw [(f 30 t (by unfold frC; omega)).1]
    exact h.2.2.1
  · rw [(f (32 + t) p (by unfold frC; omega)).1, (f (41 + t) p (by unfold frC; omega)).1]
    exact h.2.2.2.1 p hp
  · have g := h.2.2.2.2 p q hp hq hpq op oq
    unfold good
    rw [(f (54 + p) q (by unfold frC; omega)).1, (f (63 + p) q (by unfold frC; omega)).1]
    exact g
