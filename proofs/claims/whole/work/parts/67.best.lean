/-! ===== the best way of a trip, as the class finds it ===== -/
theorem stpS_open {T : xTw} {p c : Nat} (h : ¬ T 7 p = 1) : stpS T p c = 0 := if_neg h
theorem canS_open {T : xTw} {p q : Nat} (h : canS T p q) : T 7 p = 1 ∧ T 7 q = 1 := by
  constructor
  · refine Classical.byContradiction fun n => ?_
    unfold canS oneS at h
    rw [stpS_open n, stpS_open n, if_neg (by omega), if_neg (by omega)] at h
    omega
  · refine Classical.byContradiction fun n => ?_
    unfold canS oneS at h
    rw [stpS_open (p := q) n, stpS_open (p := q) n, if_neg (by omega), if_neg (by omega)] at h
    omega
theorem stepB_no {T : xTw} {t p q : Nat} {b : xBs} (h : ¬ (p ≠ q ∧ canS T p q ∧ cstS T t p q < b.1)) : stepB T t p q b = b := if_neg h
theorem rowB_closed {T : xTw} {t p : Nat} (h : ¬ T 7 p = 1) (b : xBs) : ∀ n, rowB T t p b n = b
  | 0 => rfl
  | n + 1 => by
    show stepB T t p n (rowB T t p b n) = b
    rw [rowB_closed h b n]
    exact stepB_no (fun x => h (canS_open x.2.1).1)
theorem rowB_mem (T : xTw) (t p : Nat) (b : xBs) : ∀ n, rowB T t p b n = (memL T n).foldl (fun b q => stepB T t p q b) b
  | 0 => rfl
  | n + 1 => by
    show stepB T t p n (rowB T t p b n) = _
    rw [rowB_mem T t p b n]
    by_cases c : T 7 n = 1
    · have el : memL T (n + 1) = memL T n ++ [n] := if_pos c
      rw [el, List.foldl_append]
      rfl
    · have el : memL T (n + 1) = memL T n := if_neg c
      rw [el]
      exact stepB_no (fun x => c (canS_open x.2.1).2)
theorem bstN_mem (T : xTw) (t : Nat) (b : xBs) : ∀ n, bstN T t b n = (memL T n).foldl (fun b p => rowB T t p b (T 0 4)) b
  | 0 => rfl
  | n + 1 => by
    show rowB T t n (bstN T t b n) (T 0 4) = _
    rw [bstN_mem T t b n]
    by_cases c : T 7 n = 1
    · have el : memL T (n + 1) = memL T n ++ [n] := if_pos c
      rw [el, List.foldl_append]
      rfl
    · have el : memL T (n + 1) = memL T n := if_neg c
      rw [el]
      exact rowB_closed c _ _
theorem take_step {l : List Nat} {i : Nat} (h : i < l.length) : l.take (i + 1) = l.take i ++ [l.getD i 0] := by
  rw [List.take_succ, List.getD_eq_getElem?_getD, List.getElem?_eq_getElem h]
  rfl
/-- the best so far, as the class has it -/
def bstX (σ : xM) (t : Nat) (b : xBs) : Prop := gi σ 71 t = nI b.1 ∧ gi σ 72 t = nI b.2.1 - 1 ∧ gi σ 73 t = nI b.2.2 - 1
/-- what the best so far may be -/
def okC (T : xTw) (b : xBs) : Prop := b.1 ≤ 501000 ∧ ((b.2.1 = 0 ∧ b.2.2 = 0) ∨ (1 ≤ b.2.1 ∧ b.2.1 ≤ T 0 4 ∧ 1 ≤ b.2.2 ∧ b.2.2 ≤ T 0 4 ∧ b.2.1 ≠ b.2.2 ∧ canS T (b.2.1 - 1) (b.2.2 - 1)))
theorem okC_step {T : xTw} (hR : rgT T) {t p q : Nat} (ht : t < 8) (hp : p < T 0 4) (hq : q < T 0 4) {b : xBs} (h : okC T b) : okC T (stepB T t p q b) := by
  have h8 := rg_stops hR
  unfold stepB
  split
  · rename_i c
    exact ⟨cstS_le hR ht (by omega) (by omega), Or.inr ⟨Nat.succ_le_succ (Nat.zero_le _), hp, Nat.succ_le_succ (Nat.zero_le _), hq, fun e => c.1 (Nat.succ.inj e), c.2.1⟩⟩
  · exact h
theorem okC_row {T : xTw} (hR : rgT T) {t p : Nat} (ht : t < 8) (hp : p < T 0 4) {b : xBs} (h : okC T b) : ∀ n, n ≤ T 0 4 → okC T (rowB T t p b n)
  | 0, _ => h
  | n + 1, hn => okC_step hR ht hp (by omega) (okC_row hR ht hp h n (by omega))
theorem okC_bst {T : xTw} (hR : rgT T) {t : Nat} (ht : t < 8) : ∀ n, n ≤ T 0 4 → okC T (bstN T t (bst0 T t) n)
  | 0, _ => ⟨bst0_le hR ht, Or.inl ⟨rfl, rfl⟩⟩
  | n + 1, hn => okC_row hR ht (by omega) (okC_bst hR ht n (by omega)) _ (Nat.le_refl _)
theorem okC_S {T : xTw} (hR : rgT T) {t : Nat} (ht : t < 8) : okC T (bstS T t) := okC_bst hR ht _ (Nat.le_refl _)
theorem okC_stepl {T : xTw} (hR : rgT T) {t p : Nat} (ht : t < 8) (hp : p < T 0 4) : ∀ (l : List Nat) (b : xBs), (∀ x, x ∈ l → x < T 0 4) → okC T b → okC T (l.foldl (fun b q => stepB T t p q b) b)
  | [], _, _, h => h
  | x :: l, b, hl, h => okC_stepl hR ht hp l _ (fun y hy => hl y (List.mem_cons_of_mem _ hy)) (okC_step hR ht hp (hl x List.mem_cons_self) h)
theorem okC_rowl {T : xTw} (hR : rgT T) {t : Nat} (ht : t < 8) : ∀ (l : List Nat) (b : xBs), (∀ x, x ∈ l → x < T 0 4) → okC T b → okC T (l.foldl (fun b p => rowB T t p b (T 0 4)) b)
  | [], _, _, h => h
  | x :: l, b, hl, h => okC_rowl hR ht l _ (fun y hy => hl y (List.mem_cons_of_mem _ hy)) (okC_row hR ht (hl x List.mem_cons_self) h _ (Nat.le_refl _))
theorem memL_in {T : xTw} {n x : Nat} (h : x ∈ memL T n) : x < n := (memL_lt T n x h).1
theorem memT_in {T : xTw} {n i x : Nat} (h : x ∈ (memL T n).take i) : x < n := memL_in (List.mem_of_mem_take h)
/-- what a trip's search stands on -/
def onB (s : xM) (T : xTw) (t : Nat) : Prop := xTk s T ∧ memS s (memL T (T 0 4)) ∧ gi s 30 t = nI (dirS T t) ∧ mes3 s T t (T 0 4) ∧ (∀ p q, p < T 0 4 → q < T 0 4 → p ≠ q → T 7 p = 1 → T 7 q = 1 → good s T p q)
def frC (t c i : Nat) : Prop := 71 ≤ c ∧ c ≤ 73 ∧ i = t
theorem onB_fr {s s' : xM} {T : xTw} {t u : Nat} (h : onB s T t) (f : Fr (frC u) s s') (ht : t < 8) (h8 : T 0 4 ≤ 8) : onB s' T t := by
  refine ⟨xTk_fr h.1 f (fun c i q => ?_), ⟨?_, fun i hi => ?_⟩, ?_, fun p hp => ?_, fun p q hp hq hpq op oq => ?_⟩
  · unfold frC at q
    unfold xoff
    omega
  · rw [(f 27 7 (by unfold frC; omega)).1]
    exact h.2.1.1
  · rw [(f 49 i (by unfold frC; omega)).1]
    exact h.2.1.2 i hi
  · rw [(f 30 t (by unfold frC; omega)).1]
    exact h.2.2.1
  · rw [(f (32 + t) p (by unfold frC; omega)).1, (f (41 + t) p (by unfold frC; omega)).1]
    exact h.2.2.2.1 p hp
  · have g := h.2.2.2.2 p q hp hq hpq op oq
    unfold good
    rw [(f (54 + p) q (by unfold frC; omega)).1, (f (63 + p) q (by unfold frC; omega)).1]
    exact g
theorem nI_m1 {n : Nat} (h : n < 2 ^ 31) : ¬ nI n = (-1 : Int32) := by
  intro e
  have e2 := congrArg Int32.toInt e
  rw [nI_toInt h, show (-1 : Int32).toInt = -1 from rfl] at e2
  omega
theorem ol_find72 {T : xTw} (hR : rgT T) {t p : Nat} (ht : t < 8) (hp : p < T 0 4) (op : T 7 p = 1) {b : xBs} (hb : okC T b) {a3 : Int32} {kt : xM → Option (Int32 × xM)} {Q : Int32 → xM → Prop} : ∀ (m j n : Nat) (s : xM), j + m = (memL T (T 0 4)).length → m < n → onB s T t → bstX s t (((memL T (T 0 4)).take j).foldl (fun b q => stepB T t p q b) b) → (∀ s', Fr (frC t) s s' → bstX s' t (rowB T t p b (T 0 4)) → Ok (kt s') Q) → Ok (fX8_findBest_L72 kt (nI t) (T 13 t) a3 (nI p) n (nI j) s) Q := by
  have h8 := rg_stops hR
  have hl := memL_len T (T 0 4)
  have hk := rg_tsort hR ht
  intro m
  induction m with
  | zero =>
    intro j n s hj hn hO hx kk
    obtain ⟨n, rfl⟩ : ∃ n', n = n' + 1 := ⟨n - 1, by omega⟩
    unfold fX8_findBest_L72
    refine ok_T (by rw [hO.2.1.1]; exact nI_le (by omega) (by omega)) ?_
    rw [List.take_of_length_le (by omega), ← rowB_mem] at hx
    exact kk s Fr_rf hx
  | succ m ih =>
    intro j n s hj hn hO hx kk
    obtain ⟨n, rfl⟩ : ∃ n', n = n' + 1 := ⟨n - 1, by omega⟩
    have hjl : j < (memL T (T 0 4)).length := by omega
    have mq := memL_getD hjl
    have e49 := hO.2.1.2 j hjl
    have el : ((memL T (T 0 4)).take (j + 1)).foldl (fun b q => stepB T t p q b) b = stepB T t p ((memL T (T 0 4)).getD j 0) (((memL T (T 0 4)).take j).foldl (fun b q => stepB T t p q b) b) := by
      rw [take_step hjl, List.foldl_append]
      rfl
    have hbj := okC_stepl hR ht hp ((memL T (T 0 4)).take j) b (fun x hx => memT_in hx) hb
    have ihj := ih (j + 1)
    rw [el] at ihj
    generalize ((memL T (T 0 4)).take j).foldl (fun b q => stepB T t p q b) b = bj at hx hbj ihj
    generalize (memL T (T 0 4)).getD j 0 = q at mq e49 ihj
    have w2 := xK_sort hO.1 (k := T 13 t) (w := 2) (by omega) (by omega)
    have w3 := xK_sort hO.1 (k := T 13 t) (w := 3) (by omega) (by omega)
    have w4 := xK_sort hO.1 (k := T 13 t) (w := 4) (by omega) (by omega)
    have d1 := (hO.2.2.2.1 p hp).1
    have d2 := (hO.2.2.2.1 q mq.1).2
    have hcs := cstS_le hR ht (p := p) (q := q) (by omega) (by omega)
    have hw := waitS_le hR p q
    have hb1 := hbj.1
    unfold fX8_findBest_L72
    refine ok_F (by rw [hO.2.1.1]; exact nI_ge (by omega) (by omega)) ?_
    refine ok_G (inb_n (by omega) (by omega)) ?_
    refine ok_lz.mpr ?_
    rw [nI_clamp (by omega), e49, nI_1]
    by_cases c : p = q
    · refine ok_T (by rw [c]) ?_
      refine ihj n s (by omega) (by omega) hO ?_ kk
      rw [stepB_no (fun x => x.1 c)]
      exact hx
    · refine ok_F (by rw [nI_eq (by omega) (by omega)]; exact c) ?_
      simp (disch := omega) only [ok_gd, inb_n, nI_clamp, true_and]
      have gg := hO.2.2.2.2 p q hp mq.1 c op mq.2
      by_cases hc : canS T p q
      · have g := gg.1 hc
        simp only [g.1, g.2]
        refine ok_F (nI_m1 (by omega)) ?_
        simp (disch := omega) only [ok_gd, ok_lz, inb_n, nI_clamp, true_and, w2, w3, w4, d1, d2, nI_add, pk_mul]
        have ec : (wkS T (T 10 t) (T 4 p) (T 13 t) + wkS T (T 4 q) (T 11 t) (T 13 t)) * T 2 (6 * T 13 t + 2) + waitS T p q * T 2 (6 * T 13 t + 3) + rideS T p q * T 2 (6 * T 13 t + 4) = cstS T t p q := rfl
        simp only [ec]
        by_cases cc : bj.1 ≤ cstS T t p q
        · refine ok_T (by rw [hx.1]; exact nI_le cc (by omega)) ?_
          refine ihj n s (by omega) (by omega) hO ?_ kk
          rw [stepB_no (fun x => by omega)]
          exact hx
        · refine ok_F (by rw [hx.1]; exact nI_ge (by omega) (by omega)) ?_
          simp (disch := omega) only [ok_gd, ok_lz, inb_n, true_and]
          have f3 : Fr (frC t) s (si (si (si s 71 t (nI (cstS T t p q))) 72 t (nI p)) 73 t (nI q)) := Fr_si (Fr_si (Fr_si Fr_rf _ ⟨by omega, by omega, rfl⟩) _ ⟨by omega, by omega, rfl⟩) _ ⟨by omega, by omega, rfl⟩
          refine ihj n _ (by omega) (by omega) (onB_fr hO f3 ht h8) ?_ (fun s' f => kk s' (Fr_tr f3 f))
          have es : stepB T t p q bj = (cstS T t p q, p + 1, q + 1) := if_pos ⟨c, hc, by omega⟩
          rw [es]
          refine ⟨?_, ?_, ?_⟩
          · rw [gi_si, if_neg (by omega), gi_si, if_neg (by omega), gi_same]
          · rw [gi_si, if_neg (by omega), gi_same]
            exact (nI_pred p).symm
          · rw [gi_same]
            exact (nI_pred q).symm
      · simp only [gg.2 hc]
        refine ok_T trivial ?_
        refine ihj n s (by omega) (by omega) hO ?_ kk
        rw [stepB_no (fun x => hc x.2.1)]
        exact hx
theorem ol_find53 {T : xTw} (hR : rgT T) {t : Nat} (ht : t < 8) {kt : xM → Option (Int32 × xM)} {Q : Int32 → xM → Prop} : ∀ (m i n : Nat) (s : xM), i + m = (memL T (T 0 4)).length → m < n → onB s T t → bstX s t (((memL T (T 0 4)).take i).foldl (fun b p => rowB T t p b (T 0 4)) (bst0 T t)) → (∀ s', Fr (frC t) s s' → bstX s' t (bstS T t) → Ok (kt s') Q) → Ok (fX8_findBest_L53 kt (nI t) (T 13 t) n (nI i) s) Q := by
  have h8 := rg_stops hR
  have hl := memL_len T (T 0 4)
  intro m
  induction m with
  | zero =>
    intro i n s hi hn hO hx kk
    obtain ⟨n, rfl⟩ : ∃ n', n = n' + 1 := ⟨n - 1, by omega⟩
    unfold fX8_findBest_L53
    refine ok_T (by rw [hO.2.1.1]; exact nI_le (by omega) (by omega)) ?_
    rw [List.take_of_length_le (by omega), ← bstN_mem] at hx
    exact kk s Fr_rf hx
  | succ m ih =>
    intro i n s hi hn hO hx kk
    obtain ⟨n, rfl⟩ : ∃ n', n = n' + 1 := ⟨n - 1, by omega⟩
    obtain ⟨f, hf⟩ := fu_big
    have hil : i < (memL T (T 0 4)).length := by omega
    have mp := memL_getD hil
    have e49 := hO.2.1.2 i hil
    have hb := okC_rowl hR ht ((memL T (T 0 4)).take i) (bst0 T t) (fun x hx => memT_in hx) ⟨bst0_le hR ht, Or.inl ⟨rfl, rfl⟩⟩
    unfold fX8_findBest_L53
    refine ok_F (by rw [hO.2.1.1]; exact nI_ge (by omega) (by omega)) ?_
    refine ok_G (inb_n (by omega) (by omega)) ?_
    refine ok_lz.mpr ?_
    rw [nI_clamp (by omega), e49, hf]
    refine ol_find72 hR ht mp.1 mp.2 hb (memL T (T 0 4)).length 0 (f + 4000) s (by omega) (by omega) hO hx (fun s' f2 w => ?_)
    rw [nI_1]
    refine ih (i + 1) n s' (by omega) (by omega) (onB_fr hO f2 ht h8) ?_ (fun s2 f3 => kk s2 (Fr_tr f2 f3))
    rw [take_step hil, List.foldl_append]
    exact w
/-- what the class tells of a trip's best way -/
def lookT (σ : xM) (T : xTw) (t : Nat) : Prop := bstX σ t (bstS T t) ∧ gi σ 74 t = nI (wayW T t (bstS T t)) ∧ gi σ 75 t = nI (wayA T (bstS T t)) ∧ gi σ 76 t = nI (wayR T (bstS T t))
def frE (t c i : Nat) : Prop := 74 ≤ c ∧ c ≤ 76 ∧ i = t
theorem of_tell {T : xTw} {s : xM} {Q : Int32 → xM → Prop} {t : Nat} (ht : t < 8) (h8 : T 0 4 ≤ 8) (hO : onB s T t) {b : xBs} (hb : okC T b) {a2 a3 : Int32} (e2 : a2 = nI b.2.1 - 1) (e3 : a3 = nI b.2.2 - 1) (kk : ∀ s', Fr (frE t) s s' → gi s' 74 t = nI (wayW T t b) → gi s' 75 t = nI (wayA T b) → gi s' 76 t = nI (wayR T b) → Q 0 s') : Ok (fX8_tellBest (nI t) a2 a3 s) Q := by
  unfold fX8_tellBest fX8_tellBest_J14 fX8_tellBest_J15 fX8_tellBest_J53 fX8_tellBest_J76 fX8_tellBest_J99
  rcases hb.2 with h | h
  · rw [h.1] at e2
    have e2 : a2 = -1 := e2
    refine ok_T e2 ?_
    refine ok_T rfl ?_
    simp (disch := omega) only [ok_gd, ok_lz, inb_n, nI_clamp, true_and]
    refine ok_T trivial ?_
    simp (disch := omega) only [ok_gd, ok_lz, inb_n, nI_clamp, true_and]
    refine ok_T trivial ?_
    simp (disch := omega) only [ok_gd, ok_lz, inb_n, nI_clamp, true_and, ok_some]
    have w1 : wayW T t b = dirS T t := if_pos h.1
    have w2 : wayA T b = 0 := if_pos h.1
    have w3 : wayR T b = 0 := if_pos h.1
    rw [w1, w2, w3] at kk
    refine kk _ (Fr_si (Fr_si (Fr_si Fr_rf _ ⟨by omega, by omega, rfl⟩) _ ⟨by omega, by omega, rfl⟩) _ ⟨by omega, by omega, rfl⟩) ?_ ?_ ?_
    · rw [gi_si, if_neg (by omega), gi_si, if_neg (by omega), gi_same]
      exact hO.2.2.1
    · rw [gi_si, if_neg (by omega), gi_same]
      rfl
    · rw [gi_same]
      rfl
  · obtain ⟨h1, h2, h3, h4, h5, h6⟩ := h
    obtain ⟨p, hp⟩ : ∃ p, b.2.1 = p + 1 := ⟨b.2.1 - 1, by omega⟩
    obtain ⟨q, hq⟩ : ∃ q, b.2.2 = q + 1 := ⟨b.2.2 - 1, by omega⟩
    rw [hp, nI_pred] at e2
    rw [hq, nI_pred] at e3
    have h6 : canS T p q := by
      rw [hp, hq] at h6
      exact h6
    have oo := canS_open h6
    have g := (hO.2.2.2.2 p q (by omega) (by omega) (by omega) oo.1 oo.2).1 h6
    have d1 := (hO.2.2.2.1 p (by omega)).1
    have d2 := (hO.2.2.2.1 q (by omega)).2
    subst e2
    subst e3
    refine ok_F (nI_m1 (by omega)) ?_
    refine ok_F (nI_m1 (by omega)) ?_
    refine ok_F (by decide) ?_
    simp (disch := omega) only [ok_gd, ok_lz, inb_n, nI_clamp, true_and]
    refine ok_F (by decide) ?_
    simp (disch := omega) only [ok_gd, ok_lz, inb_n, nI_clamp, true_and]
    refine ok_F (by decide) ?_
    simp (disch := omega) only [ok_gd, ok_lz, inb_n, nI_clamp, true_and, ok_some]
    have w1 : wayW T t b = wlkS T t p q := by
      unfold wayW
      rw [if_neg (by omega), hp, hq]
      rfl
    have w2 : wayA T b = waitS T p q := by
      unfold wayA
      rw [if_neg (by omega), hp, hq]
      rfl
    have w3 : wayR T b = rideS T p q := by
      unfold wayR
      rw [if_neg (by omega), hp, hq]
      rfl
    rw [w1, w2, w3] at kk
    refine kk _ (Fr_si (Fr_si (Fr_si Fr_rf _ ⟨by omega, by omega, rfl⟩) _ ⟨by omega, by omega, rfl⟩) _ ⟨by omega, by omega, rfl⟩) ?_ ?_ ?_
    · rw [gi_si, if_neg (by omega), gi_si, if_neg (by omega), gi_same, d1, d2, nI_add]
      rfl
    · rw [gi_si, if_neg (by omega), gi_same, gi_si, if_neg (by omega)]
      exact g.1
    · rw [gi_same, gi_si, if_neg (by omega), gi_si, if_neg (by omega)]
      exact g.2
def frD (t c i : Nat) : Prop := 71 ≤ c ∧ c ≤ 76 ∧ i = t
theorem of_findBest {T : xTw} (hR : rgT T) {s : xM} {Q : Int32 → xM → Prop} {t : Nat} (ht : t < 8) (hO : onB s T t) (kk : ∀ s', Fr (frD t) s s' → lookT s' T t → Q 0 s') : Ok (fX8_findBest (nI t) s) Q := by
  have h8 := rg_stops hR
  have hk := rg_tsort hR ht
  have hl := memL_len T (T 0 4)
  have e13 := xK_tsort hO.1 ht
  have w2 := xK_sort hO.1 (k := T 13 t) (w := 2) (by omega) (by omega)
  obtain ⟨f, hf⟩ := fu_big
  unfold fX8_findBest
  simp (disch := omega) only [ok_gd, ok_lz, inb_n, nI_clamp, true_and, e13, w2, hO.2.2.1, pk_mul]
  have f3 : Fr (frC t) s (si (si (si s 71 t (nI (dirS T t * T 2 (6 * T 13 t + 2)))) 72 t (-1)) 73 t (-1)) := Fr_si (Fr_si (Fr_si Fr_rf _ ⟨by omega, by omega, rfl⟩) _ ⟨by omega, by omega, rfl⟩) _ ⟨by omega, by omega, rfl⟩
  rw [hf]
  refine ol_find53 hR ht (memL T (T 0 4)).length 0 (f + 4000) _ (by omega) (by omega) (onB_fr hO f3 ht h8) ⟨?_, ?_, ?_⟩ (fun s' f2 w => ?_)
  · rw [gi_si, if_neg (by omega), gi_si, if_neg (by omega), gi_same]
    rfl
  · rw [gi_si, if_neg (by omega), gi_same]
    rfl
  · rw [gi_same]
    rfl
  · simp (disch := omega) only [ok_gd, inb_n, true_and]
    have f4 := Fr_tr f3 f2
    refine ok_B (of_tell ht h8 (onB_fr hO f4 ht h8) (okC_S hR ht) w.2.1 w.2.2 (fun s2 f5 x1 x2 x3 => ok_R (kk s2 ?_ ⟨⟨?_, ?_, ?_⟩, x1, x2, x3⟩)))
    · refine Fr_tr (Fr_mono f4 (fun c i q => ?_)) (Fr_mono f5 (fun c i q => ?_))
      · unfold frC at q
        unfold frD
        omega
      · unfold frE at q
        unfold frD
        omega
    · rw [(f5 71 t (by unfold frE; omega)).1]
      exact w.1
    · rw [(f5 72 t (by unfold frE; omega)).1]
      exact w.2.1
    · rw [(f5 73 t (by unfold frE; omega)).1]
      exact w.2.2
