theorem nI_n0 {n : Nat} (h : n < 2 ^ 31) : nI n = 0 ↔ n = 0 := by
  rw [q0, nI_eq h (by omega)]
theorem e_tries23 {T : xTw} (hR : rgT T) {s : xM} (hT : mTn s T) {p q : Nat} (hp : p < 8) (hq : q < 8) (a1 t0 : Int32) : fX10_tries_J23 a1 (nI p) (nI q) t0 s = fX10_tries_J48 a1 (nI p) (nI q) t0 (nI (oneS T p q 1)) s := by
  have a := stpS_le T p 1
  have b := stpS_le T q 1
  unfold fX10_tries_J23 fX10_tries_J47
  rw [q1, e_doesStop hR hT hp (by omega), bd_some, e_doesStop hR hT hq (by omega), bd_some]
  by_cases h1 : stpS T p 1 = 1
  · by_cases h2 : stpS T q 1 = 1
    · rw [show oneS T p q 1 = 1 from if_pos ⟨h1, h2⟩, h1, h2, if_neg (by decide), if_neg (by decide)]
    · rw [show oneS T p q 1 = 0 from if_neg (fun c => h2 c.2), h1, show stpS T q 1 = 0 by omega, if_neg (by decide), if_pos (show nI 0 = 0 from rfl)]
      rfl
  · rw [show oneS T p q 1 = 0 from if_neg (fun c => h1 c.1), show stpS T p 1 = 0 by omega, if_pos (show nI 0 = 0 from rfl)]
    rfl
theorem e_tries0 {T : xTw} (hR : rgT T) {s : xM} (hT : mTn s T) {p q : Nat} (hp : p < 8) (hq : q < 8) (a1 : Int32) : fX10_tries a1 (nI p) (nI q) s = fX10_tries_J48 a1 (nI p) (nI q) (nI (oneS T p q 0)) (nI (oneS T p q 1)) s := by
  have a := stpS_le T p 0
  have b := stpS_le T q 0
  unfold fX10_tries fX10_tries_J22
  rw [show (0 : Int32) = nI 0 from rfl, e_doesStop hR hT hp (by omega), bd_some, e_doesStop hR hT hq (by omega), bd_some]
  simp only [e_tries23 hR hT hp hq]
  by_cases h1 : stpS T p 0 = 1
  · by_cases h2 : stpS T q 0 = 1
    · rw [h1, h2, if_neg (by decide), if_neg (by decide), show oneS T p q 0 = 1 from if_pos ⟨h1, h2⟩]
      rfl
    · rw [h1, show stpS T q 0 = 0 by omega, if_neg (by decide), if_pos rfl, show oneS T p q 0 = 0 from if_neg (fun c => h2 c.2)]
  · rw [show stpS T p 0 = 0 by omega, if_pos rfl, show oneS T p q 0 = 0 from if_neg (fun c => h1 c.1)]
theorem of_tries {T : xTw} (hR : rgT T) {s : xM} {Q : Int32 → xM → Prop} (hT : mTn s T) {t p q : Nat} (ht : t < 8) (hp : p < 8) (hq : q < 8) (hpq : p ≠ q) {b : xBs} (hb : okB b) (hw : wayM T t b s) (kk : ∀ s', Fr frW s s' → wayM T t (stepB T t p q b) s' → Q 0 s') : Ok (fX10_tries (nI t) (nI p) (nI q) s) Q := by
  have o0 := oneS_le T p q 0
  have o1 := oneS_le T p q 1
  have e2 := hT 0 2 (vt0 (by omega))
  have ev := rg_every hR
  have r0 := rdS_le hR hp hq (c := 0)
  have r1 := rdS_le hR hp hq (c := 1)
  rw [e_tries0 hR hT hp hq]
  unfold fX10_tries_J48 fX10_tries_J61 fX10_tries_J91 fX10_tries_J104 fX10_tries_J107 fX10_tries_J128
  simp (disch := omega) only [nI_n0]
  by_cases h0 : oneS T p q 0 = 0
  · rw [if_pos h0, if_pos h0]
    by_cases h1 : oneS T p q 1 = 0
    · rw [if_pos h1]
      refine ok_R (kk s Fr_rf ?_)
      unfold stepB
      rw [if_neg (by omega)]
      exact hw
    · rw [if_neg h1, if_pos h0]
      have hr : rideS T p q = rdS T p q 1 := by
        unfold rideS
        rw [if_neg (by omega), if_neg (by omega)]
      have hv : waitS T p q = T 0 2 := by
        unfold waitS
        rw [if_neg (by omega)]
      rw [q1, e_rides hR hT hp hq (by omega), bd_some, if_pos h0, e2, ← hr, ← hv]
      exact of_tries132 hR hT ht hp hq hpq (Or.inr (by omega)) hb hw kk
  · rw [if_neg h0, if_neg h0]
    by_cases h1 : oneS T p q 1 = 0
    · rw [if_pos h1, if_neg h0]
      have hr : rideS T p q = rdS T p q 0 := by
        unfold rideS
        rw [if_neg (by omega), if_pos (by omega)]
      have hv : waitS T p q = T 0 2 := by
        unfold waitS
        rw [if_neg (by omega)]
      rw [show (0 : Int32) = nI 0 from rfl, e_rides hR hT hp hq (by omega), bd_some, if_neg h0, if_pos h1, e2, ← hr, ← hv]
      exact of_tries132 hR hT ht hp hq hpq (Or.inl (by omega)) hb hw kk
    · rw [if_neg h1]
      have hr : rideS T p q = (rdS T p q 0 + rdS T p q 1) / 2 := by
        unfold rideS
        rw [if_pos (by omega)]
      have hv : waitS T p q = T 0 2 / 2 := by
        unfold waitS
        rw [if_pos (by omega)]
      rw [show (0 : Int32) = nI 0 from rfl, show (1 : Int32) = nI 1 from rfl, e_rides hR hT hp hq (by omega), bd_some, e_rides hR hT hp hq (by omega), bd_some, if_neg h0, if_neg h1, e2, nI_add, q2, pk_div (by omega) (by omega) (by omega), pk_div (by omega) (by omega) (by omega), ← hr, ← hv]
      exact of_tries132 hR hT ht hp hq hpq (Or.inl (by omega)) hb hw kk
theorem ol_finds81 {T : xTw} (hR : rgT T) {t p : Nat} (ht : t < 8) (hp : p < 8) {b : xBs} (hb : okB b) {kt : xM → Option (Int32 × xM)} {Q : Int32 → xM → Prop} : ∀ (m q n : Nat) (s : xM), q + m = T 0 4 → m < n → mTn s T → wayM T t (rowB T t p b q) s → (∀ s', Fr frW s s' → wayM T t (rowB T t p b (T 0 4)) s' → Ok (kt s') Q) → Ok (fX10_finds_L81 kt (nI t) (nI p) n (nI q) s) Q := by
  have h8 := rg_stops hR
  intro m
  induction m with
  | zero =>
    intro q n s hq hn hT hw kk
    obtain ⟨n, rfl⟩ : ∃ n', n = n' + 1 := ⟨n - 1, by omega⟩
    have e4 := hT 0 4 (vt0 (by omega))
    have : q = T 0 4 := by omega
    unfold fX10_finds_L81
    refine ok_T (by rw [e4]; exact nI_le (by omega) (by omega)) ?_
    rw [this] at hw
    exact kk s Fr_rf hw
  | succ m ih =>
    intro q n s hq hn hT hw kk
    obtain ⟨n, rfl⟩ : ∃ n', n = n' + 1 := ⟨n - 1, by omega⟩
    have e4 := hT 0 4 (vt0 (by omega))
    unfold fX10_finds_L81
    refine ok_F (by rw [e4]; exact nI_ge (by omega) (by omega)) ?_
    by_cases c : p = q
    · refine ok_T (by rw [c]) ?_
      rw [nI_1]
      refine ih (q + 1) n s (by omega) (by omega) hT ?_ kk
      show wayM T t (stepB T t p q (rowB T t p b q)) s
      unfold stepB
      rw [if_neg (fun h => h.1 c)]
      exact hw
    · refine ok_F (by rw [nI_eq (by omega) (by omega)]; exact c) ?_
      refine ok_B (of_tries hR hT ht hp (by omega) c (okB_row hR ht hp hb q (by omega)) hw (fun s' f w => ?_))
      rw [nI_1]
      refine ih (q + 1) n s' (by omega) (by omega) (mTn_fr hT f (fun _ _ => frW_off)) w (fun s2 f2 w2 => kk s2 (Fr_tr f f2) w2)
theorem ol_finds70 {T : xTw} (hR : rgT T) {t : Nat} (ht : t < 8) {kt : xM → Option (Int32 × xM)} {Q : Int32 → xM → Prop} : ∀ (m p n : Nat) (s : xM), p + m = T 0 4 → m < n → mTn s T → wayM T t (bstN T t (bst0 T t) p) s → (∀ s', Fr frW s s' → wayM T t (bstS T t) s' → Ok (kt s') Q) → Ok (fX10_finds_L70 kt (nI t) n (nI p) s) Q := by
  have h8 := rg_stops hR
  intro m
  induction m with
  | zero =>
    intro p n s hp hn hT hw kk
    obtain ⟨n, rfl⟩ : ∃ n', n = n' + 1 := ⟨n - 1, by omega⟩
    have e4 := hT 0 4 (vt0 (by omega))
    have : p = T 0 4 := by omega
    unfold fX10_finds_L70
    refine ok_T (by rw [e4]; exact nI_le (by omega) (by omega)) ?_
    rw [this] at hw
    exact kk s Fr_rf hw
  | succ m ih =>
    intro p n s hp hn hT hw kk
    obtain ⟨n, rfl⟩ : ∃ n', n = n' + 1 := ⟨n - 1, by omega⟩
    have e4 := hT 0 4 (vt0 (by omega))
    obtain ⟨f, hf⟩ := fu_big
    unfold fX10_finds_L70
    refine ok_F (by rw [e4]; exact nI_ge (by omega) (by omega)) ?_
    rw [hf]
    refine ol_finds81 hR ht (by omega) (okB_bst hR ht p (by omega)) (T 0 4) 0 (f + 4000) s (by omega) (by omega) hT hw (fun s' f w => ?_)
    rw [nI_1]
    exact ih (p + 1) n s' (by omega) (by omega) (mTn_fr hT f (fun _ _ => frW_off)) w (fun s2 f2 w2 => kk s2 (Fr_tr f f2) w2)
theorem of_finds {T : xTw} (hR : rgT T) {s : xM} {Q : Int32 → xM → Prop} (hT : mTn s T) {t : Nat} (ht : t < 8) (kk : ∀ s', Fr frW s s' → wayM T t (bstS T t) s' → Q 0 s') : Ok (fX10_finds (nI t) s) Q := by
  have a := rg_from hR ht
  have b' := rg_to hR ht
  have e := rg_tsort hR ht
  have e13 := hT 13 t (vt3 (by omega) (by omega) ht)
  have e10 := hT 10 t (vt3 (by omega) (by omega) ht)
  have e11 := hT 11 t (vt3 (by omega) (by omega) ht)
  have w2 := mT_sort hT (k := T 13 t) (w := 2) (by omega) (by omega)
  obtain ⟨f, hf⟩ := fu_big
  unfold fX10_finds
  simp (disch := omega) only [ok_gd, ok_lz, ok_bd, inb_n, nI_clamp, e13, true_and]
  have n1 : ∀ x : Nat, ¬ (10 = 0 ∧ t = x) := by omega
  have n2 : ∀ x : Nat, ¬ (11 = 0 ∧ t = x) := by omega
  simp only [gi_si, if_neg (n1 _), if_neg (n2 _), e10, e11]
  have hT1 : mTn (si (si s 0 38 (-1)) 0 39 (-1)) T := mTn_off (mTn_off hT _ (by unfold vT; omega)) _ (by unfold vT; omega)
  refine of_walk hR hT1 (by omega) (by omega) (by omega) ?_
  simp (disch := omega) only [ok_gd, ok_lz, q6, q2, pk_mul, nI_add, inb_n, nI_clamp, true_and]
  have n3 : ∀ x y : Nat, ¬ (2 = 0 ∧ x = y) := by omega
  rw [hf]
  refine ol_finds70 hR ht (T 0 4) 0 (f + 4000) _ (by omega) (by have := rg_stops hR; omega) ?_ ?_ (fun s' fr w => ok_R (kk s' (Fr_tr (Fr_si (Fr_si (Fr_si (Fr_si (Fr_si (Fr_si Fr_rf _ ?_) _ ?_) _ ?_) _ ?_) _ ?_) _ ?_) fr) w))
  · refine mTn_off (mTn_off (mTn_off (mTn_off hT1 _ ?_) _ ?_) _ ?_) _ ?_
    all_goals (unfold vT; omega)
  · refine ⟨?_, rfl, rfl, rfl, rfl, rfl⟩
    show nI (dirS T t) * gi s 2 (6 * T 13 t + 2) = nI (dirS T t * T 2 (6 * T 13 t + 2))
    rw [w2, pk_mul]
  all_goals exact ⟨rfl, by omega, by omega⟩
