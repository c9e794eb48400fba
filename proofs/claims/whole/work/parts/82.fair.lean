/-! ===== fair ===== -/
theorem fair_loop {T : xTw} (hR : rgT T) {k1 k2 : Int32 → xM → Option (Int32 × xM)} {Q : Int32 → xM → Int32 → xM → Prop} : ∀ (m x f g : Nat) (σ τ : xM) (cf cl mf ml : Int32), x + m = 2 ^ T 0 4 → m < f → m < g → xMe σ T → mTb τ T → keptM τ T → ((x = 0 ∧ cl = 2147483647 ∧ mf = -1) ∨ (0 < x ∧ cf = mf ∧ ml = cl ∧ (∃ y, y < 256 ∧ mf = nI y) ∧ ∃ c, c ≤ 501000 ∧ cl = nI c)) → (∀ σ' τ' found, Fr frL σ σ' → Fr frT τ τ' → xMe σ' T → mTb τ' T → keptM τ' T → Rel (k1 found σ') (k2 found τ') Q) → Rel (fX9_fair_L15 k1 f cf cl (nI x) σ) (fX10_fair_L10 k2 g mf ml (nI x) τ) Q := by
  have h8 := rg_stops hR
  have h12 := rg_trips hR
  have p8 := pow_256 h8
  intro m
  induction m with
  | zero =>
    intro x f g σ τ cf cl mf ml hx hf hg h1 h2 h3 h4 kk
    obtain ⟨f, rfl⟩ : ∃ n', f = n' + 1 := ⟨f - 1, by omega⟩
    obtain ⟨g, rfl⟩ : ∃ n', g = n' + 1 := ⟨g - 1, by omega⟩
    have pw := Nat.two_pow_pos (T 0 4)
    unfold fX9_fair_L15 fX10_fair_L10
    rw [e_setCount hR h1.1.1, bd_some, h2.1 0 4 (vt0 (by omega)) (by omega), tab_one _ (by omega)]
    have e : nI (2 ^ T 0 4) ≤ nI x := nI_le (by omega) (by omega)
    rcases h4 with q | ⟨-, rfl, -⟩
    · omega
    · exact rl_T e (rr_T e (kk σ τ cf Fr_rf Fr_rf h1 h2 h3))
  | succ m ih =>
    intro x f g σ τ cf cl mf ml hx hf hg h1 h2 h3 h4 kk
    obtain ⟨f, rfl⟩ : ∃ n', f = n' + 1 := ⟨f - 1, by omega⟩
    obtain ⟨g, rfl⟩ : ∃ n', g = n' + 1 := ⟨g - 1, by omega⟩
    unfold fX9_fair_L15 fX10_fair_L10 fX10_fair_J39
    rw [e_setCount hR h1.1.1, bd_some, h2.1 0 4 (vt0 (by omega)) (by omega), tab_one _ (by omega)]
    have e : ¬ nI (2 ^ T 0 4) ≤ nI x := nI_ge (by omega) (by omega)
    refine rl_F e (rr_F e ?_)
    refine rl_B (of_lookAt hR (by omega) h1 (xT_every h1.1.1) (fun σ1 f1 m1 k1' l1 => ?_))
    refine rr_B (of_totalWith hR (by omega) h2 (fun τ1 g1 mm1 tm1 => ?_))
    have g1' : Fr frT τ τ1 := Fr_mono g1 (fun _ _ => frVT)
    have b1' := mTb_wO mm1
    have kp1 := keptM_fr h3 g1'
    have dl := drS_le (wO_rg hR x)
    have ed := e_dearestCost (wO_rg hR x) k1' l1
    obtain ⟨-, -, t45, -⟩ := tm1
    rw [wO_012] at dl ed
    rw [ed, bd_some, t45]
    simp only [ed, bd_some]
    have take : Rel (fX9_fair_L15 k1 f (nI x) (nI (drS (wO T x) (T 0 12)).2) (nI x + 1) σ1) (fX10_fair_L10 k2 g (nI x) (nI (drS (wO T x) (T 0 12)).2) (nI x + 1) τ1) Q := by
      rw [nI_1]
      exact ih (x + 1) f g σ1 τ1 _ _ _ _ (by omega) (by omega) (by omega) m1 b1' kp1 (Or.inr ⟨by omega, rfl, rfl, ⟨x, by omega, rfl⟩, _, dl.2, rfl⟩) (fun σ' τ' found q1 q2 => kk σ' τ' found (Fr_tr f1 q1) (Fr_tr g1' q2))
    rcases h4 with ⟨rfl, rfl, rfl⟩ | ⟨q0, rfl, rfl, ⟨y, hy, rfl⟩, c, hc, rfl⟩
    · refine rl_F ?_ (rr_T rfl (rr_lz.mpr take))
      rw [show (2147483647 : Int32) = nI 2147483647 from rfl]
      exact nI_ge (by omega) (by omega)
    · refine rr_F (nI_m1 (by omega)) ?_
      by_cases d : nI c ≤ nI (drS (wO T x) (T 0 12)).2
      · refine rl_T d (rr_T d ?_)
        rw [nI_1]
        exact ih (x + 1) f g σ1 τ1 _ _ _ _ (by omega) (by omega) (by omega) m1 b1' kp1 (Or.inr ⟨by omega, rfl, rfl, ⟨y, hy, rfl⟩, c, hc, rfl⟩) (fun σ' τ' found q1 q2 => kk σ' τ' found (Fr_tr f1 q1) (Fr_tr g1' q2))
      · exact rl_F d (rr_F d (rr_lz.mpr take))
theorem sim_fair : xs_fair RR := by
  intro σ τ h
  refine sim_of ?_
  obtain ⟨T, n, h⟩ := h
  have hR := h.1
  have hX := h.2.2.1
  have h8 := rg_stops hR
  have p8 := pow_256 h8
  obtain ⟨f, hf⟩ := fu_big
  unfold fX9_fair fX10_fair
  rw [hf]
  refine rl_B (of_measure hR hX (fun s1 f1 m1 => ?_))
  have f1' : Fr xAsk σ s1 := Fr_mono f1 (fun _ _ => frS_ask)
  refine rr_B (of_keeps h.2.2.2.1 (fun τ3 g3 kp3 => ?_))
  have m3 := mTn_fr h.2.2.2.1 g3 (fun c i q => by unfold vT; omega)
  refine fair_loop hR (2 ^ T 0 4) 0 (f + 4000) (f + 4000) s1 τ3 0 2147483647 (-1) 0 (by omega) (by omega) (by omega) ⟨xCT_fr hX f1' (fun _ _ => xAsk_27), m1⟩ (mTb_of m3) kp3 (Or.inl ⟨rfl, rfl, rfl⟩) (fun σ' τ' found f4 g4 x4 b4 k4 => ?_)
  refine rr_B (of_lays b4 k4 (fun τ5 g5 m5 => ?_))
  refine sim_R (RT_end h (Fr_tr f1' (Fr_mono f4 (fun _ _ => frL_ask))) (Fr_tr (Fr_mono g3 (fun c i q => ?_)) (Fr_tr (Fr_mono g4 (fun _ _ => frT_free)) (Fr_mono g5 (fun c i q => ?_)))) m5) rfl
  · unfold mFree
    omega
  · unfold mFree
    omega
/-! ===== fewest ===== -/
theorem fewest_loop {T : xTw} (hR : rgT T) {w : Nat} (hw : w < 2 ^ 31) {k1 k2 : Int32 → xM → Option (Int32 × xM)} {Q : Int32 → xM → Int32 → xM → Prop} : ∀ (m x f g : Nat) (σ τ : xM) (cf cs mf : Int32), x + m = 2 ^ T 0 4 → m < f → m < g → xMe σ T → mTb τ T → keptM τ T → ((cf = -1 ∧ mf = -1 ∧ cs = 9) ∨ ∃ y, y < 256 ∧ cf = nI y ∧ mf = nI y ∧ cs = nI (popN y)) → (∀ σ' τ' found, Fr frL σ σ' → Fr frT τ τ' → xMe σ' T → mTb τ' T → keptM τ' T → Rel (k1 found σ') (k2 found τ') Q) → Rel (fX9_fewest_L29 k1 (nI w) f cf cs (nI x) σ) (fX10_fewest_L22 k2 (nI w) g mf (nI x) τ) Q := by
  have h8 := rg_stops hR
  have h12 := rg_trips hR
  have p8 := pow_256 h8
  intro m
  induction m with
  | zero =>
    intro x f g σ τ cf cs mf hx hf hg h1 h2 h3 h4 kk
    obtain ⟨f, rfl⟩ : ∃ n', f = n' + 1 := ⟨f - 1, by omega⟩
    obtain ⟨g, rfl⟩ : ∃ n', g = n' + 1 := ⟨g - 1, by omega⟩
    unfold fX9_fewest_L29 fX10_fewest_L22
    rw [e_setCount hR h1.1.1, bd_some, h2.1 0 4 (vt0 (by omega)) (by omega), tab_one _ (by omega)]
    have e : nI (2 ^ T 0 4) ≤ nI x := nI_le (by omega) (by omega)
    have ec : cf = mf := by
      rcases h4 with ⟨rfl, rfl, -⟩ | ⟨y, -, rfl, rfl, -⟩
      · rfl
      · rfl
    subst ec
    exact rl_T e (rr_T e (kk σ τ cf Fr_rf Fr_rf h1 h2 h3))
  | succ m ih =>
    intro x f g σ τ cf cs mf hx hf hg h1 h2 h3 h4 kk
    obtain ⟨f, rfl⟩ : ∃ n', f = n' + 1 := ⟨f - 1, by omega⟩
    obtain ⟨g, rfl⟩ : ∃ n', g = n' + 1 := ⟨g - 1, by omega⟩
    unfold fX9_fewest_L29 fX10_fewest_L22
    rw [e_setCount hR h1.1.1, bd_some, h2.1 0 4 (vt0 (by omega)) (by omega), tab_one _ (by omega)]
    have e : ¬ nI (2 ^ T 0 4) ≤ nI x := nI_ge (by omega) (by omega)
    refine rl_F e (rr_F e ?_)
    rw [tab_pop x (by omega), bd_some]
    have px := popN_le x
    have tA := totS_le (wO_rg hR x)
    have try1 : ((cf = -1 ∧ mf = -1 ∧ cs = 9) ∨ ∃ y, y < 256 ∧ cf = nI y ∧ mf = nI y ∧ cs = nI (popN y)) → Rel (bd (fX9_totalOf (nI x) σ) fun r9 s10 => if 0 < (lg_cmp r9 ((nI w).toInt64)) then fX9_fewest_L29 k1 (nI w) f cf cs (nI x + 1) s10 else bd (fJ6_bitCount_0f7a4 (nI x) s10) fun r13 s14 => fX9_fewest_L29 k1 (nI w) f (nI x) r13 (nI x + 1) s14) (fX10_fewest_J48 k2 (fX10_fewest_L22 k2 (nI w) g) (nI w) mf (nI x) τ) Q := by
      intro h4
      unfold fX10_fewest_J48
      refine rl_B (of_totalOf hR (by omega) h1 (fun σ1 f1 m1 k1' l1 => ?_))
      refine rr_B (of_totalWith hR (by omega) h2 (fun τ1 g1 mm1 tm1 => ?_))
      have g1' : Fr frT τ τ1 := Fr_mono g1 (fun _ _ => frVT)
      have b1' := mTb_wO mm1
      have kp1 := keptM_fr h3 g1'
      rw [nI_l hw, tab_pop x (by omega), bd_some, nI_1]
      by_cases c : 0 < lg_cmp (lN (totS (wO T x))) (lN w)
      · refine rl_T c (rr_T c ?_)
        exact ih (x + 1) f g σ1 τ1 _ _ _ (by omega) (by omega) (by omega) m1 b1' kp1 h4 (fun σ' τ' found q1 q2 => kk σ' τ' found (Fr_tr f1 q1) (Fr_tr g1' q2))
      · refine rl_F c (rr_F c ?_)
        exact ih (x + 1) f g σ1 τ1 _ _ _ (by omega) (by omega) (by omega) m1 b1' kp1 (Or.inr ⟨x, by omega, rfl, rfl, rfl⟩) (fun σ' τ' found q1 q2 => kk σ' τ' found (Fr_tr f1 q1) (Fr_tr g1' q2))
    rcases h4 with ⟨rfl, rfl, rfl⟩ | ⟨y, hy, rfl, rfl, rfl⟩
    · refine rl_F (nI_ge (b := 9) (by omega) (by omega)) (rr_T rfl ?_)
      exact try1 (Or.inl ⟨rfl, rfl, rfl⟩)
    · refine rr_F (nI_m1 (by omega)) ?_
      rw [ones_e (show x < 256 by omega), bd_some, ones_e hy, bd_some]
      by_cases c : nI (popN y) ≤ nI (popN x)
      · refine rl_T c (rr_T c ?_)
        rw [nI_1]
        exact ih (x + 1) f g σ τ _ _ _ (by omega) (by omega) (by omega) h1 h2 h3 (Or.inr ⟨y, hy, rfl, rfl, rfl⟩) kk
      · refine rl_F c (rr_F c ?_)
        exact try1 (Or.inr ⟨y, hy, rfl, rfl, rfl⟩)
theorem sim_fewest : xs_fewest RR := by
  intro σ τ h a0
  refine sim_of ?_
  obtain ⟨T, n, h⟩ := h
  have hR := h.1
  have hX := h.2.2.1
  have h8 := rg_stops hR
  have p8 := pow_256 h8
  obtain ⟨f, hf⟩ := fu_big
  unfold fX9_fewest fX10_fewest
  simp only [e_isWithin, e_in, bd_some]
  rcases rcase a0 (M := 999999999) (n := 999999999) rfl with d | ⟨d, w, hw, rfl⟩
  · simp only [d, ↓reduceIte]
    exact sim_R h rfl
  simp only [d, n10, ↓reduceIte]
  rw [hf]
  refine rl_B (of_measure hR hX (fun s1 f1 m1 => ?_))
  have f1' : Fr xAsk σ s1 := Fr_mono f1 (fun _ _ => frS_ask)
  refine rr_B (of_keeps h.2.2.2.1 (fun τ3 g3 kp3 => ?_))
  have m3 := mTn_fr h.2.2.2.1 g3 (fun c i q => by unfold vT; omega)
  refine fewest_loop hR (by omega) (2 ^ T 0 4) 0 (f + 4000) (f + 4000) s1 τ3 (-1) 9 (-1) (by omega) (by omega) (by omega) ⟨xCT_fr hX f1' (fun _ _ => xAsk_27), m1⟩ (mTb_of m3) kp3 (Or.inl ⟨rfl, rfl, rfl⟩) (fun σ' τ' found f4 g4 x4 b4 k4 => ?_)
  refine rr_B (of_lays b4 k4 (fun τ5 g5 m5 => ?_))
  refine sim_R (RT_end h (Fr_tr f1' (Fr_mono f4 (fun _ _ => frL_ask))) (Fr_tr (Fr_mono g3 (fun c i q => ?_)) (Fr_tr (Fr_mono g4 (fun _ _ => frT_free)) (Fr_mono g5 (fun c i q => ?_)))) m5) rfl
  · unfold mFree
    omega
  · unfold mFree
    omega
/-! ===== judge ===== -/
/-- the first trip from t on, of n, whose people walk more than they do at most -/
def fstB (T : xTw) : Nat → Nat → Int32
  | _, 0 => -1
  | t, n + 1 => if T 2 (6 * T 13 t + 5) < wayW T t (bstS T t) then nI t else fstB T (t + 1) n
theorem rg_most {T : xTw} (hR : rgT T) {t : Nat} (ht : t < 8) : T 2 (6 * T 13 t + 5) ≤ 9999 := by
  have hk := rg_tsort hR ht
  have g := rg_sort hR (k := T 13 t) (w := 5) (by omega) (by omega)
  rw [if_neg (by omega), if_pos rfl] at g
  exact g
theorem e_judge123 {T : xTw} (hR : rgT T) {s : xM} (hK : xTk s T) (hL : lookS s T) : ∀ (m t n : Nat), t + m = T 0 12 → m < n → fX9_judge_L123 (fun x20 s21 => some (x20, s21)) (fun s22 => some ((-1 : Int32), s22)) n (nI t) s = some (fstB T t m, s) := by
  have h12 := rg_trips hR
  intro m
  induction m with
  | zero =>
    intro t n ht hn
    obtain ⟨n, rfl⟩ : ∃ n', n = n' + 1 := ⟨n - 1, by omega⟩
    unfold fX9_judge_L123
    rw [xK_trips hK, if_pos (nI_le (by omega) (by omega))]
    rfl
  | succ m ih =>
    intro t n ht hn
    obtain ⟨n, rfl⟩ : ∃ n', n = n' + 1 := ⟨n - 1, by omega⟩
    have ht8 : t < 8 := by omega
    have hk := rg_tsort hR ht8
    have hl := (hL t (by omega)).2.1
    have b := wayW_le hR ht8
    have g := rg_most hR ht8
    unfold fX9_judge_L123
    rw [xK_trips hK, if_neg (nI_ge (by omega) (by omega))]
    simp (disch := omega) only [inb_n, gd_t, nI_clamp, xK_tsort hK, hl, xK_sort hK (k := T 13 t) (w := 5) (by omega) (by omega), nI_1]
    have e : fstB T t (m + 1) = if T 2 (6 * T 13 t + 5) < wayW T t (bstS T t) then nI t else fstB T (t + 1) m := rfl
    rw [e]
    by_cases c : T 2 (6 * T 13 t + 5) < wayW T t (bstS T t)
    · rw [if_neg (nI_ge c (by omega)), if_pos c]
    · rw [if_pos (nI_le (by omega) (by omega)), if_neg c]
      exact ih (t + 1) n (by omega) (by omega)
theorem ol_judge140 {T : xTw} (hR : rgT T) {kt : Int32 → xM → Option (Int32 × xM)} {Q : Int32 → xM → Prop} : ∀ (t m n : Nat) (s : xM), t + m = T 0 12 → t < n → mTn s T → (∀ s', Fr frW s s' → Ok (kt (fstB T 0 (T 0 12)) s') Q) → Ok (fX10_judge_L140 kt n (fstB T t m) (nI t - 1) s) Q := by
  have h12 := rg_trips hR
  intro t
  induction t with
  | zero =>
    intro m n s ht hn hT kk
    obtain ⟨n, rfl⟩ : ∃ n', n = n' + 1 := ⟨n - 1, by omega⟩
    unfold fX10_judge_L140
    refine ok_T (by decide) ?_
    rw [show m = T 0 12 by omega]
    exact kk s Fr_rf
  | succ t ih =>
    intro m n s ht hn hT kk
    obtain ⟨n, rfl⟩ : ∃ n', n = n' + 1 := ⟨n - 1, by omega⟩
    have ht8 : t < 8 := by omega
    have hk := rg_tsort hR ht8
    have b := wayW_le hR ht8
    have g := rg_most hR ht8
    rw [nI_pred]
    unfold fX10_judge_L140
    refine ok_F (nI_pos (by omega)) ?_
    refine ok_B (of_finds hR hT ht8 (fun s1 f1 w => ?_))
    have hT1 := mTn_fr hT f1 (fun _ _ => frW_off)
    have e13 := hT1 13 t (vt3 (by omega) (by omega) ht8)
    have e5 := mT_sort hT1 (k := T 13 t) (w := 5) (by omega) (by omega)
    simp (disch := omega) only [ok_gd, inb_n, true_and, nI_clamp, e13]
    rw [q6, q5]
    simp (disch := omega) only [pk_mul, nI_add, inb_n, true_and, nI_clamp, e5, w.2.2.2.1]
    have em : nI t + (-1 : Int32) = nI t - 1 := by rw [Int32.sub_eq_add_neg]
    rw [em]
    have gg := ih (m + 1) n s1 (by omega) (by omega) hT1 (fun s' f => kk s' (Fr_tr f1 f))
    have e : fstB T t (m + 1) = if T 2 (6 * T 13 t + 5) < wayW T t (bstS T t) then nI t else fstB T (t + 1) m := rfl
    rw [e] at gg
    by_cases c : T 2 (6 * T 13 t + 5) < wayW T t (bstS T t)
    · rw [if_pos c] at gg
      exact ok_F (nI_ge c (by omega)) gg
    · rw [if_neg c] at gg
      exact ok_T (nI_le (by omega) (by omega)) gg
theorem judge_loop {T : xTw} (hR : rgT T) {j : Nat} (hj : j < 4) {k98 : Int32 → xM → Option (Int32 × xM)} {k112 : Int32 → Int32 → xM → Option (Int32 × xM)} {σ τ : xM} (hX : xTn σ T) (hM : mTn τ T) (hv : ∀ i, i < 41 → gi σ (122 + 2 * j) i = gi τ 24 (41 * j + i)) {Q : Int32 → xM → Int32 → xM → Prop} (bad : ∀ y, Rel (some ((-2 : Int32), σ)) (k112 0 y τ) Q) (good : ∀ x, x < 2 ^ T 0 4 → Rel (k98 (nI x) σ) (k112 1 (nI x) τ) Q) : ∀ (m p f g x : Nat), p + m = T 0 4 → m < f → m + 1 < g → x < 2 ^ p → Rel (fX9_judge_L49 (fun s11 => some ((-2 : Int32), s11)) k98 j f (nI x) (nI p) σ) (fX10_judge_L49 k112 (nI j) g 1 (nI x) (nI p) τ) Q := by
  have h8 := rg_stops hR
  intro m
  induction m with
  | zero =>
    intro p f g x hp hf hg hx
    obtain ⟨f, rfl⟩ : ∃ n', f = n' + 1 := ⟨f - 1, by omega⟩
    obtain ⟨g, rfl⟩ : ∃ n', g = n' + 1 := ⟨g - 1, by omega⟩
    unfold fX9_judge_L49 fX10_judge_L49
    rw [xT_stops hX, hM 0 4 (vt0 (by omega))]
    have e : nI (T 0 4) ≤ nI p := nI_le (by omega) (by omega)
    rw [show p = T 0 4 by omega] at hx
    exact rl_T e (rr_T e (good x hx))
  | succ m ih =>
    intro p f g x hp hf hg hx
    obtain ⟨f, rfl⟩ : ∃ n', f = n' + 1 := ⟨f - 1, by omega⟩
    obtain ⟨g, rfl⟩ : ∃ n', g = n' + 1 := ⟨g - 1, by omega⟩
    have hp8 : p < 8 := by omega
    have h128 : 2 ^ p ≤ 2 ^ 7 := Nat.pow_le_pow_right (by omega) (by omega)
    unfold fX9_judge_L49 fX10_judge_L49
    rw [xT_stops hX, hM 0 4 (vt0 (by omega))]
    have e : ¬ nI (T 0 4) ≤ nI p := nI_ge (by omega) (by omega)
    refine rl_F e (rr_F e (rr_F n10 ?_))
    rw [q41]
    simp (disch := omega) only [rl_gd, rr_gd, pk_mul, nI_add, inb_n, true_and, nI_clamp, e_isWithin, e_in, bd_some, hv, nI_1]
    rcases rcase (gi τ 24 (41 * j + p)) (M := 1) (n := 1) rfl with c | ⟨c, v, hv1, ev⟩
    · simp only [c, ↓reduceIte, rr_lz]
      obtain ⟨g, rfl⟩ : ∃ n', g = n' + 1 := ⟨g - 1, by omega⟩
      unfold fX10_judge_L49
      by_cases z : gi τ 0 4 ≤ nI (p + 1)
      · exact rr_T z (bad _)
      · exact rr_F z (rr_T rfl (bad _))
    · simp only [c, n10, ↓reduceIte, rl_gd, rr_gd, true_and, rl_lz, rr_lz]
      rw [ev, tab_or p hp8 x (by omega) v (by omega) hx]
      refine ih (p + 1) f g (x + v * 2 ^ p) (by omega) (by omega) (by omega) ?_
      have hv2 : v * 2 ^ p ≤ 1 * 2 ^ p := Nat.mul_le_mul hv1 (Nat.le_refl _)
      rw [Nat.pow_succ]
      omega
theorem sim_judge : xs_judge RR := by
  intro σ τ h a0
  refine sim_of ?_
  obtain ⟨T, n, h⟩ := h
  have hR := h.1
  have hX := h.2.2.1
  have hM := h.2.2.2.1
  have h8 := rg_stops hR
  have h12 := rg_trips hR
  have p8 := pow_256 h8
  obtain ⟨f, hf⟩ := fu_big
  unfold fX9_judge fX10_judge fX10_judge_J43
  simp only [e_isSheet9, e_in, bd_some]
  rcases rcase a0 (M := 3) (n := 3) rfl with c | ⟨c, j, hj, rfl⟩
  · simp only [c, ↓reduceIte]
    exact sim_R h rfl
  obtain ⟨v, m, u1, u2, u3, u4, u5, u6, u7⟩ := h.2.2.2.2.2.2.2.1 j (by omega)
  simp (disch := omega) only [c, n10, ↓reduceIte, rl_gd, rr_gd, inb_n, nI_clamp, true_and, e_isMissing, bd_some, u3, u4, u5, u6]
  by_cases e : v = -1
  · simp only [e, n10, ↓reduceIte]
    exact sim_R h rfl
  simp (disch := omega) only [e, ↓reduceIte, rl_gd, rr_gd, inb_n, nI_clamp, true_and, xT_stops hX.1, hM 0 4 (vt0 (by omega))]
  rw [hf]
  by_cases d : nI m = nI (T 0 4)
  · refine rl_T d (rr_T d ?_)
    refine judge_loop hR (by omega) hX.1 hM u7 (fun y => ?_) (fun x hx => ?_) (T 0 4) 0 (f + 4000) (f + 4000) 0 (by omega) (by omega) (by omega) (by omega)
    · simp only [↓reduceIte]
      exact sim_R h rfl
    · simp only [n10, ↓reduceIte]
      refine rl_B (of_measure hR hX (fun s1 f1 m1 => ?_))
      have f1' : Fr xAsk σ s1 := Fr_mono f1 (fun _ _ => frS_ask)
      have hX1 := xCT_fr hX f1' (fun _ _ => xAsk_27)
      refine rl_B (of_lookAt hR (by omega) ⟨hX1, m1⟩ (xT_every hX1.1) (fun s2 f2 m2 k2 l2 => ?_))
      refine rr_B (of_keeps hM (fun τ3 g3 kp3 => ?_))
      have m3 := mTn_fr hM g3 (fun c i q => by unfold vT; omega)
      refine rr_B (of_totalWith hR (by omega) (mTb_of m3) (fun τ4 g4 m4 t4 => ?_))
      have e12 := m4 0 12 (vt0 (by omega))
      rw [wO_012] at e12
      refine rr_lz.mpr ?_
      rw [e12]
      have ej := e_judge123 (wO_rg hR x) k2 l2 (T 0 12) 0 (f + 4000) (by rw [wO_012]; omega) (by omega)
      rw [show (0 : Int32) = nI 0 from rfl]
      rw [ej]
      refine rr_O (ol_judge140 (wO_rg hR x) (T 0 12) 0 (f + 4000) τ4 (by rw [wO_012]; omega) (by omega) m4 (fun τ5 g5 => rr_U ?_))
      have kp4 : keptM τ4 T := fun p hp => by
        rw [(g4 30 p (by unfold frV; omega)).1]
        exact kp3 p hp
      have kp5 : keptM τ5 T := fun p hp => by
        rw [(g5 30 p (by unfold frW; omega)).1]
        exact kp4 p hp
      refine rr_B (of_lays (mTb_fr (mTb_wO m4) g5 (fun _ _ => frW_off)) kp5 (fun τ6 g6 m6 => ?_))
      rw [wO_012]
      refine sim_R (RT_end h (Fr_tr f1' (Fr_mono f2 (fun _ _ => frL_ask))) (Fr_tr (Fr_mono g3 (fun c i q => ?_)) (Fr_tr (Fr_mono g4 (fun c i q => frT_free (frVT q))) (Fr_tr (Fr_mono g5 (fun _ _ q => mAsk_free (frW_ask q))) (Fr_mono g6 (fun c i q => ?_))))) m6) rfl
      · unfold mFree
        omega
      · unfold mFree
        omega
  · refine rl_F d (rr_F d ?_)
    unfold fX10_judge_L49
    rw [hM 0 4 (vt0 (by omega))]
    by_cases z : nI (T 0 4) ≤ (0 : Int32)
    · refine rr_T z ?_
      simp only [↓reduceIte]
      exact sim_R h rfl
    · refine rr_F z (rr_T rfl ?_)
      simp only [↓reduceIte]
      exact sim_R h rfl
