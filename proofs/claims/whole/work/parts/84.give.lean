/-! ===== giving up ===== -/
def frG (c i : Nat) : Prop := frV c i ∨ c = 7 ∨ (c = 0 ∧ i = 62)
theorem frG_free {c i : Nat} (h : frG c i) : mFree c i := by
  unfold frG frV at h
  unfold mFree
  omega
/-- the one given up so far: none, or q with its total -/
def gvI (T : xTw) (x n : Nat) (τ : xM) (found : Int32) (L : Nat) : Prop := (found = -1 ∧ ∀ q, q < n → ¬ bitN x q = 1) ∨ ∃ q, q < T 0 4 ∧ bitN x q = 1 ∧ found = nI q ∧ L = totS (wO T (clrN x q)) ∧ gl τ 0 62 = lN L
theorem wO_up {T : xTw} {x p : Nat} (hp : p < T 0 4) (hb : bitN x p = 1) : up (up (wO T x) 7 p 0) 7 p 1 = wO T x := by
  funext c i
  by_cases e : c = 7 ∧ i = p
  · rw [e.1, e.2, up_same, wO_at hp, hb]
  · rw [up_ne e, up_ne e]
theorem give_loop {T : xTw} (hR : rgT T) {x : Nat} (hx : x < 256) {k1 k2 : Int32 → xM → Option (Int32 × xM)} {Q : Int32 → xM → Int32 → xM → Prop} : ∀ (m p f g : Nat) (σ τ : xM) (found : Int32) (L : Nat), p + m = T 0 4 → m < f → m < g → xMe σ T → mTn τ (wO T x) → gvI T x p τ found L → (∀ σ' τ' found' L', Fr frL σ σ' → Fr frG τ τ' → xMe σ' T → mTn τ' (wO T x) → gvI T x (T 0 4) τ' found' L' → Rel (k1 found' σ') (k2 found' τ') Q) → Rel (fX9_givenUpOf_L7 k1 (nI x) f found (lN L) (nI p) σ) (fX10_givesUp_L4 k2 g found (nI p) τ) Q := by
  have h8 := rg_stops hR
  have h12 := rg_trips hR
  intro m
  induction m with
  | zero =>
    intro p f g σ τ found L hp hf hg h1 h2 h3 kk
    obtain ⟨f, rfl⟩ : ∃ n', f = n' + 1 := ⟨f - 1, by omega⟩
    obtain ⟨g, rfl⟩ : ∃ n', g = n' + 1 := ⟨g - 1, by omega⟩
    have e4 := h2 0 4 (vt0 (by omega))
    rw [wO_04] at e4
    unfold fX9_givenUpOf_L7 fX10_givesUp_L4
    rw [xT_stops h1.1.1, e4]
    have e : nI (T 0 4) ≤ nI p := nI_le (by omega) (by omega)
    rw [show p = T 0 4 by omega] at h3
    exact rl_T e (rr_T e (kk σ τ found L Fr_rf Fr_rf h1 h2 h3))
  | succ m ih =>
    intro p f g σ τ found L hp hf hg h1 h2 h3 kk
    obtain ⟨f, rfl⟩ : ∃ n', f = n' + 1 := ⟨f - 1, by omega⟩
    obtain ⟨g, rfl⟩ : ∃ n', g = n' + 1 := ⟨g - 1, by omega⟩
    have e4 := h2 0 4 (vt0 (by omega))
    rw [wO_04] at e4
    have hp8 : p < 8 := by omega
    have hpT : p < T 0 4 := by omega
    have e7 := h2 7 p (vt3 (by omega) (by omega) hp8)
    rw [wO_at hpT] at e7
    have b1 := bitN_le x p
    unfold fX9_givenUpOf_L7 fX10_givesUp_L4
    rw [xT_stops h1.1.1, e4]
    have e : ¬ nI (T 0 4) ≤ nI p := nI_ge (by omega) (by omega)
    refine rl_F e (rr_F e ?_)
    refine rr_G (inb_n hp8 (by omega)) ?_
    rw [nI_clamp (by omega), e7]
    by_cases b : bitN x p = 1
    rotate_left
    · have z : nI x &&& ((1 : Int32) <<< (nI p &&& 31)) = 0 := (tab_bit x hx p hp8).mpr b
      have z2 : ¬ nI (bitN x p) = 1 := by
        rw [q1, nI_eq (by omega) (by omega)]
        exact b
      refine rl_T z (rr_F z2 ?_)
      rw [nI_1]
      refine ih (p + 1) f g σ τ found L (by omega) (by omega) (by omega) h1 h2 ?_ kk
      rcases h3 with ⟨q1, q2⟩ | q
      · refine Or.inl ⟨q1, fun q hq => ?_⟩
        by_cases e : q = p
        · rw [e]; exact b
        · exact q2 q (by omega)
      · exact Or.inr q
    · have z : ¬ nI x &&& ((1 : Int32) <<< (nI p &&& 31)) = 0 := fun q => (tab_bit x hx p hp8).mp q b
      have z2 : nI (bitN x p) = 1 := by
        rw [b]
        rfl
      refine rl_F z (rr_T z2 ?_)
      rw [tab_clr x hx p hp8]
      have cl := (tab_clb x hx p hp8).1
      have eT := wO_clr hR hx hpT
      have tA := totS_le (wO_rg hR (clrN x p))
      refine rl_B (of_totalOf hR (by omega) h1 (fun σ1 f1 m1 k1' l1 => ?_))
      simp (disch := omega) only [rr_gd, rr_lz, inb_n, true_and]
      have m3 : mTn (si τ 7 p 0) (wO T (clrN x p)) := mTn_cg (mTn_up h2 0) eT
      refine rr_B (of_total (wO_rg hR _) m3 (fun τ1 g1 w1 => ?_))
      simp (disch := omega) only [rr_gd, rr_lz, inb_n, true_and]
      have m4 := mTn_fr m3 g1 (fun _ _ => frV_off)
      have m5 : mTn (si τ1 7 p 1) (wO T x) := by
        refine mTn_cg (mTn_up m4 1) ?_
        rw [eT, wO_up hpT b]
      have g5 : Fr frG τ (si τ1 7 p 1) := Fr_si (Fr_tr (Fr_si Fr_rf _ (Or.inr (Or.inl rfl))) (Fr_mono g1 (fun _ _ q => Or.inl q))) _ (Or.inr (Or.inl rfl))
      have e62 : gl (si τ1 7 p 1) 0 62 = gl τ 0 62 := (g1 0 62 (by unfold frV; omega)).2
      have take : Rel (fX9_givenUpOf_L7 k1 (nI x) f (nI p) (lN (totS (wO T (clrN x p)))) (nI p + 1) σ1) (fX10_givesUp_L4 k2 g (nI p) (nI p + 1) (sl (si τ1 7 p 1) 0 62 (lN (totS (wO T (clrN x p)))))) Q := by
        rw [nI_1]
        have g6 : Fr frG τ (sl (si τ1 7 p 1) 0 62 (lN (totS (wO T (clrN x p))))) := Fr_sl g5 _ (Or.inr (Or.inr ⟨rfl, rfl⟩))
        exact ih (p + 1) f g σ1 _ _ _ (by omega) (by omega) (by omega) m1 m5 (Or.inr ⟨p, hpT, b, rfl, rfl, gl_same _ _ _ _⟩) (fun σ' τ' found' L' q1 q2 => kk σ' τ' found' L' (Fr_tr f1 q1) (Fr_tr g6 q2))
      unfold fX9_givenUpOf_J57 fX10_givesUp_J55
      rcases h3 with ⟨rfl, -⟩ | ⟨q, q1, q2, rfl, q4, q5⟩
      · exact rl_T rfl (rr_T rfl (rr_lz.mpr take))
      · have tL := totS_le (wO_rg hR (clrN x q))
        have n1 : ¬ nI q = -1 := nI_m1 (by omega)
        refine rl_F n1 (rr_F n1 ?_)
        rw [e62, q5]
        by_cases c : 0 ≤ lg_cmp (lN (totS (wO T (clrN x p)))) (lN L)
        · refine rl_T c (rr_T c ?_)
          rw [nI_1]
          exact ih (p + 1) f g σ1 _ _ _ (by omega) (by omega) (by omega) m1 m5 (Or.inr ⟨q, q1, q2, rfl, q4, by rw [e62]; exact q5⟩) (fun σ' τ' found' L' q1 q2 => kk σ' τ' found' L' (Fr_tr f1 q1) (Fr_tr g5 q2))
        · exact rl_F c (rr_F c (rr_lz.mpr take))
theorem rel_give {T : xTw} (hR : rgT T) {x : Nat} (hx : x < 256) {σ τ : xM} (h1 : xMe σ T) (h2 : mTn τ (wO T x)) {Q : Int32 → xM → Int32 → xM → Prop} (kk : ∀ σ' τ' found L, Fr frL σ σ' → Fr frG τ τ' → xMe σ' T → mTn τ' (wO T x) → gvI T x (T 0 4) τ' found L → Q found σ' found τ') : Rel (fX9_givenUpOf (nI x) σ) (fX10_givesUp τ) Q := by
  have h8 := rg_stops hR
  obtain ⟨f, hf⟩ := fu_big
  unfold fX9_givenUpOf fX10_givesUp
  rw [hf]
  exact give_loop hR hx (T 0 4) 0 (f + 4000) (f + 4000) σ τ (-1) 0 (by omega) (by omega) (by omega) h1 h2 (Or.inl ⟨rfl, fun q hq => absurd hq (Nat.not_lt_zero _)⟩) (fun σ' τ' found L f1 g1 m1 n1 i1 => rel_R (kk σ' τ' found L f1 g1 m1 n1 i1))
theorem sim_give : xs_give RR := by
  intro σ τ h
  refine sim_of ?_
  obtain ⟨T, n, h⟩ := h
  have hR := h.1
  have hX := h.2.2.1
  unfold fX9_give fX10_give
  refine rl_B (of_measure hR hX (fun s1 f1 m1 => ?_))
  have hX1 := xCT_fr hX f1 (fun _ _ => frS_27)
  rw [e_openSet hR hX1.1, bd_some]
  refine rel_BB (rel_give hR (setN_256 hR) ⟨hX1, m1⟩ (mTn_cg h.2.2.2.1 (wO_set hR)) (fun σ' τ' found L f2 g2 m2 n2 i2 => ?_))
  rw [wO_set hR] at n2
  exact sim_R (RT_end h (Fr_tr (Fr_mono f1 (fun _ _ => frS_ask)) (Fr_mono f2 (fun _ _ => frL_ask))) (Fr_mono g2 (fun _ _ => frG_free)) n2) rfl
/-! ===== order ===== -/
theorem tab_some : ∀ x, x < 256 → x ≠ 0 → ∃ p, p < 8 ∧ bitN x p = 1 := by decide +kernel
/-- with none open the model gives none up -/
theorem of_gives0 {T : xTw} (hR : rgT T) {s : xM} (h : mTn s (wO T 0)) : fX10_givesUp s = some (-1, s) := by
  have h8 := rg_stops hR
  have e4 := h 0 4 (vt0 (by omega))
  rw [wO_04] at e4
  obtain ⟨f, hf⟩ := fu_big
  have key : ∀ (m p n : Nat), p + m = T 0 4 → m < n → fX10_givesUp_L4 (fun x1 s2 => some (x1, s2)) n (-1) (nI p) s = some (-1, s) := by
    intro m
    induction m with
    | zero =>
      intro p n hp hn
      obtain ⟨n, rfl⟩ : ∃ n', n = n' + 1 := ⟨n - 1, by omega⟩
      unfold fX10_givesUp_L4
      rw [e4, if_pos (nI_le (by omega) (by omega))]
    | succ m ih =>
      intro p n hp hn
      obtain ⟨n, rfl⟩ : ∃ n', n = n' + 1 := ⟨n - 1, by omega⟩
      have e7 := h 7 p (vt3 (by omega) (by omega) (by omega))
      have b0 : bitN 0 p = 0 := by
        unfold bitN
        rw [Nat.zero_div]
      rw [wO_at (by omega), b0] at e7
      unfold fX10_givesUp_L4
      rw [e4, if_neg (nI_ge (by omega) (by omega)), gd_of (inb_n (by omega) (by omega)), nI_clamp (by omega), e7, if_neg (by decide), nI_1]
      exact ih (p + 1) n (by omega) (by omega)
  unfold fX10_givesUp
  rw [hf]
  exact key (T 0 4) 0 (f + 4000) (by omega) (by omega)
theorem e_order0 {T : xTw} (hR : rgT T) {s : xM} (h : mTn s (wO T 0)) {N : Nat} (hN : N ≤ 8) {kt : Int32 → xM → Option (Int32 × xM)} (d : Int32) : ∀ (m i n : Nat), i + m = N → m < n → fX10_order_L21 kt (nI N) n d (nI i) s = kt d s := by
  intro m
  induction m with
  | zero =>
    intro i n hi hn
    obtain ⟨n, rfl⟩ : ∃ n', n = n' + 1 := ⟨n - 1, by omega⟩
    unfold fX10_order_L21
    rw [if_pos (nI_le (by omega) (by omega))]
  | succ m ih =>
    intro i n hi hn
    obtain ⟨n, rfl⟩ : ∃ n', n = n' + 1 := ⟨n - 1, by omega⟩
    unfold fX10_order_L21
    rw [if_neg (nI_ge (by omega) (by omega)), of_gives0 hR h, bd_some, if_pos rfl, nI_1]
    exact ih (i + 1) n (by omega) (by omega)
theorem order_loop {T : xTw} (hR : rgT T) {N : Nat} (hN : N ≤ 8) {k1 k2 : Int32 → xM → Option (Int32 × xM)} {Q : Int32 → xM → Int32 → xM → Prop} : ∀ (m i f g x : Nat) (σ τ : xM) (d : Int32), i + m = N → m < f → m < g → x < 2 ^ T 0 4 → xMe σ T → mTn τ (wO T x) → keptM τ T → (∀ σ' τ' d' y, Fr frL σ σ' → Fr frG τ τ' → xMe σ' T → mTn τ' (wO T y) → keptM τ' T → Rel (k1 d' σ') (k2 d' τ') Q) → Rel (fX9_order_L33 k1 (nI N) f (nI x) d (nI i) σ) (fX10_order_L21 k2 (nI N) g d (nI i) τ) Q := by
  have h8 := rg_stops hR
  have p8 := pow_256 h8
  intro m
  induction m with
  | zero =>
    intro i f g x σ τ d hi hf hg hx h1 h2 h3 kk
    obtain ⟨f, rfl⟩ : ∃ n', f = n' + 1 := ⟨f - 1, by omega⟩
    obtain ⟨g, rfl⟩ : ∃ n', g = n' + 1 := ⟨g - 1, by omega⟩
    unfold fX9_order_L33 fX10_order_L21
    have e : nI N ≤ nI i := nI_le (by omega) (by omega)
    exact rl_T e (rr_T e (kk σ τ d x Fr_rf Fr_rf h1 h2 h3))
  | succ m ih =>
    intro i f g x σ τ d hi hf hg hx h1 h2 h3 kk
    by_cases x0 : x = 0
    · subst x0
      rw [e_order0 hR h2 hN d (m + 1) i g hi (by omega)]
      obtain ⟨f, rfl⟩ : ∃ n', f = n' + 1 := ⟨f - 1, by omega⟩
      unfold fX9_order_L33
      have e : ¬ nI N ≤ nI i := nI_ge (by omega) (by omega)
      exact rl_F e (rl_T rfl (kk σ τ d 0 Fr_rf Fr_rf h1 h2 h3))
    · obtain ⟨f, rfl⟩ : ∃ n', f = n' + 1 := ⟨f - 1, by omega⟩
      obtain ⟨g, rfl⟩ : ∃ n', g = n' + 1 := ⟨g - 1, by omega⟩
      unfold fX9_order_L33 fX10_order_L21
      have e : ¬ nI N ≤ nI i := nI_ge (by omega) (by omega)
      have e0 : ¬ nI x = 0 := by
        rw [nI_n0 (by omega)]
        exact x0
      refine rl_F e (rr_F e (rl_F e0 ?_))
      refine rel_BB (rel_give hR (by omega) h1 h2 (fun σ1 τ1 found L f1 g1 m1 n1 i1 => ?_))
      rcases i1 with ⟨-, q2⟩ | ⟨q, q1', q2, rfl, q4, q5⟩
      · obtain ⟨p, hp, hb⟩ := tab_some x (by omega) x0
        by_cases z : p < T 0 4
        · exact absurd hb (q2 p z)
        · rw [bitN_lt hx (by omega)] at hb
          omega
      · refine rr_F (nI_m1 (by omega)) ?_
        have hq8 : q < 8 := by omega
        simp (disch := omega) only [rl_lz, rr_gd, rr_lz, inb_n, true_and, nI_clamp]
        rw [tab_clr x (by omega) q hq8, nI_1]
        have ed : d * (10 : Int32) + nI q + 1 = (10 : Int32) * d + nI q + 1 := by rw [Int32.mul_comm]
        rw [ed]
        have cl := (tab_clb x (by omega) q hq8).1
        have m3 : mTn (si τ1 7 q 0) (wO T (clrN x q)) := mTn_cg (mTn_up n1 0) (wO_clr hR (by omega) q1')
        have g3 : Fr frG τ (si τ1 7 q 0) := Fr_si g1 _ (Or.inr (Or.inl rfl))
        have kp : keptM (si τ1 7 q 0) T := fun p hp => by
          rw [(g3 30 p (by unfold frG frV; omega)).1]
          exact h3 p hp
        exact ih (i + 1) f g (clrN x q) σ1 _ _ (by omega) (by omega) (by omega) (by omega) m1 m3 kp (fun σ' τ' d' y z1 z2 => kk σ' τ' d' y (Fr_tr f1 z1) (Fr_tr g3 z2))
theorem sim_order : xs_order RR := by
  intro σ τ h a0
  refine sim_of ?_
  obtain ⟨T, n, h⟩ := h
  have hR := h.1
  have hX := h.2.2.1
  have h8 := rg_stops hR
  obtain ⟨f, hf⟩ := fu_big
  unfold fX9_order fX10_order
  simp only [e_isWithin, e_in, bd_some]
  rcases rcase a0 (M := 8) (n := 8) rfl with d | ⟨d, N, hN, rfl⟩
  · simp only [d, ↓reduceIte]
    exact sim_R h rfl
  simp only [d, n10, ↓reduceIte]
  rw [hf]
  refine rl_B (of_measure hR hX (fun s1 f1 m1 => ?_))
  have hX1 := xCT_fr hX f1 (fun _ _ => frS_27)
  rw [e_openSet hR hX1.1, bd_some]
  refine rr_B (of_keeps h.2.2.2.1 (fun τ3 g3 kp3 => ?_))
  have m3 := mTn_fr h.2.2.2.1 g3 (fun c i q => by unfold vT; omega)
  refine order_loop hR hN N 0 (f + 4000) (f + 4000) (setN T (T 0 4)) s1 τ3 0 (by omega) (by omega) (by omega) (setN_lt _ (fun p hp => rg_open hR (by omega))) ⟨hX1, m1⟩ (mTn_cg m3 (wO_set hR)) kp3 (fun σ' τ' d' y f4 g4 x4 b4 k4 => ?_)
  refine rr_B (of_lays (mTb_wO b4) k4 (fun τ5 g5 m5 => ?_))
  refine sim_R (RT_end h (Fr_tr (Fr_mono f1 (fun _ _ => frS_ask)) (Fr_mono f4 (fun _ _ => frL_ask))) (Fr_tr (Fr_mono g3 (fun c i q => ?_)) (Fr_tr (Fr_mono g4 (fun _ _ => frG_free)) (Fr_mono g5 (fun c i q => ?_)))) m5) rfl
  · unfold mFree
    omega
  · unfold mFree
    omega
/-! ===== thins ===== -/
theorem sumN_up0 {T : xTw} {q : Nat} (h : T 7 q = 1) : ∀ n, q < n → sumN (fun p => up T 7 q 0 7 p) n + 1 = sumN (fun p => T 7 p) n
  | 0, hq => absurd hq (Nat.not_lt_zero _)
  | n + 1, hq => by
    show sumN (fun p => up T 7 q 0 7 p) n + up T 7 q 0 7 n + 1 = sumN (fun p => T 7 p) n + T 7 n
    by_cases e : n = q
    · subst e
      rw [up_same, h]
      have : sumN (fun p => up T 7 n 0 7 p) n = sumN (fun p => T 7 p) n := sumN_congr n (fun i hi => up_ne (by omega))
      rw [this]
    · rw [up_ne (by omega)]
      have := sumN_up0 h n (by omega)
      omega
theorem thins_loop {n : Nat} : ∀ (m i f g given : Nat) (σ τ : xM) (T : xTw), i + m = 8 → m < f → m < g → RT σ τ T n → Meas σ T → sumN (fun p => T 7 p) (T 0 4) ≤ m → Rel (fX9_thins_L11 (fun x4 s5 => some (x4, s5)) (fun x6 s7 => some (x6, s7)) f (nI given) (nI i) σ) (bd (fX10_givesUp τ) (fun r1 s2 => fX10_thins_L7 (fun x4 s5 => some (x4, s5)) g (nI given) r1 s2)) SimP := by
  intro m
  induction m with
  | zero =>
    intro i f g given σ τ T hi hf hg h hM hs
    have hR := h.1
    have h8 := rg_stops hR
    obtain ⟨f, rfl⟩ : ∃ n', f = n' + 1 := ⟨f - 1, by omega⟩
    obtain ⟨g, rfl⟩ : ∃ n', g = n' + 1 := ⟨g - 1, by omega⟩
    have zero : ∀ p, p < T 0 4 → T 7 p = 0 := by
      have key : ∀ n, sumN (fun p => T 7 p) n = 0 → ∀ p, p < n → T 7 p = 0 := by
        intro n
        induction n with
        | zero => exact fun _ p hp => absurd hp (Nat.not_lt_zero _)
        | succ n ih =>
          intro z p hp
          have z : sumN (fun p => T 7 p) n + T 7 n = 0 := z
          by_cases e : p = n
          · rw [e]; omega
          · exact ih (by omega) p (by omega)
      exact key _ (by omega)
    have w0 : wO T 0 = T := by
      funext c i
      by_cases e : c = 7 ∧ i < T 0 4
      · have b0 : bitN 0 i = 0 := by
          unfold bitN
          rw [Nat.zero_div]
        rw [e.1, wO_at e.2, b0, zero i e.2]
      · unfold wO
        rw [if_neg e]
    rw [of_gives0 hR (mTn_cg h.2.2.2.1 w0), bd_some]
    unfold fX9_thins_L11 fX10_thins_L7
    refine rl_T (nI_le (a := 8) (by omega) (by omega)) (rr_T rfl ?_)
    exact sim_R h rfl
  | succ m ih =>
    intro i f g given σ τ T hi hf hg h hM hs
    have hR := h.1
    have hX := h.2.2.1
    have h8 := rg_stops hR
    have s256 := setN_256 hR
    obtain ⟨f, rfl⟩ : ∃ n', f = n' + 1 := ⟨f - 1, by omega⟩
    obtain ⟨g, rfl⟩ : ∃ n', g = n' + 1 := ⟨g - 1, by omega⟩
    unfold fX9_thins_L11
    refine rl_F (nI_ge (b := 8) (by omega) (by omega)) ?_
    rw [e_openSet hR hX.1, bd_some]
    refine rel_BB (rel_give hR s256 ⟨hX, hM⟩ (mTn_cg h.2.2.2.1 (wO_set hR)) (fun σ1 τ1 found L f1 g1 m1 n1 i1 => ?_))
    rw [wO_set hR] at n1
    have h1 := RT_end h (Fr_mono f1 (fun _ _ => frL_ask)) (Fr_mono g1 (fun _ _ => frG_free)) n1
    unfold fX10_thins_L7
    rcases i1 with ⟨rfl, -⟩ | ⟨q, q1', q2, rfl, q4, q5⟩
    · exact rl_T rfl (rr_T rfl (sim_R h1 rfl))
    · have hq8 : q < 8 := by omega
      have n1' : ¬ nI q = -1 := nI_m1 (by omega)
      have cl := (tab_clb _ s256 q hq8).1
      have eT : wO T (clrN (setN T (T 0 4)) q) = up T 7 q 0 := by rw [wO_clr hR s256 q1', wO_set hR]
      have oq : T 7 q = 1 := by
        rw [← q2]
        exact (bitN_setN _ (fun p hp => rg_open hR (by omega)) q q1').symm
      have tA := totS_le (wO_rg hR (clrN (setN T (T 0 4)) q))
      have tB := totS_le hR
      refine rl_F n1' (rr_F n1' ?_)
      rw [tab_clr _ s256 q hq8]
      refine rl_B (of_totalOf hR (by omega) m1 (fun σ2 f2 m2 k2 l2 => ?_))
      refine rl_B (of_totalOf hR s256 m2 (fun σ3 f3 m3 k3 l3 => ?_))
      refine rr_B (of_total hR n1 (fun τ2 g2 w2 => ?_))
      rw [wO_set hR, q5, q4]
      have h3 := RT_ask h1 (Fr_mono (Fr_tr f2 f3) (fun _ _ => frL_ask)) (Fr_mono g2 (fun _ _ => frV_ask))
      by_cases c : totS (wO T (clrN (setN T (T 0 4)) q)) ≤ totS T
      · refine rl_T ((cmp_le (by omega) (by omega)).mpr c) (rr_F (fun z => by have := (cmp_gt (by omega) (by omega)).mp z; omega) ?_)
        simp (disch := omega) only [rl_gd, rl_lz, rr_gd, rr_lz, inb_n, true_and, nI_clamp, nI_1]
        have h4 := RT_stop (v := 0) h3 q1' (c := 7) (by omega) (by omega) (Nat.zero_le _)
        have f4 : Fr (fun c _ => 11 ≤ c ∧ c ≤ 18) σ3 (si σ3 (11 + q) 5 0) := Fr_si Fr_rf _ (by omega)
        have M4 : Meas (si σ3 (11 + q) 5 0) (up T 7 q 0) := by
          refine Meas_cg (T := T) ?_ ⟨up_ne (by omega), up_ne (by omega), fun c i _ z => up_ne (fun y => z y.1)⟩
          have z : ∀ c i, 19 ≤ c → gi (si σ3 (11 + q) 5 0) c i = gi σ3 c i := fun c i y => (f4 c i (by omega)).1
          refine ⟨fun p hp => ?_, fun t ht => ⟨?_, fun p hp => ?_⟩⟩
          · rw [z _ _ (by omega), z _ _ (by omega)]
            exact m3.2.1 p hp
          · rw [z _ _ (by omega)]
            exact (m3.2.2 t ht).1
          · rw [z _ _ (by omega), z _ _ (by omega)]
            exact (m3.2.2 t ht).2 p hp
        refine ih (i + 1) f g (given + 1) _ _ (up T 7 q 0) (by omega) (by omega) (by omega) h4 M4 ?_
        rw [up_ne (by omega)]
        have := sumN_up0 oq (T 0 4) q1'
        omega
      · refine rl_F (fun z => c ((cmp_le (by omega) (by omega)).mp z)) (rr_T ((cmp_gt (by omega) (by omega)).mpr (by omega)) ?_)
        exact sim_R h3 rfl
theorem sim_thins : xs_thins RR := by
  intro σ τ h
  refine sim_of ?_
  obtain ⟨T, n, h⟩ := h
  have hR := h.1
  have hX := h.2.2.1
  have h8 := rg_stops hR
  obtain ⟨f, hf⟩ := fu_big
  unfold fX9_thins fX10_thins
  rw [hf]
  refine rl_B (of_measure hR hX (fun s1 f1 m1 => ?_))
  have h1 := RT_ask h (Fr_mono f1 (fun _ _ => frS_ask)) Fr_rf
  have hs := sumN_le (f := fun p => T 7 p) (b := 1) (T 0 4) (fun i hi => rg_open hR (by omega))
  exact thins_loop 8 0 (f + 4000) (f + 4000) 0 s1 τ T (by omega) (by omega) (by omega) h1 m1 (by omega)
