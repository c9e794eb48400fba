/-! ===== image ===== -/
theorem nar_bool {b : Nat} (h : b ≤ 1) : vp_nar .boolean (nI b) = nI b := by
  rcases (show b = 0 ∨ b = 1 by omega) with e | e
  · rw [e]
    decide +kernel
  · rw [e]
    decide +kernel
theorem rst4 {σ τ σ' τ' : xM} {N n : Nat} (h : rstR σ τ N n) (a : ∀ c i, (c = 0 ∨ c = 78 ∨ (c = 77 ∧ i = 1) ∨ (97 ≤ c ∧ c ≤ 120 ∧ c % 4 ≠ 0) ∨ 121 ≤ c) → gi σ' c i = gi σ c i) (b : ∀ c i, ((c = 0 ∧ (i = 18 ∨ i = 21 ∨ i = 22)) ∨ (14 ≤ c ∧ c ≤ 16) ∨ (22 ≤ c ∧ c ≤ 24)) → gi τ' c i = gi τ c i) (d : ∀ i, gl τ' 26 i = gl τ 26 i) : tapR σ' τ' ∧ txtR σ' τ' n ∧ shtR σ' τ' ∧ wrdR τ' := by
  obtain ⟨h1, h2, h3, h4, h5⟩ := h
  refine ⟨tapR_fr h1 (fun i => ⟨a _ _ (by omega), a _ _ (by omega)⟩) (fun i => ⟨b _ _ (by omega), b _ _ (by omega)⟩), ?_, fun j hj => ?_, fun k hk => by rw [d]; exact h5 k hk⟩
  · obtain ⟨x1, x2, x3, x4, ⟨w, x5, x6, x7⟩, x8⟩ := h2
    refine ⟨x1, x2, by rw [a _ _ (by omega)]; exact x3, by rw [b _ _ (by omega)]; exact x4, ⟨w, x5, by rw [a _ _ (by omega)]; exact x6, by rw [b _ _ (by omega)]; exact x7⟩, fun j hj => oneT_eq (x8 j hj) (fun i => ⟨a _ _ (by omega), a _ _ (by omega), a _ _ (by omega)⟩) (fun q hq => b _ _ (by omega)) (fun c hc => b _ _ (by omega))⟩
  · obtain ⟨v, m, u1, u2, u3, u4, u5, u6, u7⟩ := h4 j hj
    exact ⟨v, m, u1, u2, by rw [a _ _ (by omega)]; exact u3, by rw [b _ _ (by omega)]; exact u4, by rw [a _ _ (by omega)]; exact u5, by rw [b _ _ (by omega)]; exact u6, fun i hi => by rw [a _ _ (by omega), b _ _ (by omega)]; exact u7 i hi⟩
theorem ol_keep27 {T : xTw} {kt : xM → Option (Int32 × xM)} {Q : Int32 → xM → Prop} : ∀ (m k n : Nat) (s : xM), k + m = 3 → m < n → (∀ j w, j < 3 → w < 6 → gi s (6 + j) w = nI (T 2 (6 * j + w))) → (∀ j w, j < k → w < 6 → gi s (84 + j) w = nI (T 2 (6 * j + w))) → (∀ s', Fr (fun c _ => 84 ≤ c ∧ c ≤ 86) s s' → (∀ j w, j < 3 → w < 6 → gi s' (84 + j) w = nI (T 2 (6 * j + w))) → Ok (kt s') Q) → Ok (fX0_keep_L27 kt n (nI k) s) Q := by
  intro m
  induction m with
  | zero =>
    intro k n s hk hn hs hd kk
    obtain ⟨n, rfl⟩ : ∃ n', n = n' + 1 := ⟨n - 1, by omega⟩
    unfold fX0_keep_L27
    refine ok_T (nI_le (a := 3) (by omega) (by omega)) ?_
    exact kk s Fr_rf (fun j w hj hw => hd j w (by omega) hw)
  | succ m ih =>
    intro k n s hk hn hs hd kk
    obtain ⟨n, rfl⟩ : ∃ n', n = n' + 1 := ⟨n - 1, by omega⟩
    unfold fX0_keep_L27
    refine ok_F (nI_ge (b := 3) (by omega) (by omega)) ?_
    simp (disch := omega) only [ok_gd, inb_n, true_and, nI_clamp, nI_1]
    refine ⟨by decide, ok_lz.mpr ?_⟩
    show Ok (fX0_keep_L27 kt n (nI (k + 1)) (scp s (6 + k) 0 (84 + k) 0 6)) Q
    have f1 : Fr (fun c _ => 84 ≤ c ∧ c ≤ 86) s (scp s (6 + k) 0 (84 + k) 0 6) := Fr_scp Fr_rf (fun i _ _ => by omega)
    refine ih (k + 1) n _ (by omega) (by omega) (fun j w hj hw => ?_) (fun j w hj hw => ?_) (fun s' f => kk s' (Fr_tr f1 f))
    · rw [(f1 (6 + j) w (by omega)).1]
      exact hs j w hj hw
    · rw [gi_scp]
      by_cases e : j = k
      · rw [if_pos (by omega), e, Nat.zero_add, Nat.sub_zero]
        exact hs k w (by omega) hw
      · rw [if_neg (by omega)]
        exact hd j w (by omega) hw
theorem ol_keep83 {T : xTw} (hR : rgT T) {kt : xM → Option (Int32 × xM)} {Q : Int32 → xM → Prop} : ∀ (m p n : Nat) (s : xM), p + m = T 0 4 → m < n → gi s 81 6 = nI (T 0 4) → xTn s T → (∀ j, j < p → gi s 87 j = nI (T 7 j) ∧ gi s 88 j = nI (T 8 j) ∧ gi s 89 j = nI (T 9 j)) → (∀ s', Fr (fun c _ => 87 ≤ c ∧ c ≤ 89) s s' → (∀ j, j < T 0 4 → gi s' 87 j = nI (T 7 j) ∧ gi s' 88 j = nI (T 8 j) ∧ gi s' 89 j = nI (T 9 j)) → Ok (kt s') Q) → Ok (fX0_keep_L83 kt n (nI p) s) Q := by
  have h8 := rg_stops hR
  intro m
  induction m with
  | zero =>
    intro p n s hp hn h6 hT hd kk
    obtain ⟨n, rfl⟩ : ∃ n', n = n' + 1 := ⟨n - 1, by omega⟩
    unfold fX0_keep_L83
    refine ok_T (by rw [h6]; exact nI_le (by omega) (by omega)) ?_
    exact kk s Fr_rf (fun j hj => hd j (by omega))
  | succ m ih =>
    intro p n s hp hn h6 hT hd kk
    obtain ⟨n, rfl⟩ : ∃ n', n = n' + 1 := ⟨n - 1, by omega⟩
    have hp8 : p < 8 := by omega
    have o := rg_open hR hp8
    unfold fX0_keep_L83
    refine ok_F (by rw [h6]; exact nI_ge (by omega) (by omega)) ?_
    simp (disch := omega) only [ok_gd, ok_lz, inb_n, true_and, nI_clamp, nI_1, xT_open hT, nar_bool]
    have f1 : Fr (fun c _ => 87 ≤ c ∧ c ≤ 89) s (si s 87 p (nI (T 7 p))) := Fr_si Fr_rf _ (by omega)
    have hT1 := xTn_fr hT f1 (fun c i q => by unfold xoff; omega)
    rw [xT_wanted hT1 hp8]
    have f2 := Fr_si f1 (c := 88) (i := p) (nI (T 8 p)) (by omega)
    have hT2 := xTn_fr hT f2 (fun c i q => by unfold xoff; omega)
    rw [xT_pattern hT2 hp8]
    have f3 := Fr_si f2 (c := 89) (i := p) (nI (T 9 p)) (by omega)
    refine ih (p + 1) n _ (by omega) (by omega) (by rw [(f3 81 6 (by omega)).1]; exact h6) (xTn_fr hT f3 (fun c i q => by unfold xoff; omega)) (fun j hj => ?_) (fun s' f => kk s' (Fr_tr f3 f))
    by_cases e : j = p
    · subst e
      refine ⟨?_, ?_, gi_same _ _ _ _⟩
      · rw [gi_si, if_neg (by omega), gi_si, if_neg (by omega), gi_same]
      · rw [gi_si, if_neg (by omega), gi_same]
    · have g := hd j (by omega)
      refine ⟨?_, ?_, ?_⟩
      · rw [gi_si, if_neg (by omega), gi_si, if_neg (by omega), gi_si, if_neg (by omega)]
        exact g.1
      · rw [gi_si, if_neg (by omega), gi_si, if_neg (by omega), gi_si, if_neg (by omega)]
        exact g.2.1
      · rw [gi_si, if_neg (by omega), gi_si, if_neg (by omega), gi_si, if_neg (by omega)]
        exact g.2.2
/-- the class's half of an image -/
def imgX (σ : xM) (I : xTw) : Prop := gi σ 81 4 = nI (I 0 2) ∧ gi σ 81 5 = nI (I 0 3) ∧ gi σ 81 6 = nI (I 0 4) ∧ gi σ 81 10 = nI (I 0 12) ∧ (∀ i, i < 41 → gi σ 82 i = nI (I 1 i)) ∧ (∀ k w, k < 3 → w < 6 → gi σ (84 + k) w = nI (I 2 (6 * k + w))) ∧ (∀ p, p < I 0 4 → gi σ 87 p = nI (I 7 p) ∧ gi σ 88 p = nI (I 8 p) ∧ gi σ 89 p = nI (I 9 p))
def imgM (τ : xM) (I : xTw) : Prop := gi τ 0 26 = nI (I 0 2) ∧ gi τ 0 27 = nI (I 0 3) ∧ gi τ 0 24 = nI (I 0 4) ∧ gi τ 0 25 = nI (I 0 12) ∧ (∀ i, i < 41 → gi τ 17 i = nI (I 1 i)) ∧ (∀ k w, k < 3 → w < 6 → gi τ 18 (6 * k + w) = nI (I 2 (6 * k + w))) ∧ (∀ p, p < I 0 4 → gi τ 19 p = nI (I 7 p) ∧ gi τ 20 p = nI (I 8 p) ∧ gi τ 21 p = nI (I 9 p))
theorem imgI_iff {σ τ : xM} {I : xTw} : imgI σ τ I ↔ imgX σ I ∧ imgM τ I := by
  constructor
  · rintro ⟨z1, z2, z3, z4, z5, z6, z7, z8, z9, z10, z11⟩
    exact ⟨⟨z1, z3, z5, z7, fun i hi => (z9 i hi).1, fun k w hk hw => (z10 k w hk hw).1, fun p hp => ⟨(z11 p hp).1, (z11 p hp).2.2.1, (z11 p hp).2.2.2.2.1⟩⟩, ⟨z2, z4, z6, z8, fun i hi => (z9 i hi).2, fun k w hk hw => (z10 k w hk hw).2, fun p hp => ⟨(z11 p hp).2.1, (z11 p hp).2.2.2.1, (z11 p hp).2.2.2.2.2⟩⟩⟩
  · rintro ⟨⟨z1, z3, z5, z7, a1, a2, a3⟩, ⟨z2, z4, z6, z8, b1, b2, b3⟩⟩
    exact ⟨z1, z2, z3, z4, z5, z6, z7, z8, fun i hi => ⟨a1 i hi, b1 i hi⟩, fun k w hk hw => ⟨a2 k w hk hw, b2 k w hk hw⟩, fun p hp => ⟨(a3 p hp).1, (b3 p hp).1, (a3 p hp).2.1, (b3 p hp).2.1, (a3 p hp).2.2, (b3 p hp).2.2⟩⟩
def frI (c _i : Nat) : Prop := 81 ≤ c ∧ c ≤ 89
theorem of_keep {T : xTw} (hR : rgT T) {s : xM} {a : Int32} {Q : Int32 → xM → Prop} (hT : xTn s T) (kk : ∀ s', Fr frI s s' → gi s' 81 0 = 1 → gi s' 81 1 = a → imgX s' T → Q 0 s') : Ok (fX0_keep a s) Q := by
  have h8 := rg_stops hR
  obtain ⟨f, hf⟩ := fu_big
  unfold fX0_keep
  simp only [ok_lz, ok_gd]
  refine ⟨by decide, ?_⟩
  rw [hf]
  have fo : ∀ c i, frI c i → xoff c i := fun c i q => by unfold frI at q; unfold xoff; omega
  have f1 : Fr frI s (si (si s 81 0 1) 81 1 a) := Fr_si (Fr_si Fr_rf _ ⟨by omega, by omega⟩) _ ⟨by omega, by omega⟩
  have f2 : Fr frI s (scp (si (si s 81 0 1) 81 1 a) 2 0 82 0 41) := Fr_scp f1 (fun i _ _ => ⟨by omega, by omega⟩)
  have hT1 := xTn_fr hT f1 fo
  have hT2 := xTn_fr hT f2 fo
  show Ok (fX0_keep_L27 _ (f + 4000) (nI 0) (scp (si (si s 81 0 1) 81 1 a) 2 0 82 0 41)) Q
  have h82 : ∀ i, i < 41 → gi (scp (si (si s 81 0 1) 81 1 a) 2 0 82 0 41) 82 i = nI (T 1 i) := by
    intro i hi
    rw [gi_scp, if_pos (by omega), Nat.zero_add, Nat.sub_zero]
    exact xT_height hT1 hi
  refine ol_keep27 (T := T) 3 0 (f + 4000) _ (by omega) (by omega) (fun j w hj hw => xT_sort hT2 hj hw) (fun j w hj => absurd hj (Nat.not_lt_zero _)) (fun s3 f3 w3 => ?_)
  have g3 : Fr frI s s3 := Fr_tr f2 (Fr_mono f3 (fun c i q => ⟨by omega, by omega⟩))
  have hT3 := xTn_fr hT g3 fo
  simp only [ok_lz]
  have g4 := Fr_si g3 (c := 81) (i := 4) (gi s3 1 4) ⟨by omega, by omega⟩
  have g5 := Fr_si g4 (c := 81) (i := 5) (gi (si s3 81 4 (gi s3 1 4)) 1 5) ⟨by omega, by omega⟩
  have g6 := Fr_si g5 (c := 81) (i := 6) (gi (si (si s3 81 4 (gi s3 1 4)) 81 5 (gi (si s3 81 4 (gi s3 1 4)) 1 5)) 1 7) ⟨by omega, by omega⟩
  have e4 : gi s3 1 4 = nI (T 0 2) := xT_every hT3
  have e5 : gi (si s3 81 4 (gi s3 1 4)) 1 5 = nI (T 0 3) := xT_pace (xTn_fr hT g4 fo)
  have e6 : gi (si (si s3 81 4 (gi s3 1 4)) 81 5 (gi (si s3 81 4 (gi s3 1 4)) 1 5)) 1 7 = nI (T 0 4) := xT_stops (xTn_fr hT g5 fo)
  rw [e6, e5, e4] at g6
  rw [e6, e5, e4]
  refine ol_keep83 hR (T 0 4) 0 (f + 4000) _ (by omega) (by omega) (gi_same _ _ _ _) (xTn_fr hT g6 fo) (fun j hj => absurd hj (Nat.not_lt_zero _)) (fun s7 f7 w7 => ?_)
  have g7 : Fr frI s s7 := Fr_tr g6 (Fr_mono f7 (fun c i q => ⟨by omega, by omega⟩))
  have e9 : gi s7 1 9 = nI (T 0 12) := xT_trips (xTn_fr hT g7 fo)
  rw [e9]
  refine ok_R (kk _ (Fr_si g7 _ ⟨by omega, by omega⟩) ?_ ?_ ⟨?_, ?_, ?_, gi_same _ _ _ _, fun i hi => ?_, fun k w hk hw => ?_, fun p hp => ?_⟩)
  · rw [gi_si, if_neg (by omega), (f7 81 0 (by omega)).1, gi_si, if_neg (by omega), gi_si, if_neg (by omega), gi_si, if_neg (by omega), (f3 81 0 (by omega)).1]
    rfl
  · rw [gi_si, if_neg (by omega), (f7 81 1 (by omega)).1, gi_si, if_neg (by omega), gi_si, if_neg (by omega), gi_si, if_neg (by omega), (f3 81 1 (by omega)).1]
    rfl
  · rw [gi_si, if_neg (by omega), (f7 81 4 (by omega)).1, gi_si, if_neg (by omega), gi_si, if_neg (by omega), gi_same]
  · rw [gi_si, if_neg (by omega), (f7 81 5 (by omega)).1, gi_si, if_neg (by omega), gi_same]
  · rw [gi_si, if_neg (by omega), (f7 81 6 (by omega)).1, gi_same]
  · rw [gi_si, if_neg (by omega), (f7 82 i (by omega)).1, gi_si, if_neg (by omega), gi_si, if_neg (by omega), gi_si, if_neg (by omega), (f3 82 i (by omega)).1]
    exact h82 i hi
  · rw [gi_si, if_neg (by omega), (f7 (84 + k) w (by omega)).1, gi_si, if_neg (by omega), gi_si, if_neg (by omega), gi_si, if_neg (by omega)]
    exact w3 k w hk hw
  · rw [gi_si, if_neg (by omega), gi_si, if_neg (by omega), gi_si, if_neg (by omega)]
    exact w7 p hp
/-! the model's image -/
theorem ol_mimg47 {T : xTw} {kt : xM → Option (Int32 × xM)} {Q : Int32 → xM → Prop} : ∀ (m k n : Nat) (s : xM), k + m = 41 → m < n → mTn s T → (∀ j, j < k → gi s 17 j = nI (T 1 j)) → (∀ s', Fr (fun c _ => c = 17) s s' → (∀ j, j < 41 → gi s' 17 j = nI (T 1 j)) → Ok (kt s') Q) → Ok (fX10_image_L47 kt n (nI k) s) Q := by
  intro m
  induction m with
  | zero =>
    intro k n s hk hn hs hd kk
    obtain ⟨n, rfl⟩ : ∃ n', n = n' + 1 := ⟨n - 1, by omega⟩
    unfold fX10_image_L47
    refine ok_T (nI_lt (a := 40) (by omega) (by omega)) ?_
    exact kk s Fr_rf (fun j hj => hd j (by omega))
  | succ m ih =>
    intro k n s hk hn hs hd kk
    obtain ⟨n, rfl⟩ : ∃ n', n = n' + 1 := ⟨n - 1, by omega⟩
    unfold fX10_image_L47
    refine ok_F (nI_nlt (a := 40) (by omega) (by omega)) ?_
    simp (disch := omega) only [ok_gd, ok_lz, inb_n, true_and, nI_clamp, nI_1]
    rw [hs 1 k (vt1 (by omega))]
    have f1 : Fr (fun c _ => c = 17) s (si s 17 k (nI (T 1 k))) := Fr_si Fr_rf _ rfl
    refine ih (k + 1) n _ (by omega) (by omega) (mTn_fr hs f1 (fun c i q => by unfold vT; omega)) (fun j hj => ?_) (fun s' f => kk s' (Fr_tr f1 f))
    rw [gi_si]
    by_cases e : j = k
    · rw [if_pos ⟨rfl, e⟩, e]
    · rw [if_neg (by omega)]
      exact hd j (by omega)
theorem ol_mimg73 {T : xTw} {kt : xM → Option (Int32 × xM)} {Q : Int32 → xM → Prop} : ∀ (m k n : Nat) (s : xM), k + m = 18 → m < n → mTn s T → (∀ j, j < k → gi s 18 j = nI (T 2 j)) → (∀ s', Fr (fun c _ => c = 18) s s' → (∀ j, j < 18 → gi s' 18 j = nI (T 2 j)) → Ok (kt s') Q) → Ok (fX10_image_L73 kt n (nI k) s) Q := by
  intro m
  induction m with
  | zero =>
    intro k n s hk hn hs hd kk
    obtain ⟨n, rfl⟩ : ∃ n', n = n' + 1 := ⟨n - 1, by omega⟩
    unfold fX10_image_L73
    refine ok_T (nI_le (a := 18) (by omega) (by omega)) ?_
    exact kk s Fr_rf (fun j hj => hd j (by omega))
  | succ m ih =>
    intro k n s hk hn hs hd kk
    obtain ⟨n, rfl⟩ : ∃ n', n = n' + 1 := ⟨n - 1, by omega⟩
    unfold fX10_image_L73
    refine ok_F (nI_ge (b := 18) (by omega) (by omega)) ?_
    simp (disch := omega) only [ok_gd, ok_lz, inb_n, true_and, nI_clamp, nI_1]
    rw [hs 2 k (vt2 (by omega))]
    have f1 : Fr (fun c _ => c = 18) s (si s 18 k (nI (T 2 k))) := Fr_si Fr_rf _ rfl
    refine ih (k + 1) n _ (by omega) (by omega) (mTn_fr hs f1 (fun c i q => by unfold vT; omega)) (fun j hj => ?_) (fun s' f => kk s' (Fr_tr f1 f))
    rw [gi_si]
    by_cases e : j = k
    · rw [if_pos ⟨rfl, e⟩, e]
    · rw [if_neg (by omega)]
      exact hd j (by omega)
theorem ol_mimg99 {T : xTw} {kt : xM → Option (Int32 × xM)} {Q : Int32 → xM → Prop} : ∀ (m k n : Nat) (s : xM), k + m = 8 → m < n → mTn s T → (∀ j, j < k → gi s 19 j = nI (T 7 j) ∧ gi s 20 j = nI (T 8 j) ∧ gi s 21 j = nI (T 9 j)) → (∀ s', Fr (fun c _ => 19 ≤ c ∧ c ≤ 21) s s' → (∀ j, j < 8 → gi s' 19 j = nI (T 7 j) ∧ gi s' 20 j = nI (T 8 j) ∧ gi s' 21 j = nI (T 9 j)) → Ok (kt s') Q) → Ok (fX10_image_L99 kt n (nI k) s) Q := by
  intro m
  induction m with
  | zero =>
    intro k n s hk hn hs hd kk
    obtain ⟨n, rfl⟩ : ∃ n', n = n' + 1 := ⟨n - 1, by omega⟩
    unfold fX10_image_L99
    refine ok_T (nI_le (a := 8) (by omega) (by omega)) ?_
    exact kk s Fr_rf (fun j hj => hd j (by omega))
  | succ m ih =>
    intro k n s hk hn hs hd kk
    obtain ⟨n, rfl⟩ : ∃ n', n = n' + 1 := ⟨n - 1, by omega⟩
    have hk8 : k < 8 := by omega
    unfold fX10_image_L99
    refine ok_F (nI_ge (b := 8) (by omega) (by omega)) ?_
    simp (disch := omega) only [ok_gd, ok_lz, inb_n, true_and, nI_clamp, nI_1]
    rw [hs 7 k (vt3 (by omega) (by omega) hk8)]
    have fo : ∀ c i : Nat, (19 ≤ c ∧ c ≤ 21) → ¬ vT c i := fun c i q => by unfold vT; omega
    have f1 : Fr (fun c _ => 19 ≤ c ∧ c ≤ 21) s (si s 19 k (nI (T 7 k))) := Fr_si Fr_rf _ (by omega)
    rw [mTn_fr hs f1 fo 8 k (vt3 (by omega) (by omega) hk8)]
    have f2 := Fr_si f1 (c := 20) (i := k) (nI (T 8 k)) (by omega)
    rw [mTn_fr hs f2 fo 9 k (vt3 (by omega) (by omega) hk8)]
    have f3 := Fr_si f2 (c := 21) (i := k) (nI (T 9 k)) (by omega)
    refine ih (k + 1) n _ (by omega) (by omega) (mTn_fr hs f3 fo) (fun j hj => ?_) (fun s' f => kk s' (Fr_tr f3 f))
    by_cases e : j = k
    · subst e
      refine ⟨?_, ?_, gi_same _ _ _ _⟩
      · rw [gi_si, if_neg (by omega), gi_si, if_neg (by omega), gi_same]
      · rw [gi_si, if_neg (by omega), gi_same]
    · have g := hd j (by omega)
      refine ⟨?_, ?_, ?_⟩
      · rw [gi_si, if_neg (by omega), gi_si, if_neg (by omega), gi_si, if_neg (by omega)]
        exact g.1
      · rw [gi_si, if_neg (by omega), gi_si, if_neg (by omega), gi_si, if_neg (by omega)]
        exact g.2.1
      · rw [gi_si, if_neg (by omega), gi_si, if_neg (by omega), gi_si, if_neg (by omega)]
        exact g.2.2
def frJ (c i : Nat) : Prop := (c = 0 ∧ 23 ≤ i ∧ i ≤ 28) ∨ (17 ≤ c ∧ c ≤ 21)
theorem of_image {T : xTw} (hR : rgT T) {s : xM} {Q : Int32 → xM → Prop} (hT : mTn s T) (kk : ∀ s', Fr frJ s s' → gi s' 0 23 = 1 → gi s' 0 28 = gi s 0 22 → imgM s' T → Q (nI (T 0 4)) s') : Ok (fX10_image s) Q := by
  have h8 := rg_stops hR
  obtain ⟨f, hf⟩ := fu_big
  have fo : ∀ c i, frJ c i → ¬ vT c i := fun c i q => by unfold frJ at q; unfold vT; omega
  unfold fX10_image
  simp only [ok_lz]
  rw [hf]
  have n1 : ∀ (s1 : xM) (i j : Nat) (v : Int32), i ≠ j → gi (si s1 0 i v) 0 j = gi s1 0 j := fun s1 i j v q => by rw [gi_si, if_neg (by omega)]
  simp (disch := decide) only [n1]
  rw [hT 0 4 (vt0 (by omega)), hT 0 12 (vt0 (by omega)), hT 0 2 (vt0 (by omega)), hT 0 3 (vt0 (by omega))]
  have f1 : Fr frJ s (si (si (si (si (si (si s 0 23 1) 0 24 (nI (T 0 4))) 0 25 (nI (T 0 12))) 0 26 (nI (T 0 2))) 0 27 (nI (T 0 3))) 0 28 (gi s 0 22)) := by
    refine Fr_si (Fr_si (Fr_si (Fr_si (Fr_si (Fr_si Fr_rf _ ?_) _ ?_) _ ?_) _ ?_) _ ?_) _ ?_
    all_goals exact Or.inl ⟨rfl, by omega, by omega⟩
  refine ol_mimg47 41 0 (f + 4000) _ (by omega) (by omega) (mTn_fr hT f1 fo) (fun j hj => absurd hj (Nat.not_lt_zero _)) (fun s2 f2 w2 => ?_)
  have g2 : Fr frJ s s2 := Fr_tr f1 (Fr_mono f2 (fun c i q => Or.inr (by omega)))
  refine ol_mimg73 18 0 (f + 4000) _ (by omega) (by omega) (mTn_fr hT g2 fo) (fun j hj => absurd hj (Nat.not_lt_zero _)) (fun s3 f3 w3 => ?_)
  have g3 : Fr frJ s s3 := Fr_tr g2 (Fr_mono f3 (fun c i q => Or.inr (by omega)))
  refine ol_mimg99 8 0 (f + 4000) _ (by omega) (by omega) (mTn_fr hT g3 fo) (fun j hj => absurd hj (Nat.not_lt_zero _)) (fun s4 f4 w4 => ?_)
  have g4 : Fr frJ s s4 := Fr_tr g3 (Fr_mono f4 (fun c i q => Or.inr (by omega)))
  rw [mTn_fr hT g4 fo 0 4 (vt0 (by omega))]
  have b0 : ∀ i, gi s4 0 i = gi (si (si (si (si (si (si s 0 23 1) 0 24 (nI (T 0 4))) 0 25 (nI (T 0 12))) 0 26 (nI (T 0 2))) 0 27 (nI (T 0 3))) 0 28 (gi s 0 22)) 0 i := fun i => by
    rw [(f4 0 i (by omega)).1, (f3 0 i (by omega)).1, (f2 0 i (by omega)).1]
  refine ok_R (kk s4 g4 ?_ ?_ ⟨?_, ?_, ?_, ?_, fun i hi => ?_, fun k w hk hw => ?_, fun p hp => w4 p (by omega)⟩)
  · rw [b0]; rfl
  · rw [b0]; rfl
  · rw [b0]; rfl
  · rw [b0]; rfl
  · rw [b0]; rfl
  · rw [b0]; rfl
  · rw [(f4 17 i (by omega)).1, (f3 17 i (by omega)).1]
    exact w2 i hi
  · rw [(f4 18 _ (by omega)).1]
    exact w3 _ (by omega)
theorem sim_image : xs_image RR := by
  intro σ τ h
  refine sim_of ?_
  obtain ⟨T, n, h⟩ := h
  obtain ⟨hR, hZ, hX, hM, hr⟩ := id h
  obtain ⟨-, ⟨n1, n2, n3, n4, ⟨w, w1, w2, w3⟩, n5⟩, -⟩ := id hr
  unfold fX9_image
  rw [w2]
  refine rl_B (of_keep hR hX.1 (fun s1 f1 x1 x2 x3 => ?_))
  have fo : ∀ c i, frI c i → 27 ≤ c := fun c i q => by unfold frI at q; omega
  have hX1 := xCT_fr hX f1 fo
  rw [xT_stops hX1.1]
  refine rr_O (of_image hR hM (fun s2 f2 y1 y2 y3 => ok_R ⟨rfl, T, n, hR, hZ, hX1, mTn_fr hM f2 (fun c i q => by unfold frJ at q; unfold vT; omega), ?_⟩))
  have r4 := rst4 (σ' := s1) (τ' := s2) hr (fun c i q => (f1 c i (by unfold frI; omega)).1) (fun c i q => (f2 c i (by unfold frJ; omega)).1) (fun i => (f2 26 i (by unfold frJ; omega)).2)
  refine ⟨r4.1, r4.2.1, Or.inr ⟨x1, y1, ⟨w, w1, x2, by rw [y2]; exact w3⟩, T, hR, Nat.le_refl _, imgI_iff.mpr ⟨x3, y3⟩⟩, r4.2.2.1, r4.2.2.2⟩
