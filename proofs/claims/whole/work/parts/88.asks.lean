/-! ===== asks, asked ===== -/
def clN (v : Int32) (M : Nat) : Nat := if v < 0 then 0 else if nI M < v then M else v.toInt.toNat
theorem clN_le {v : Int32} {M : Nat} (hM : M < 2 ^ 31) : clN v M ≤ M := by
  unfold clN
  split
  · omega
  · rename_i h1
    split
    · omega
    · rename_i h2
      rw [Int32.lt_iff_toInt_lt, nI_toInt hM] at h2
      omega
theorem nI_clN {v : Int32} {M : Nat} (hM : M < 2 ^ 31) : nI (clN v M) = if v < 0 then 0 else if nI M < v then nI M else v := by
  unfold clN
  by_cases h1 : v < 0
  · rw [if_pos h1, if_pos h1]
    rfl
  · rw [if_neg h1, if_neg h1]
    by_cases h2 : nI M < v
    · rw [if_pos h2, if_pos h2]
    · rw [if_neg h2, if_neg h2]
      obtain ⟨j, hj, rfl⟩ := nI_of h1
      rw [nI_toInt hj]
      rfl
theorem e_atB0 (v : Int32) {M : Nat} (h0 : 0 < M) (hM : M < 2 ^ 31) (s : xM) : fX9_atBounds v 0 (nI M) s = some (nI (clN v M), s) := by
  unfold fX9_atBounds
  rw [nI_clN hM]
  have m0 : (0 : Int32) < nI M := nI_lt (a := 0) h0 hM
  by_cases h1 : v < 0
  · have h2 : v < nI M := Int32.lt_trans h1 m0
    rw [if_pos h1, if_pos h2, if_neg (fun q => by rw [Int32.lt_iff_toInt_lt] at q h1; omega)]
  · rw [if_neg h1]
    by_cases h2 : nI M < v
    · have e : (if v < nI M then v else nI M) = nI M := if_neg (fun q => by rw [Int32.lt_iff_toInt_lt] at q h2; omega)
      rw [if_pos h2, e, if_pos m0]
    · rw [if_neg h2]
      by_cases h3 : v < nI M
      · rw [if_pos h3]
        by_cases h4 : 0 < v
        · rw [if_pos h4]
        · rw [if_neg h4]
          refine congrArg (fun x => some (x, s)) (Int32.toInt_inj.mp ?_)
          rw [Int32.lt_iff_toInt_lt] at h1 h4
          omega
      · rw [if_neg h3, if_pos m0]
        refine congrArg (fun x => some (x, s)) (Int32.toInt_inj.mp ?_)
        rw [Int32.lt_iff_toInt_lt] at h2 h3
        omega
theorem e_within (v : Int32) {M : Nat} (hM : M < 2 ^ 31) (s : xM) : fX10_within v (nI M) s = some (nI (clN v M), s) := by
  unfold fX10_within
  rw [nI_clN hM]
  by_cases h1 : v < 0
  · rw [if_pos h1, if_neg (fun q => by rw [Int32.le_iff_toInt_le] at q; rw [Int32.lt_iff_toInt_lt] at h1; omega)]
  · rw [if_neg h1, if_pos (by rw [Int32.le_iff_toInt_le]; rw [Int32.lt_iff_toInt_lt] at h1; omega)]
    by_cases h2 : nI M < v
    · rw [if_pos h2, if_neg (fun q => by rw [Int32.le_iff_toInt_le] at q; rw [Int32.lt_iff_toInt_lt] at h2; omega)]
    · rw [if_neg h2, if_pos (by rw [Int32.le_iff_toInt_le]; rw [Int32.lt_iff_toInt_lt] at h2; omega)]
/-- what the names are of a stop: waited, how many, its number -/
def nmP (wt mn p : Nat) : Nat → Int32 := fun k => if k = 2 then nI wt else if k = 4 then nI mn else if k = 5 then nI p else 0
theorem of_nameStop {s : xM} {Q : Int32 → xM → Prop} {wt mn p : Nat} (kk : ∀ s', Fr (fun c _ => c = 91) s s' → (∀ k, k < 6 → gi s' 91 k = nmP wt mn p k) → Q 0 s') : Ok (fX9_nameStop (nI p) (nI wt) (nI mn) s) Q := by
  unfold fX9_nameStop
  refine ok_B (of_fill (by omega) (fun s1 f1 v1 => ?_))
  simp only [ok_lz, ok_some]
  refine kk _ (Fr_si (Fr_si (Fr_si (Fr_mono f1 (fun c i q => q.1)) _ rfl) _ rfl) _ rfl) (fun k hk => ?_)
  unfold nmP
  rcases (show k = 0 ∨ k = 1 ∨ k = 2 ∨ k = 3 ∨ k = 4 ∨ k = 5 by omega) with rfl | rfl | rfl | rfl | rfl | rfl
  · exact v1 0 (by omega)
  · exact v1 1 (by omega)
  · rfl
  · exact v1 3 (by omega)
  · rfl
  · rfl
def askS (K E : Nat → Nat) (T : xTw) (p : Nat) : Nat := if T 3 p = 1 ∨ T 3 p = 5 then clN (vS K E 2 (nmP 0 (useS T p) p)) 10 else T 8 p
theorem askS_le {T : xTw} (hR : rgT T) (K E : Nat → Nat) {p : Nat} (hp : p < 8) : askS K E T p ≤ 10 := by
  unfold askS
  split
  · exact clN_le (by omega)
  · exact rg_wanted hR hp
theorem of_wantedNow {K E : Nat → Nat} (hK : txK K E) {w : Nat} (hw : w < 6) {T : xTw} (hR : rgT T) {σ : xM} (hX : txX σ w K E) (hx : xCT σ T) (hL : lookS σ T) {p : Nat} (hp : p < 8) {Q : Int32 → xM → Prop} (kk : ∀ σ', Fr frZ σ σ' → Q (nI (askS K E T p)) σ') : Ok (fX9_wantedNow (nI p) σ) Q := by
  unfold fX9_wantedNow
  refine ok_G (inb_n hp (by omega)) ?_
  rw [nI_clamp (by omega), e_isOf1 hR hx.1 hx.2.1 hp, bd_some]
  by_cases c : T 3 p = 1 ∨ T 3 p = 5
  · rw [if_pos c]
    refine ok_F n10 ?_
    rw [e_usersOf hR (xTk_of hx.1) hL hp, bd_some, show (0 : Int32) = nI 0 from rfl]
    refine ok_B (of_nameStop (fun s1 f1 n1 => ?_))
    have hX1 := txX_fr hX f1 (fun c i q => by unfold xFree; omega)
    rw [hX1.1]
    refine ok_G (inb_n hw (by omega)) ?_
    rw [nI_clamp (by omega), q2]
    refine ok_B (of_valueOf hK hw (q := 2) (by omega) hX1 n1 (fun s2 f2 => ?_))
    rw [show nI 0 = (0 : Int32) from rfl, q10, e_atB0 _ (by omega) (by omega), bd_some]
    have go := kk s2 (Fr_tr (Fr_mono f1 (fun c i q => Or.inl q)) (Fr_mono f2 (fun c i q => Or.inr (by omega))))
    have ea : askS K E T p = clN (vS K E 2 (nmP 0 (useS T p) p)) 10 := if_pos c
    rw [ea] at go
    exact ok_R go
  · rw [if_neg c]
    refine ok_T rfl (ok_G (inb_n hp (by omega)) ?_)
    have ea : askS K E T p = T 8 p := if_neg c
    rw [xT_wanted hx.1 hp, ← ea]
    exact ok_R (kk σ Fr_rf)
theorem of_asksOf {K E : Nat → Nat} (hK : txK K E) {w : Nat} (hw : w < 6) {T : xTw} (hR : rgT T) {τ : xM} (hX : txM τ w K E) (hM : mTn τ T) {p : Nat} (hp : p < 8) {Q : Int32 → xM → Prop} (kk : ∀ τ', Fr frQ2 τ τ' → Q (nI (askS K E T p)) τ') : Ok (fX10_asksOf (nI p) τ) Q := by
  unfold fX10_asksOf
  rw [e_isAsked hR hM hp, bd_some]
  by_cases c : T 3 p = 1 ∨ T 3 p = 5
  · rw [if_pos c]
    refine ok_F n10 (ok_B (of_useOf hR hM hp (fun s1 f1 => ?_)))
    unfold fX10_names
    simp only [lz, bd_some]
    have g2 : Fr frQ2 τ (si (si (si (si s1 29 0 0) 29 1 0) 29 2 0) 29 3 0) := by
      refine Fr_si (Fr_si (Fr_si (Fr_si (Fr_mono f1 (fun _ _ q => Or.inl q)) _ ?_) _ ?_) _ ?_) _ ?_
      all_goals exact Or.inr (Or.inr rfl)
    have hX2 := txM_fr hX g2 (fun c i q => mAsk_free (frQ2_ask q))
    have hN : ∀ k, k < 4 → gi (si (si (si (si s1 29 0 0) 29 1 0) 29 2 0) 29 3 0) 29 k = nmP 0 (useS T p) p k := by
      intro k hk
      rcases (show k = 0 ∨ k = 1 ∨ k = 2 ∨ k = 3 by omega) with rfl | rfl | rfl | rfl <;> rfl
    rw [q2]
    refine ok_B (of_says hK hw (q := 2) (nm := nmP 0 (useS T p) p) (by omega) hX2 hN (fun s3 f3 => ?_))
    rw [q10, e_within _ (by omega), bd_some]
    have go := kk s3 (Fr_tr g2 (Fr_mono f3 (fun c i q => Or.inr q)))
    have ea : askS K E T p = clN (vS K E 2 (nmP 0 (useS T p) p)) 10 := if_pos c
    rw [ea] at go
    exact ok_R go
  · rw [if_neg c]
    refine ok_T rfl (ok_G (inb_n hp (by omega)) ?_)
    have ea : askS K E T p = T 8 p := if_neg c
    rw [nI_clamp (by omega), hM 8 p (vt3 (by omega) (by omega) hp), ← ea]
    exact ok_R (kk τ Fr_rf)
theorem frZ_ask {c i : Nat} (h : frZ c i) : xAsk c i := by
  unfold frZ at h
  unfold xAsk
  omega
theorem sim_asks : xs_asks RR := by
  intro σ τ h a0
  refine sim_of ?_
  obtain ⟨T, n, h⟩ := h
  have hR := h.1
  have hX := h.2.2.1
  have hM := h.2.2.2.1
  have h8 := rg_stops hR
  obtain ⟨w, K, E, hw, hK, tX, tM⟩ := tx_of h.2.2.2.2.2.1
  unfold fX9_asks fX10_asks
  simp only [e_isStop9, e_isStop10, bd_some, xT_stops hX.1, hM 0 4 (vt0 (by omega))]
  rcases rcaseN a0 (N := T 0 4) (by omega) with c | ⟨c, p, hp, rfl⟩
  · simp only [c, ↓reduceIte]
    exact sim_R h rfl
  simp only [c, n10, ↓reduceIte]
  refine rl_B (of_lookAtNow hR hX (fun s1 f1 m1 l1 => ?_))
  refine rl_B (of_wantedNow hK hw hR (txX_fr tX f1 (fun _ _ => xAsk_free)) (xCT_fr hX f1 (fun _ _ => xAsk_27)) l1 (by omega) (fun s2 f2 => ?_))
  refine rr_B (of_asksOf hK hw hR tM hM (by omega) (fun t2 g2 => ?_))
  exact sim_R (RT_ask h (Fr_tr f1 (Fr_mono f2 (fun _ _ => frZ_ask))) (Fr_mono g2 (fun _ _ => frQ2_ask))) rfl
/-- the town with all wanted as asked -/
def askT (K E : Nat → Nat) (T : xTw) : xTw := fun c i => if c = 8 ∧ i < T 0 4 then askS K E T i else T c i
theorem askT_ne {K E : Nat → Nat} {T : xTw} {c i : Nat} (h : ¬ (c = 8 ∧ i < T 0 4)) : askT K E T c i = T c i := if_neg h
theorem askT_at {K E : Nat → Nat} {T : xTw} {i : Nat} (h : i < T 0 4) : askT K E T 8 i = askS K E T i := if_pos ⟨rfl, h⟩
def cntA (K E : Nat → Nat) (T : xTw) (n : Nat) : Nat := sumN (fun p => if T 8 p = askS K E T p then 0 else 1) n
theorem sim_asked : xs_asked RR := by
  intro σ τ h
  refine sim_of ?_
  obtain ⟨T, n, h⟩ := h
  have hR := h.1
  have hX := h.2.2.1
  have hM := h.2.2.2.1
  have h8 := rg_stops hR
  have h12 := rg_trips hR
  obtain ⟨w, K, E, hw, hK, tX, tM⟩ := tx_of h.2.2.2.2.2.1
  obtain ⟨f, hf⟩ := fu_big
  unfold fX9_asked fX10_asked
  rw [hf]
  refine rl_B (of_lookAtNow hR hX (fun s1 f1 m1 l1 => ?_))
  have hX1 := xCT_fr hX f1 (fun _ _ => xAsk_27)
  have tX1 := txX_fr tX f1 (fun _ _ => xAsk_free)
  -- the class's first loop
  have L1 : ∀ {kt : xM → Option (Int32 × xM)} {Q : Int32 → xM → Prop}, (∀ s', Fr (fun c i => frZ c i ∨ c = 96) s1 s' → (∀ p, p < T 0 4 → gi s' 96 p = nI (askS K E T p)) → Ok (kt s') Q) → ∀ (m p n : Nat) (s : xM), p + m = T 0 4 → m < n → Fr (fun c i => frZ c i ∨ c = 96) s1 s → (∀ q, q < p → gi s 96 q = nI (askS K E T q)) → Ok (fX9_asked_L6 kt n (nI p) s) Q := by
    intro kt Q kk m
    have fo : ∀ c i, (frZ c i ∨ c = 96) → 27 ≤ c := fun c i q => by unfold frZ at q; omega
    induction m with
    | zero =>
      intro p n s hp hn g hd
      obtain ⟨n, rfl⟩ : ∃ n', n = n' + 1 := ⟨n - 1, by omega⟩
      unfold fX9_asked_L6
      refine ok_T (by rw [xT_stops (xCT_fr hX1 g fo).1]; exact nI_le (by omega) (by omega)) ?_
      exact kk s g (fun q hq => hd q (by omega))
    | succ m ih =>
      intro p n s hp hn g hd
      obtain ⟨n, rfl⟩ : ∃ n', n = n' + 1 := ⟨n - 1, by omega⟩
      have hXs := xCT_fr hX1 g fo
      unfold fX9_asked_L6
      refine ok_F (by rw [xT_stops hXs.1]; exact nI_ge (by omega) (by omega)) ?_
      have ls : lookS s T := fun t ht => by
        have q := l1 t ht
        unfold lookT bstX at q ⊢
        rw [(g 71 t (by unfold frZ; omega)).1, (g 72 t (by unfold frZ; omega)).1, (g 73 t (by unfold frZ; omega)).1, (g 74 t (by unfold frZ; omega)).1, (g 75 t (by unfold frZ; omega)).1, (g 76 t (by unfold frZ; omega)).1]
        exact q
      refine ok_B (of_wantedNow hK hw hR (txX_fr tX1 g (fun c i q => by unfold frZ at q; unfold xFree; omega)) hXs ls (by omega) (fun s2 f2 => ?_))
      refine ok_G (inb_n (by omega) (by omega)) (ok_lz.mpr ?_)
      rw [nI_clamp (by omega), nI_1]
      refine ih (p + 1) n _ (by omega) (by omega) (Fr_si (Fr_tr g (Fr_mono f2 (fun c i q => Or.inl q))) _ (Or.inr rfl)) (fun q hq => ?_)
      rw [gi_si]
      by_cases e : q = p
      · rw [if_pos ⟨rfl, e⟩, e]
      · rw [if_neg (by omega), (f2 96 q (by unfold frZ; omega)).1]
        exact hd q (by omega)
  refine L1 (fun s2 f2 d2 => ?_) (T 0 4) 0 (f + 4000) s1 (by omega) (by omega) Fr_rf (fun q hq => absurd hq (Nat.not_lt_zero _))
  have hX2 := xCT_fr hX1 f2 (fun c i q => by unfold frZ at q; omega)
  -- its second
  have L2 : ∀ {Q : Int32 → xM → Prop}, (∀ s', Fr (fun c i => 11 ≤ c ∧ c ≤ 18 ∧ i = 6) s2 s' → (∀ p, p < T 0 4 → gi s' (11 + p) 6 = nI (askS K E T p)) → (∀ p, T 0 4 ≤ p → p < 8 → gi s' (11 + p) 6 = nI (T 8 p)) → Q (nI (cntA K E T (T 0 4))) s') → ∀ (m p n : Nat) (s : xM), p + m = T 0 4 → m < n → Fr (fun c i => 11 ≤ c ∧ c ≤ 18 ∧ i = 6) s2 s → (∀ q, q < p → gi s (11 + q) 6 = nI (askS K E T q)) → (∀ q, p ≤ q → q < 8 → gi s (11 + q) 6 = nI (T 8 q)) → Ok (fX9_asked_L38 (fun x5 s6 => some (x5, s6)) n (nI (cntA K E T p)) (nI p) s) Q := by
    intro Q kk m
    induction m with
    | zero =>
      intro p n s hp hn g hd he
      obtain ⟨n, rfl⟩ : ∃ n', n = n' + 1 := ⟨n - 1, by omega⟩
      unfold fX9_asked_L38
      refine ok_T (by rw [(g 1 7 (by omega)).1, xT_stops hX2.1]; exact nI_le (by omega) (by omega)) (ok_R ?_)
      rw [show p = T 0 4 by omega] at he ⊢
      exact kk s g (fun q hq => hd q (by omega)) he
    | succ m ih =>
      intro p n s hp hn g hd he
      obtain ⟨n, rfl⟩ : ∃ n', n = n' + 1 := ⟨n - 1, by omega⟩
      have w1 := rg_wanted hR (i := p) (by omega)
      have w2 := askS_le hR K E (p := p) (by omega)
      have es : cntA K E T (p + 1) = cntA K E T p + (if T 8 p = askS K E T p then 0 else 1) := rfl
      unfold fX9_asked_L38
      refine ok_F (by rw [(g 1 7 (by omega)).1, xT_stops hX2.1]; exact nI_ge (by omega) (by omega)) ?_
      simp (disch := omega) only [ok_gd, ok_lz, inb_n, true_and, nI_clamp, nI_1]
      rw [he p (Nat.le_refl _) (by omega), (g 96 p (by omega)).1, d2 p (by omega)]
      have go := ih (p + 1) n
      rw [es] at go
      by_cases c : T 8 p = askS K E T p
      · rw [if_pos c] at go
        refine ok_T (by rw [c]) ?_
        refine go s (by omega) (by omega) g (fun q hq => ?_) (fun q h1 h2 => he q (by omega) h2)
        by_cases e : q = p
        · rw [e, he p (Nat.le_refl _) (by omega), c]
        · exact hd q (by omega)
      · rw [if_neg c] at go
        refine ok_F (by rw [nI_eq (by omega) (by omega)]; exact c) ?_
        refine go _ (by omega) (by omega) (Fr_si g _ ⟨by omega, by omega, rfl⟩) (fun q hq => ?_) (fun q h1 h2 => ?_)
        · rw [gi_si]
          by_cases e : q = p
          · rw [if_pos (by omega), e]
          · rw [if_neg (by omega)]
            exact hd q (by omega)
        · rw [gi_si, if_neg (by omega)]
          exact he q (by omega) h2
  refine L2 (fun s3 f3 d3 e3 => ?_) (T 0 4) 0 (f + 4000) s2 (by omega) (by omega) Fr_rf (fun q hq => absurd hq (Nat.not_lt_zero _)) (fun q _ hq => xT_wanted hX2.1 hq)
  -- the model's first
  have M1 : ∀ {kt : xM → Option (Int32 × xM)} {Q : Int32 → xM → Prop}, (∀ s', Fr (fun c i => frQ2 c i ∨ c = 34) τ s' → (∀ p, p < T 0 4 → gi s' 34 p = nI (askS K E T p)) → Ok (kt s') Q) → ∀ (m p n : Nat) (s : xM), p + m = T 0 4 → m < n → Fr (fun c i => frQ2 c i ∨ c = 34) τ s → (∀ q, q < p → gi s 34 q = nI (askS K E T q)) → Ok (fX10_asked_L2 kt n (nI p) s) Q := by
    intro kt Q kk m
    have fo : ∀ c i, (frQ2 c i ∨ c = 34) → mAsk c i := fun c i q => q.elim frQ2_ask (fun z => by unfold mAsk; omega)
    induction m with
    | zero =>
      intro p n s hp hn g hd
      obtain ⟨n, rfl⟩ : ∃ n', n = n' + 1 := ⟨n - 1, by omega⟩
      unfold fX10_asked_L2
      refine ok_T (by rw [mTn_fr hM g (fun c i q => mAsk_off (fo c i q)) 0 4 (vt0 (by omega))]; exact nI_le (by omega) (by omega)) ?_
      exact kk s g (fun q hq => hd q (by omega))
    | succ m ih =>
      intro p n s hp hn g hd
      obtain ⟨n, rfl⟩ : ∃ n', n = n' + 1 := ⟨n - 1, by omega⟩
      have hMs := mTn_fr hM g (fun c i q => mAsk_off (fo c i q))
      unfold fX10_asked_L2
      refine ok_F (by rw [hMs 0 4 (vt0 (by omega))]; exact nI_ge (by omega) (by omega)) ?_
      refine ok_B (of_asksOf hK hw hR (txM_fr tM g (fun c i q => mAsk_free (fo c i q))) hMs (by omega) (fun s2 f2 => ?_))
      refine ok_G (inb_n (by omega) (by omega)) (ok_lz.mpr ?_)
      rw [nI_clamp (by omega), nI_1]
      refine ih (p + 1) n _ (by omega) (by omega) (Fr_si (Fr_tr g (Fr_mono f2 (fun c i q => Or.inl q))) _ (Or.inr rfl)) (fun q hq => ?_)
      rw [gi_si]
      by_cases e : q = p
      · rw [if_pos ⟨rfl, e⟩, e]
      · rw [if_neg (by omega), (f2 34 q (by unfold frQ2 frW; omega)).1]
        exact hd q (by omega)
  refine M1 (fun t2 g2 b2 => ?_) (T 0 4) 0 (f + 4000) τ (by omega) (by omega) Fr_rf (fun q hq => absurd hq (Nat.not_lt_zero _))
  have hM2 := mTn_fr hM g2 (fun c i q => mAsk_off (q.elim frQ2_ask (fun z => by unfold mAsk; omega)))
  -- its second
  have M2 : ∀ {Q : Int32 → xM → Prop}, (∀ s', Fr (fun c _ => c = 8) t2 s' → mTn s' (askT K E T) → Q (nI (cntA K E T (T 0 4))) s') → ∀ (m p n : Nat) (s : xM), p + m = T 0 4 → m < n → Fr (fun c _ => c = 8) t2 s → (∀ q, q < p → gi s 8 q = nI (askS K E T q)) → (∀ q, p ≤ q → q < 8 → gi s 8 q = nI (T 8 q)) → Ok (fX10_asked_L31 (fun x2 s3 => some (x2, s3)) n (nI (cntA K E T p)) (nI p) s) Q := by
    intro Q kk m
    induction m with
    | zero =>
      intro p n s hp hn g hd he
      obtain ⟨n, rfl⟩ : ∃ n', n = n' + 1 := ⟨n - 1, by omega⟩
      unfold fX10_asked_L31
      refine ok_T (by rw [(g 0 4 (by omega)).1, hM2 0 4 (vt0 (by omega))]; exact nI_le (by omega) (by omega)) (ok_R ?_)
      rw [show p = T 0 4 by omega] at hd he ⊢
      refine kk s g (fun c i hv => ?_)
      by_cases e : c = 8
      · subst e
        by_cases z : i < T 0 4
        · rw [askT_at z]
          exact hd i z
        · rw [askT_ne (by omega)]
          unfold vT at hv
          exact he i (by omega) (by omega)
      · rw [askT_ne (by omega), (g c i e).1]
        exact hM2 c i hv
    | succ m ih =>
      intro p n s hp hn g hd he
      obtain ⟨n, rfl⟩ : ∃ n', n = n' + 1 := ⟨n - 1, by omega⟩
      have w1 := rg_wanted hR (i := p) (by omega)
      have w2 := askS_le hR K E (p := p) (by omega)
      have es : cntA K E T (p + 1) = cntA K E T p + (if T 8 p = askS K E T p then 0 else 1) := rfl
      have go := ih (p + 1) n (si s 8 p (nI (askS K E T p))) (by omega) (by omega) (Fr_si g _ rfl) (fun q hq => by
        rw [gi_si]
        by_cases e : q = p
        · rw [if_pos ⟨rfl, e⟩, e]
        · rw [if_neg (by omega)]
          exact hd q (by omega)) (fun q h1 h2 => by
        rw [gi_si, if_neg (by omega)]
        exact he q (by omega) h2)
      rw [es] at go
      unfold fX10_asked_L31 fX10_asked_J60
      refine ok_F (by rw [(g 0 4 (by omega)).1, hM2 0 4 (vt0 (by omega))]; exact nI_ge (by omega) (by omega)) ?_
      simp (disch := omega) only [ok_gd, inb_n, true_and, nI_clamp]
      rw [he p (Nat.le_refl _) (by omega), (g 34 p (by omega)).1, b2 p (by omega)]
      by_cases c : T 8 p = askS K E T p
      · rw [if_pos c] at go
        refine ok_T (by rw [c]) ?_
        simp (disch := omega) only [ok_gd, ok_lz, inb_n, true_and, nI_clamp, nI_1]
        rw [show nI (cntA K E T p) + (0 : Int32) = nI (cntA K E T p + 0) from nI_add _ 0]
        exact go
      · rw [if_neg c] at go
        refine ok_F (by rw [nI_eq (by omega) (by omega)]; exact fun q => c q.symm) ?_
        simp (disch := omega) only [ok_gd, ok_lz, inb_n, true_and, nI_clamp, nI_1]
        exact go
  refine M2 (fun t3 g3 b3 => ?_) (T 0 4) 0 (f + 4000) t2 (by omega) (by omega) Fr_rf (fun q hq => absurd hq (Nat.not_lt_zero _)) (fun q _ hq => hM2 8 q (vt3 (by omega) (by omega) hq))
  -- together
  have hR' : rgT (askT K E T) := by
    refine ⟨fun c i hv => ?_, by rw [askT_ne (by omega)]; exact hR.2⟩
    by_cases e : c = 8 ∧ i < T 0 4
    · rw [e.1, askT_at e.2]
      exact askS_le hR K E (by omega)
    · rw [askT_ne e]
      exact hR.1 c i hv
  refine ⟨rfl, askT K E T, n, hR', fun p h1 h2 => ?_, ⟨fun c i hv => ?_, fun p hp => ?_, fun c hc => ?_⟩, b3, ?_⟩
  · rw [askT_ne (by omega)] at h1
    rw [askT_ne (by omega)]
    exact h.2.1 p h1 h2
  · have a := xl_cases hv
    have old := hX2.1 c i hv
    by_cases e : c = 8
    · subst e
      rw [show xlc 8 i = 11 + i from rfl, show xlp 8 i = 6 from rfl]
      by_cases z : i < T 0 4
      · rw [askT_at z]
        exact d3 i z
      · rw [askT_ne (by omega)]
        exact e3 i (by omega) (by omega)
    · rw [askT_ne (by omega), (f3 (xlc c i) (xlp c i) (by omega)).1]
      exact old
  · rw [askT_ne (by omega), (f3 (11 + p) 1 (by omega)).1]
    exact hX2.2.1 p hp
  · rw [ups_cg (T := T) (fun i => askT_ne (by omega)), dns_cg (T := T) (fun i => askT_ne (by omega)), (f3 3 c (by omega)).1, (f3 4 c (by omega)).1]
    exact hX2.2.2 c hc
  · rw [askT_ne (by omega)]
    refine rstR_fr (P := xFree) (P' := mFree) h.2.2.2.2 (Fr_tr (Fr_mono f1 (fun _ _ => xAsk_free)) (Fr_tr (Fr_mono f2 (fun c i q => ?_)) (Fr_mono f3 (fun c i q => ?_)))) (fun _ _ q => q) (Fr_tr (Fr_mono g2 (fun c i q => ?_)) (Fr_mono g3 (fun c i q => ?_))) (fun _ _ q => q) (Nat.le_refl _)
    · unfold frZ at q
      unfold xFree
      omega
    · unfold xFree
      omega
    · exact mAsk_free (q.elim frQ2_ask (fun z => by unfold mAsk; omega))
    · unfold mFree
      omega
