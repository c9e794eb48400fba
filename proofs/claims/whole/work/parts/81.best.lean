/-! ===== the best of all sets ===== -/
def frT (c i : Nat) : Prop := frV c i ∨ c = 7 ∨ (c = 0 ∧ i = 60)
theorem frT_free {c i : Nat} (h : frT c i) : mFree c i := by
  unfold frT frV at h
  unfold mFree
  omega
theorem frVT {c i : Nat} (h : frV c i ∨ c = 7) : frT c i := h.elim Or.inl (fun q => Or.inr (Or.inl q))
theorem mTb_sl {s : xM} {T : xTw} (h : mTb s T) (c i : Nat) (v : Int64) : mTb (sl s c i v) T := h
theorem keptM_fr {s s' : xM} {T : xTw} (h : keptM s T) (f : Fr frT s s') : keptM s' T := fun p hp => by
  rw [(f 30 p (by unfold frT frV; omega)).1]
  exact h p hp
theorem keptC_fr {σ σ' τ τ' : xM} {C : Nat → Int32} {n : Nat} (h : keptC σ τ C n) (f : Fr frL σ σ') (g : Fr frT τ τ') : keptC σ' τ' C n := fun t ht => by
  rw [(f 92 t (by unfold frL; omega)).1, (g 31 t (by unfold frT frV; omega)).1]
  exact h t ht
/-- the best so far: none, or a set with its total -/
def bsI (T : xTw) (τ : xM) (found : Int32) (L : Nat) : Prop := (found = -1 ∧ L = 0) ∨ ∃ y, y < 2 ^ T 0 4 ∧ found = nI y ∧ L = totS (wO T y) ∧ gl τ 0 60 = lN L
theorem best_cmp {T : xTw} (hR : rgT T) {k1 k2 : Int32 → xM → Option (Int32 × xM)} {a1 a2 b1 b2 : Int32} {f g x L : Nat} {found : Int32} {σ τ : xM} {Q : Int32 → xM → Int32 → xM → Prop} (hx : x < 2 ^ T 0 4) (hb : bsI T τ found L) (hT : Rel (fX9_bestSet_L8 k1 a1 a2 f (nI x) (lN (totS (wO T x))) (nI x + 1) σ) (fX10_bestSet_L42 k2 b1 b2 g (nI x) (nI x + 1) (sl τ 0 60 (lN (totS (wO T x))))) Q) (hS : ¬ found = -1 → Rel (fX9_bestSet_L8 k1 a1 a2 f found (lN L) (nI x + 1) σ) (fX10_bestSet_L42 k2 b1 b2 g found (nI x + 1) τ) Q) : Rel (if (lg_cmp (lN (totS (wO T x))) (lN L)) = 0 then bd (fJ6_bitCount_0f7a4 (nI x) σ) fun r17 s18 => bd (fJ6_bitCount_0f7a4 found s18) fun r20 s21 => if r20 ≤ r17 then fX9_bestSet_J71 k1 (fX9_bestSet_L8 k1 a1 a2 f) a1 a2 found (lN L) (nI x) (lN (totS (wO T x))) s21 else fX9_bestSet_J72 k1 (fX9_bestSet_L8 k1 a1 a2 f) a1 a2 found (lN L) (nI x) (lN (totS (wO T x))) (1 : Int32) s21 else fX9_bestSet_J71 k1 (fX9_bestSet_L8 k1 a1 a2 f) a1 a2 found (lN L) (nI x) (lN (totS (wO T x))) σ) (fX10_bestSet_J85 k2 (fX10_bestSet_L42 k2 b1 b2 g) b1 b2 found (nI x) (lN (totS (wO T x))) τ) Q := by
  have h8 := rg_stops hR
  have p8 := pow_256 h8
  have tA := totS_le (wO_rg hR x)
  unfold fX9_bestSet_J71 fX9_bestSet_J72 fX9_bestSet_J91 fX10_bestSet_J85 fX10_bestSet_J122
  rcases hb with ⟨rfl, rfl⟩ | ⟨y, hy, rfl, hL, hg⟩
  · have m0 : ((-1 : Int32) < 0) := by decide
    have px := popN_le x
    have n32 : ¬ (32 : Int32) ≤ nI (popN x) := nI_ge (b := 32) (by omega) (by omega)
    simp only [m0, ↓reduceIte, tab_pop x (by omega), tab_pop1, bd_some, n32, rr_lz]
    by_cases c : lg_cmp (lN (totS (wO T x))) (lN 0) = 0
    · exact rl_T c hT
    · exact rl_F c hT
  · have tL := totS_le (wO_rg hR y)
    have hS := hS (nI_m1 (by omega))
    have m0 : ¬ (nI y < 0) := nI_pos (by omega)
    have m1 : ¬ nI y = -1 := nI_m1 (by omega)
    rw [hg]
    simp only [m0, m1, ↓reduceIte, tab_pop x (by omega), tab_pop y (by omega), ones_e (show x < 256 by omega), ones_e (show y < 256 by omega), bd_some, rr_lz, cmp_eq (show totS (wO T x) < 2 ^ 63 by omega) (show L < 2 ^ 63 by omega), cmp_lt (show totS (wO T x) < 2 ^ 63 by omega) (show L < 2 ^ 63 by omega), n10]
    by_cases c : totS (wO T x) = L
    · have c2 : ¬ totS (wO T x) < L := by omega
      simp only [c, c2, ↓reduceIte, Nat.lt_irrefl]
      rw [c] at hT
      by_cases d : nI (popN y) ≤ nI (popN x)
      · simp only [d, ↓reduceIte]
        exact hS
      · simp only [d, ↓reduceIte]
        exact hT
    · simp only [c, ↓reduceIte]
      by_cases c2 : totS (wO T x) < L
      · simp only [c2, ↓reduceIte]
        exact hT
      · simp only [c2, ↓reduceIte]
        exact hS
theorem best_loop {T : xTw} (hR : rgT T) {C : Nat → Int32} {k1 k2 : Int32 → xM → Option (Int32 × xM)} {a1 a2 b1 b2 : Int32} {w : Nat} (ha : a1 = nI w) (hw : w < 2 ^ 31) (hb1 : b1 = nI w ∨ (b1 = -1 ∧ 48000 ≤ w)) (hD : (a2 = 2147483647 ∧ b2 = -1) ∨ (¬ a2 = 2147483647 ∧ ¬ b2 < 0 ∧ a2 = b2)) {Q : Int32 → xM → Int32 → xM → Prop} : ∀ (m x f g : Nat) (σ τ : xM) (found : Int32) (L : Nat), x + m = 2 ^ T 0 4 → m < f → m < g → xMe σ T → mTb τ T → keptM τ T → (a2 = 2147483647 ∨ keptC σ τ C (T 0 12)) → bsI T τ found L → (b1 = -1 → b2 = -1 → 0 < x → ¬ found = -1) → (∀ σ' τ' found' L', Fr frL σ σ' → Fr frT τ τ' → xMe σ' T → mTb τ' T → keptM τ' T → bsI T τ' found' L' → (b1 = -1 → b2 = -1 → ¬ found' = -1) → Rel (k1 found' σ') (k2 found' τ') Q) → Rel (fX9_bestSet_L8 k1 a1 a2 f found (lN L) (nI x) σ) (fX10_bestSet_L42 k2 b1 b2 g found (nI x) τ) Q := by
  have h8 := rg_stops hR
  have h12 := rg_trips hR
  have p8 := pow_256 h8
  subst ha
  intro m
  induction m with
  | zero =>
    intro x f g σ τ found L hx hf hg h1 h2 h3 h4 h5 h6 kk
    obtain ⟨f, rfl⟩ : ∃ n', f = n' + 1 := ⟨f - 1, by omega⟩
    obtain ⟨g, rfl⟩ : ∃ n', g = n' + 1 := ⟨g - 1, by omega⟩
    have pw := Nat.two_pow_pos (T 0 4)
    unfold fX9_bestSet_L8 fX10_bestSet_L42
    rw [e_setCount hR h1.1.1, bd_some, h2.1 0 4 (vt0 (by omega)) (by omega), tab_one _ (by omega)]
    have e : nI (2 ^ T 0 4) ≤ nI x := nI_le (by omega) (by omega)
    exact rl_T e (rr_T e (kk σ τ found L Fr_rf Fr_rf h1 h2 h3 h5 (fun q1 q2 => h6 q1 q2 (by omega))))
  | succ m ih =>
    intro x f g σ τ found L hx hf hg h1 h2 h3 h4 h5 h6 kk
    obtain ⟨f, rfl⟩ : ∃ n', f = n' + 1 := ⟨f - 1, by omega⟩
    obtain ⟨g, rfl⟩ : ∃ n', g = n' + 1 := ⟨g - 1, by omega⟩
    unfold fX9_bestSet_L8 fX10_bestSet_L42
    rw [e_setCount hR h1.1.1, bd_some, h2.1 0 4 (vt0 (by omega)) (by omega), tab_one _ (by omega)]
    have e : ¬ nI (2 ^ T 0 4) ≤ nI x := nI_ge (by omega) (by omega)
    refine rl_F e (rr_F e ?_)
    refine rl_B (of_totalOf hR (by omega) h1 (fun σ1 f1 m1 k1' l1 => ?_))
    refine rr_B (of_totalWith hR (by omega) h2 (fun τ1 g1 mm1 tm1 => ?_))
    have g1' : Fr frT τ τ1 := Fr_mono g1 (fun _ _ => frVT)
    have b1' := mTb_wO mm1
    have kp1 := keptM_fr h3 g1'
    have kc1 : a2 = 2147483647 ∨ keptC σ1 τ1 C (T 0 12) := h4.imp id (fun q => keptC_fr q f1 g1')
    have hb1' : bsI T τ1 found L := by
      rcases h5 with q | ⟨y, q1, q2, q3, q4⟩
      · exact Or.inl q
      · exact Or.inr ⟨y, q1, q2, q3, by rw [(g1 0 60 (by unfold frV; omega)).2]; exact q4⟩
    have skip : (b1 = -1 → b2 = -1 → ¬ found = -1) → Rel (fX9_bestSet_L8 k1 (nI w) a2 f found (lN L) (nI x + 1) σ1) (fX10_bestSet_L42 k2 b1 b2 g found (nI x + 1) τ1) Q := by
      intro hf'
      rw [nI_1]
      exact ih (x + 1) f g σ1 τ1 found L (by omega) (by omega) (by omega) m1 b1' kp1 kc1 hb1' (fun q1 q2 _ => hf' q1 q2) (fun σ' τ' found' L' q1 q2 => kk σ' τ' found' L' (Fr_tr f1 q1) (Fr_tr g1' q2))
    have take : Rel (fX9_bestSet_L8 k1 (nI w) a2 f (nI x) (lN (totS (wO T x))) (nI x + 1) σ1) (fX10_bestSet_L42 k2 b1 b2 g (nI x) (nI x + 1) (sl τ1 0 60 (lN (totS (wO T x))))) Q := by
      rw [nI_1]
      have g2 : Fr frT τ (sl τ1 0 60 (lN (totS (wO T x)))) := Fr_sl g1' _ (Or.inr (Or.inr ⟨rfl, rfl⟩))
      have g3 : Fr frT τ1 (sl τ1 0 60 (lN (totS (wO T x)))) := Fr_sl Fr_rf _ (Or.inr (Or.inr ⟨rfl, rfl⟩))
      exact ih (x + 1) f g σ1 _ (nI x) _ (by omega) (by omega) (by omega) m1 (mTb_sl b1' _ _ _) (keptM_fr kp1 g3) (kc1.imp id (fun q => keptC_fr q Fr_rf g3)) (Or.inr ⟨x, by omega, rfl, rfl, gl_same _ _ _ _⟩) (fun _ _ _ => nI_m1 (by omega)) (fun σ' τ' found' L' q1 q2 => kk σ' τ' found' L' (Fr_tr f1 q1) (Fr_tr g2 q2))
    rw [e_walksAtMost (wO_rg hR x) k1' l1 hw, bd_some, wO_012]
    obtain ⟨t25, t44, -, -⟩ := tm1
    have mw : mxW (wO T x) (T 0 12) < 2 ^ 31 := by
      have := mxW_le (wO_rg hR x) (n := T 0 12) h12
      omega
    -- the rest, when nobody walks more
    have rest : mxW (wO T x) (T 0 12) ≤ w → Rel (bd (fX9_dropsAtMost a2 σ1) fun r12 s13 => if r12 = 0 then fX9_bestSet_L8 k1 (nI w) a2 f found (lN L) (nI x + 1) s13 else if (lg_cmp (lN (totS (wO T x))) (lN L)) = 0 then bd (fJ6_bitCount_0f7a4 (nI x) s13) fun r17 s18 => bd (fJ6_bitCount_0f7a4 found s18) fun r20 s21 => if r20 ≤ r17 then fX9_bestSet_J71 k1 (fX9_bestSet_L8 k1 (nI w) a2 f) (nI w) a2 found (lN L) (nI x) (lN (totS (wO T x))) s21 else fX9_bestSet_J72 k1 (fX9_bestSet_L8 k1 (nI w) a2 f) (nI w) a2 found (lN L) (nI x) (lN (totS (wO T x))) (1 : Int32) s21 else fX9_bestSet_J71 k1 (fX9_bestSet_L8 k1 (nI w) a2 f) (nI w) a2 found (lN L) (nI x) (lN (totS (wO T x))) s13) (fX10_bestSet_J73 k2 (fX10_bestSet_L42 k2 b1 b2 g) b1 b2 found (nI x) (lN (totS (wO T x))) τ1) Q := by
      intro _
      unfold fX10_bestSet_J73
      rcases hD with ⟨rfl, rfl⟩ | ⟨d1, d2, d3⟩
      · rw [drops_no, bd_some]
        refine rl_F n10 (rr_T (by decide) ?_)
        exact best_cmp hR (by omega) hb1' take (fun q => skip (fun _ _ => q))
      · have kc := kc1.resolve_left d1
        obtain ⟨r, r01, x1, x2⟩ := drops_both (wO_rg hR x) k1' l1 mm1 (by rw [wO_012]; exact t25) (by rw [wO_012]; exact kc) d1
        rw [← d3, x1, x2, bd_some, bd_some]
        rw [← d3] at d2
        refine rr_F d2 ?_
        rcases r01 with rfl | rfl
        · refine rl_T rfl (rr_T rfl ?_)
          have sk := skip (fun _ q => by rw [← d3] at q; subst q; exact absurd (by decide) d2)
          rw [← d3] at sk
          exact sk
        · refine rl_F n10 (rr_F n10 ?_)
          rw [← d3] at take skip
          refine best_cmp hR (by omega) hb1' take (fun q => skip (fun _ _ => q))
    by_cases W : mxW (wO T x) (T 0 12) ≤ w
    · rw [if_pos W]
      refine rl_F n10 ?_
      rcases hb1 with rfl | ⟨rfl, -⟩
      · refine rr_F (nI_pos hw) (rr_F (by rw [t44]; exact nI_nlt W hw) (rest W))
      · exact rr_T (by decide) (rest W)
    · rw [if_neg W]
      refine rl_T rfl ?_
      rcases hb1 with rfl | ⟨rfl, q⟩
      · refine rr_F (nI_pos hw) (rr_T (by rw [t44]; exact nI_lt (by omega) mw) (skip (fun q => absurd q (nI_m1 hw))))
      · exact absurd (Nat.le_trans (mxW_le (wO_rg hR x) h12) q) W
/-- the model's best set, from its start; the class measured (and its costs kept, where they are asked for) -/
theorem rel_bestSet {T : xTw} {n : Nat} {σ0 τ0 σ : xM} (h : RT σ0 τ0 T n) (f0 : Fr xAsk σ0 σ) (hx : xMe σ T) {a1 a2 b1 b2 : Int32} {w : Nat} (ha : a1 = nI w) (hw : w < 2 ^ 31) (hb1 : b1 = nI w ∨ (b1 = -1 ∧ 48000 ≤ w)) (hD : (a2 = 2147483647 ∧ b2 = -1) ∨ (¬ a2 = 2147483647 ∧ ¬ b2 < 0 ∧ a2 = b2)) (hC : a2 = 2147483647 ∨ ∀ t, t < T 0 12 → gi σ 92 t = nI (bstS T t).1) {Q : Int32 → xM → Int32 → xM → Prop} (kk : ∀ σ' τ' found L, RT σ' τ' T n → xMe σ' T → bsI T τ' found L → (b1 = -1 → b2 = -1 → ¬ found = -1) → Q found σ' found τ') : Rel (fX9_bestSet a1 a2 σ) (fX10_bestSet b1 b2 τ0) Q := by
  have hR := h.1
  have h8 := rg_stops hR
  have h12 := rg_trips hR
  have p8 := pow_256 h8
  have pw := Nat.two_pow_pos (T 0 4)
  obtain ⟨f, hf⟩ := fu_big
  unfold fX9_bestSet fX10_bestSet
  rw [hf]
  refine rr_B (of_total hR h.2.2.2.1 (fun τ1 g1 w1 => ?_))
  have m1 := mTn_fr h.2.2.2.1 g1 (fun _ _ => frV_off)
  have frX : ∀ c i, (frV c i ∨ c = 31 ∨ c = 30) → ¬ vT c i := fun c i q => by
    unfold frV at q
    unfold vT
    omega
  have g1' : Fr (fun c i => frV c i ∨ c = 31 ∨ c = 30) τ0 τ1 := Fr_mono g1 (fun _ _ q => Or.inl q)
  -- its costs now
  have key : ∀ (m t k : Nat) (s : xM), t + m = T 0 12 → m < k → Fr (fun c i => frV c i ∨ c = 31 ∨ c = 30) τ0 s → (∀ u, u < T 0 12 → gi s 25 u = nI (bstS T u).1) → (∀ u, u < t → gi s 31 u = nI (bstS T u).1) → ∀ {kt : xM → Option (Int32 × xM)} {Q : Int32 → xM → Prop}, (∀ s', Fr (fun c i => frV c i ∨ c = 31 ∨ c = 30) τ0 s' → (∀ u, u < T 0 12 → gi s' 31 u = nI (bstS T u).1) → Ok (kt s') Q) → Ok (fX10_bestSet_L7 kt b1 b2 k (nI t) s) Q := by
    intro m
    induction m with
    | zero =>
      intro t k s ht hk g h25 h31 kt Q kk
      obtain ⟨k, rfl⟩ : ∃ n', k = n' + 1 := ⟨k - 1, by omega⟩
      unfold fX10_bestSet_L7
      refine ok_T (by rw [mTn_fr h.2.2.2.1 g frX 0 12 (vt0 (by omega))]; exact nI_le (by omega) (by omega)) ?_
      exact kk s g (fun u hu => h31 u (by omega))
    | succ m ih =>
      intro t k s ht hk g h25 h31 kt Q kk
      obtain ⟨k, rfl⟩ : ∃ n', k = n' + 1 := ⟨k - 1, by omega⟩
      unfold fX10_bestSet_L7
      refine ok_F (by rw [mTn_fr h.2.2.2.1 g frX 0 12 (vt0 (by omega))]; exact nI_ge (by omega) (by omega)) ?_
      simp (disch := omega) only [ok_gd, ok_lz, inb_n, true_and, nI_clamp, nI_1, h25]
      refine ih (t + 1) k _ (by omega) (by omega) (Fr_si g _ (Or.inr (Or.inl rfl))) (fun u hu => ?_) (fun u hu => ?_) kk
      · rw [gi_si, if_neg (by omega)]
        exact h25 u hu
      · rw [gi_si]
        by_cases e : u = t
        · rw [if_pos ⟨rfl, e⟩, e]
        · rw [if_neg (by omega)]
          exact h31 u (by omega)
  refine rr_O (key (T 0 12) 0 (f + 4000) τ1 (by omega) (by omega) g1' (fun u hu => w1.1 u hu) (fun u hu => absurd hu (Nat.not_lt_zero _)) (fun τ2 g2 h31 => rr_U ?_))
  have m2 := mTn_fr h.2.2.2.1 g2 frX
  refine rr_B (of_keeps m2 (fun τ3 g3 kp3 => ?_))
  have g3' : Fr (fun c i => frV c i ∨ c = 31 ∨ c = 30) τ0 τ3 := Fr_tr g2 (Fr_mono g3 (fun _ _ q => Or.inr (Or.inr q)))
  have m3 := mTn_fr h.2.2.2.1 g3' frX
  have kc : a2 = 2147483647 ∨ keptC σ τ3 (fun t => nI (bstS T t).1) (T 0 12) := hC.imp id (fun q t ht => ⟨q t ht, by rw [(g3 31 t (by omega)).1]; exact h31 t ht⟩)
  refine best_loop hR ha hw hb1 hD (2 ^ T 0 4) 0 (f + 4000) (f + 4000) σ τ3 (-1) 0 (by omega) (by omega) (by omega) hx (mTb_of m3) kp3 kc (Or.inl ⟨rfl, rfl⟩) (fun _ _ q => absurd q (Nat.lt_irrefl _)) (fun σ' τ' found L f4 g4 x4 b4 k4 i4 n4 => ?_)
  refine rr_B (of_lays b4 k4 (fun τ5 g5 m5 => rel_R (kk σ' τ5 found L ?_ x4 ?_ n4)))
  · refine RT_end h (Fr_tr f0 (Fr_mono f4 (fun _ _ => frL_ask))) ?_ m5
    refine Fr_tr (Fr_mono g3' (fun c i q => ?_)) (Fr_tr (Fr_mono g4 (fun _ _ => frT_free)) (Fr_mono g5 (fun c i q => ?_)))
    · unfold frV at q
      unfold mFree
      omega
    · unfold mFree
      omega
  · rcases i4 with q | ⟨y, q1, q2, q3, q4⟩
    · exact Or.inl q
    · exact Or.inr ⟨y, q1, q2, q3, by rw [(g5 0 60 (by omega)).2]; exact q4⟩
/-! ===== best, bound, least ===== -/
theorem sim_best : xs_best RR := by
  intro σ τ h a0
  refine sim_of ?_
  obtain ⟨T, n, h⟩ := h
  have hR := h.1
  have hX := h.2.2.1
  have h8 := rg_stops hR
  have p8 := pow_256 h8
  unfold fX9_best fX10_best
  simp only [e_isWithin, e_in, bd_some]
  by_cases d : a0 < 0 ∨ 1 < a0
  · simp only [d, ↓reduceIte]
    exact sim_R h rfl
  simp only [d, n10, ↓reduceIte]
  refine rl_B (of_measure hR hX (fun s1 f1 m1 => ?_))
  refine rel_BB (rel_bestSet (w := 2147483647) h (Fr_mono f1 (fun _ _ => frS_ask)) ⟨xCT_fr hX f1 (fun _ _ => frS_27), m1⟩ rfl (by omega) (Or.inr ⟨rfl, by omega⟩) (Or.inl ⟨rfl, rfl⟩) (Or.inl rfl) (fun σ' τ' found L h' x' i' n' => ?_))
  by_cases b0 : a0 = 0
  · simp only [b0, ↓reduceIte]
    exact sim_R h' rfl
  · simp only [b0, ↓reduceIte]
    rcases i' with ⟨q, -⟩ | ⟨y, q1, rfl, q3, q4⟩
    · exact absurd q (n' rfl rfl)
    · rw [q4, q3]
      refine rl_B (of_totalOf hR (by omega) x' (fun s2 f2 m2 k2 l2 => ?_))
      exact sim_R (RT_ask h' (Fr_mono f2 (fun _ _ => frL_ask)) Fr_rf) rfl
theorem sim_bound : xs_bound RR := by
  intro σ τ h a0
  refine sim_of ?_
  obtain ⟨T, n, h⟩ := h
  have hR := h.1
  have hX := h.2.2.1
  unfold fX9_bound fX10_bound
  simp only [e_isWithin, e_in, bd_some]
  rcases rcase a0 (M := 99999) (n := 99999) rfl with d | ⟨d, w, hw, rfl⟩
  · simp only [d, ↓reduceIte]
    exact sim_R h rfl
  simp only [d, n10, ↓reduceIte]
  refine rl_B (of_measure hR hX (fun s1 f1 m1 => ?_))
  refine rel_BB (rel_bestSet (w := w) h (Fr_mono f1 (fun _ _ => frS_ask)) ⟨xCT_fr hX f1 (fun _ _ => frS_27), m1⟩ rfl (by omega) (Or.inl rfl) (Or.inl ⟨rfl, rfl⟩) (Or.inl rfl) (fun σ' τ' found L h' x' i' n' => ?_))
  exact sim_R h' rfl
theorem sim_least : xs_least RR := by
  intro σ τ h a0
  refine sim_of ?_
  obtain ⟨T, n, h⟩ := h
  have hR := h.1
  have hX := h.2.2.1
  have h12 := rg_trips hR
  unfold fX9_least fX10_least
  simp only [e_isWithin, e_in, bd_some]
  rcases rcase a0 (M := 999999) (n := 999999) rfl with d | ⟨d, w, hw, rfl⟩
  · simp only [d, ↓reduceIte]
    exact sim_R h rfl
  simp only [d, n10, ↓reduceIte]
  refine rl_B (of_lookAtNow hR hX (fun s1 f1 m1 l1 => ?_))
  unfold fX9_keepCosts
  rw [gd_of (show cpb 0 0 8 8 8 = true from by decide)]
  show Rel (bd (some ((0 : Int32), scp s1 71 0 92 0 8)) _) _ _
  rw [bd_some]
  have f2 : Fr xAsk s1 (scp s1 71 0 92 0 8) := Fr_scp Fr_rf (fun i _ _ => Or.inr (Or.inr (Or.inl ⟨by omega, by omega⟩)))
  have f3 := Fr_tr f1 f2
  have ms : Meas (scp s1 71 0 92 0 8) T := by
    have g : ∀ c i, c ≠ 92 → gi (scp s1 71 0 92 0 8) c i = gi s1 c i := fun c i q => by rw [gi_scp, if_neg (by omega)]
    have h8 := rg_stops hR
    refine ⟨fun p hp => ?_, fun t ht => ⟨?_, fun p hp => ?_⟩⟩
    · rw [g _ _ (by omega), g _ _ (by omega)]
      exact m1.1 p hp
    · rw [g _ _ (by omega)]
      exact (m1.2 t ht).1
    · rw [g _ _ (by omega), g _ _ (by omega)]
      exact (m1.2 t ht).2 p hp
  have nd : ¬ nI w = 2147483647 := by
    rw [show (2147483647 : Int32) = nI 2147483647 from rfl, nI_eq (by omega) (by omega)]
    omega
  refine rel_BB (rel_bestSet (w := 2147483647) h f3 ⟨xCT_fr hX f3 (fun _ _ => xAsk_27), ms⟩ rfl (by omega) (Or.inr ⟨rfl, by omega⟩) (Or.inr ⟨nd, nI_pos (by omega), rfl⟩) (Or.inr (fun t ht => ?_)) (fun σ' τ' found L h' x' i' n' => ?_))
  · rw [gi_scp, if_pos (by omega), Nat.zero_add, Nat.sub_zero]
    exact (l1 t ht).1.1
  · exact sim_R h' rfl
