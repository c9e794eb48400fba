/-! ===== cars one behind the other ===== -/
theorem sub_back {a b c : Nat} (h : b ≤ a + c) : nI a - (nI b - nI c) = nI (a + c - b) := by
  rw [Int32.sub_eq_add_neg, Int32.neg_sub, Int32.sub_eq_add_neg, ← Int32.add_assoc, nI_add, ← Int32.sub_eq_add_neg, pk_sub h]
theorem lN_subI {a b : Nat} (ha : a < 2 ^ 31) (hb : b < 2 ^ 31) : (lN a - lN b).toInt = (a : Int) - b := by
  rw [Int64.toInt_sub, lN_toInt ha, lN_toInt hb, Int.bmod_eq_of_le (by omega) (by omega)]
theorem lsub_back {a b c : Nat} (h : b ≤ a + c) : lN a - (lN b - lN c) = lN (a + c - b) := by
  rw [Int64.sub_eq_add_neg, Int64.neg_sub, Int64.sub_eq_add_neg, ← Int64.add_assoc, lN_add, ← Int64.sub_eq_add_neg, lN_sub h]
theorem lneg_ev {e : Nat} (h : e < 2 ^ 30) : (-(nI e)).toInt64 = lN 0 - lN e := by
  refine Int64.toInt_inj.mp ?_
  rw [Int32.toInt_toInt64, lN_subI (by omega) (by omega), Int32.toInt_neg, nI_toInt (by omega), Int.bmod_eq_of_le (by omega) (by omega)]
  omega
theorem neg_ev (e : Nat) : -(nI e) = nI 0 - nI e := by
  rw [show nI 0 = (0 : Int32) from rfl, Int32.zero_sub]
theorem lsub_ge {t l e : Nat} (ht : t < 2 ^ 30) (hl : l < 2 ^ 30) (he : e < 2 ^ 30) : 0 ≤ lg_cmp (lN t) (lN l - lN e) ↔ l ≤ t + e := by
  rw [lg_cmp_ge, Int64.le_iff_toInt_le, lN_subI (by omega) (by omega), lN_toInt (by omega)]
  omega
/-- stops that a car has come by, as it stands at stop p of cell c -/
def cntC (T : xTw) (c p : Nat) : Nat := sumN (fun q => if T 4 q < c ∨ (T 4 q = c ∧ q < p) then 1 else 0) (T 0 4)
theorem cntC_le {T : xTw} (hR : rgT T) (c p : Nat) : cntC T c p ≤ 8 := by
  have h8 := rg_stops hR
  have := sumN_le (f := fun q => if T 4 q < c ∨ (T 4 q = c ∧ q < p) then 1 else 0) (b := 1) (T 0 4) (fun i _ => by
    show (if T 4 i < c ∨ (T 4 i = c ∧ i < p) then 1 else 0) ≤ 1
    split <;> omega)
  unfold cntC
  omega
theorem cntC_ne {T : xTw} {c p : Nat} (h : ¬ T 4 p = c) : cntC T c (p + 1) = cntC T c p := by
  unfold cntC
  refine sumN_congr _ (fun q hq => ?_)
  by_cases e : q = p
  · subst e
    by_cases z : T 4 q < c
    · rw [if_pos (Or.inl z), if_pos (Or.inl z)]
    · rw [if_neg (by omega), if_neg (by omega)]
  · by_cases z : T 4 q < c ∨ (T 4 q = c ∧ q < p)
    · rw [if_pos (by omega), if_pos z]
    · rw [if_neg (by omega), if_neg z]
theorem cntC_eq {T : xTw} {c p : Nat} (hp : p < T 0 4) (h : T 4 p = c) : cntC T c (p + 1) = cntC T c p + 1 := by
  have key : ∀ n, p < n → sumN (fun q => if T 4 q < c ∨ (T 4 q = c ∧ q < p + 1) then 1 else 0) n = sumN (fun q => if T 4 q < c ∨ (T 4 q = c ∧ q < p) then 1 else 0) n + 1 := by
    intro n
    induction n with
    | zero => exact fun z => absurd z (Nat.not_lt_zero _)
    | succ n ih =>
      intro z
      show sumN _ n + (if T 4 n < c ∨ (T 4 n = c ∧ n < p + 1) then 1 else 0) = sumN _ n + (if T 4 n < c ∨ (T 4 n = c ∧ n < p) then 1 else 0) + 1
      by_cases e : n = p
      · subst e
        rw [if_pos (by omega), if_neg (by omega)]
        have : sumN (fun q => if T 4 q < c ∨ (T 4 q = c ∧ q < n + 1) then 1 else 0) n = sumN (fun q => if T 4 q < c ∨ (T 4 q = c ∧ q < n) then 1 else 0) n := by
          refine sumN_congr _ (fun q hq => ?_)
          by_cases y : T 4 q < c ∨ (T 4 q = c ∧ q < n)
          · rw [if_pos (by omega), if_pos y]
          · rw [if_neg (by omega), if_neg y]
        rw [this]
      · rw [ih (by omega)]
        by_cases y : T 4 n < c ∨ (T 4 n = c ∧ n < p)
        · rw [if_pos (by omega), if_pos y]
        · rw [if_neg (by omega), if_neg y]
  exact key _ hp
theorem cntC_next (T : xTw) (c : Nat) : cntC T (c + 1) 0 = cntC T c (T 0 4) := by
  unfold cntC
  refine sumN_congr _ (fun q hq => ?_)
  by_cases y : T 4 q < c ∨ (T 4 q = c ∧ q < T 0 4)
  · rw [if_pos (by omega), if_pos y]
  · rw [if_neg (by omega), if_neg y]
/-- what both stand on: the class has looked, the model knows who uses -/
def onC (T : xTw) (w : Nat) (K E : Nat → Nat) (σ τ : xM) : Prop := xCT σ T ∧ mes1 σ T (T 0 4) ∧ lookS σ T ∧ txX σ w K E ∧ mTn τ T ∧ txM τ w K E ∧ ∀ p, p < T 0 4 → gi τ 36 p = nI (useS T p)
/-- when the last car left each stop, EVERY more -/
def lfI (T : xTw) (σ τ : xM) (l : Nat → Nat) : Prop := ∀ p, p < T 0 4 → gi σ 94 p = nI (l p) - nI (T 0 2) ∧ gl τ 35 p = lN (l p) - lN (T 0 2)
def frCx (c _i : Nat) : Prop := c = 91 ∨ c = 94 ∨ c = 95 ∨ (97 ≤ c ∧ c ≤ 120 ∧ c % 4 = 0)
def frCm (c _i : Nat) : Prop := c = 28 ∨ c = 29 ∨ c = 35 ∨ c = 37
theorem onC_fr {T : xTw} (hR : rgT T) {w : Nat} {K E : Nat → Nat} {σ τ σ' τ' : xM} (h : onC T w K E σ τ) (f : Fr frCx σ σ') (g : Fr frCm τ τ') : onC T w K E σ' τ' := by
  have h8 := rg_stops hR
  obtain ⟨h1, h2, h3, h4, h5, h6, h7⟩ := h
  refine ⟨xCT_fr h1 f (fun c i q => by unfold frCx at q; omega), fun p hp => ?_, fun t ht => ?_, txX_fr h4 f (fun c i q => by unfold frCx at q; unfold xFree; omega), mTn_fr h5 g (fun c i q => by unfold frCm at q; unfold vT; omega), txM_fr h6 g (fun c i q => by unfold frCm at q; unfold mFree; omega), fun p hp => ?_⟩
  · rw [(f 28 p (by unfold frCx; omega)).1, (f 29 p (by unfold frCx; omega)).1]
    exact h2 p hp
  · have q := h3 t ht
    unfold lookT bstX at q ⊢
    rw [(f 71 t (by unfold frCx; omega)).1, (f 72 t (by unfold frCx; omega)).1, (f 73 t (by unfold frCx; omega)).1, (f 74 t (by unfold frCx; omega)).1, (f 75 t (by unfold frCx; omega)).1, (f 76 t (by unfold frCx; omega)).1]
    exact q
  · rw [(g 36 p (by unfold frCm; omega)).1]
    exact h7 p hp
/-- .. while one car goes -/
def frCy (c _i : Nat) : Prop := c = 91 ∨ c = 94 ∨ (97 ≤ c ∧ c ≤ 120 ∧ c % 4 = 0)
def frCn (c _i : Nat) : Prop := c = 28 ∨ c = 29 ∨ c = 35
theorem frCyx {c i : Nat} (h : frCy c i) : frCx c i := by
  unfold frCy at h
  unfold frCx
  omega
theorem frCnm {c i : Nat} (h : frCn c i) : frCm c i := by
  unfold frCn at h
  unfold frCm
  omega
theorem onC_fy {T : xTw} (hR : rgT T) {w : Nat} {K E : Nat → Nat} {σ τ σ' τ' : xM} (h : onC T w K E σ τ) (f : Fr frCy σ σ') (g : Fr frCn τ τ') : onC T w K E σ' τ' := onC_fr hR h (Fr_mono f (fun _ _ => frCyx)) (Fr_mono g (fun _ _ => frCnm))
theorem e_stopsNow {T : xTw} (hR : rgT T) {s : xM} (hT : xTn s T) (hm : mes1 s T (T 0 4)) {p c : Nat} (hp : p < T 0 4) (hc : c < 2) : fX9_stopsNow (nI c) (nI p) s = some (nI (stpS T p c), s) := by
  have h8 := rg_stops hR
  have o := rg_open hR (i := p) (by omega)
  have cs := carS_le T p
  have bl := bitS_le (carS T p) c
  unfold fX9_stopsNow stpS
  simp (disch := omega) only [inb_n, gd_t, nI_clamp, xT_open hT, (hm p hp).1]
  by_cases c1 : T 7 p = 1
  · rw [if_neg (by rw [c1]; decide), if_pos c1]
    by_cases c2 : bitS (carS T p) c = 1
    · rw [if_neg (fun q => (bit_tab _ (by omega) c hc).mp q c2), c2]
      rfl
    · rw [if_pos ((bit_tab _ (by omega) c hc).mpr c2), show bitS (carS T p) c = 0 by omega]
      rfl
  · rw [if_pos (by rw [show T 7 p = 0 by omega]; rfl), if_neg c1]
    rfl
theorem cars_stops {T : xTw} (hR : rgT T) {w : Nat} (hw : w < 6) {K E : Nat → Nat} (hK : txK K E) {k c b0 : Nat} (hk : k < 12) (hc : c ≤ 40) (hb0 : b0 ≤ 180000) {k1 : Int32 → xM → Option (Int32 × xM)} {k2 : Int64 → xM → Option (Int64 × xM)} {Q : Int32 → xM → Int64 → xM → Prop} : ∀ (m p f g : Nat) (σ τ : xM) (t : Nat) (l : Nat → Nat), p + m = T 0 4 → m < f → m < g → onC T w K E σ τ → lfI T σ τ l → t ≤ b0 + 60 * c + 1158 * cntC T c p → (∀ q, l q ≤ b0 + 60 * c + 1158 * cntC T c p + T 0 2) → (∀ σ' τ' t' l', Fr frCy σ σ' → Fr frCn τ τ' → lfI T σ' τ' l' → t' ≤ b0 + 60 * c + 1158 * cntC T c (T 0 4) → (∀ q, l' q ≤ b0 + 60 * c + 1158 * cntC T c (T 0 4) + T 0 2) → Rel (k1 (nI t') σ') (k2 (lN t') τ') Q) → Rel (fX9_endOf_L34 k1 (nI k) (nI c) f (nI t) (nI p) σ) (fX10_goesBy_L16 k2 (nI k) (nI c) g (lN t) (nI p) τ) Q := by
  have h8 := rg_stops hR
  have ev := rg_every hR
  have ev1 := hR.2
  intro m
  induction m with
  | zero =>
    intro p f g σ τ t l hp hf hg h1 h2 h3 h4 kk
    obtain ⟨f, rfl⟩ : ∃ n', f = n' + 1 := ⟨f - 1, by omega⟩
    obtain ⟨g, rfl⟩ : ∃ n', g = n' + 1 := ⟨g - 1, by omega⟩
    unfold fX9_endOf_L34 fX10_goesBy_L16
    rw [xT_stops h1.1.1, h1.2.2.2.2.1 0 4 (vt0 (by omega))]
    have e : nI (T 0 4) ≤ nI p := nI_le (by omega) (by omega)
    rw [show p = T 0 4 by omega] at h3 h4
    exact rl_T e (rr_T e (kk σ τ t l Fr_rf Fr_rf h2 h3 h4))
  | succ m ih =>
    intro p f g σ τ t l hp hf hg h1 h2 h3 h4 kk
    obtain ⟨f, rfl⟩ : ∃ n', f = n' + 1 := ⟨f - 1, by omega⟩
    obtain ⟨g, rfl⟩ : ∃ n', g = n' + 1 := ⟨g - 1, by omega⟩
    have hp8 : p < 8 := by omega
    have hpT : p < T 0 4 := by omega
    have b4 := rg_cell hR hp8
    obtain ⟨x1, x2, x3, x4, y1, y2, y3⟩ := id h1
    have cn := cntC_le hR c p
    unfold fX9_endOf_L34 fX10_goesBy_L16
    rw [xT_stops x1.1, y1 0 4 (vt0 (by omega))]
    have e : ¬ nI (T 0 4) ≤ nI p := nI_ge (by omega) (by omega)
    refine rl_F e (rr_F e (rl_G (inb_n hp8 (by omega)) (rr_G (inb_n hp8 (by omega)) ?_)))
    rw [nI_clamp (by omega), xT_cell x1.1 hp8, y1 4 p (vt3 (by omega) (by omega) hp8), nI_1]
    by_cases d : T 4 p = c
    rotate_left
    · have d2 : ¬ nI (T 4 p) = nI c := by
        rw [nI_eq (by omega) (by omega)]
        exact d
      have ce := cntC_ne (p := p) d
      refine rl_F d2 (rr_F d2 ?_)
      exact ih (p + 1) f g σ τ t l (by omega) (by omega) (by omega) h1 h2 (by rw [ce]; exact h3) (fun q => by rw [ce]; exact h4 q) kk
    · have d2 : nI (T 4 p) = nI c := by rw [d]
      have ce := cntC_eq hpT d
      refine rl_T d2 (rr_T d2 ?_)
      have km : k % 2 < 2 := by omega
      rw [q2, pk_rem (by omega) (by omega) (by omega), e_stopsNow hR x1.1 x2 hpT km, bd_some, e_doesStop hR y1 hp8 km, bd_some]
      have sls := stpS_le T p (k % 2)
      by_cases s1 : stpS T p (k % 2) = 1
      rotate_left
      · have s0 : nI (stpS T p (k % 2)) = 0 := by
          rw [show stpS T p (k % 2) = 0 by omega]
          rfl
        refine rl_T s0 (rr_T s0 ?_)
        exact ih (p + 1) f g σ τ t l (by omega) (by omega) (by omega) h1 h2 (by omega) (fun q => by have := h4 q; omega) kk
      · have s0 : ¬ nI (stpS T p (k % 2)) = 0 := by
          rw [s1]
          decide
        refine rl_F s0 (rr_F s0 ?_)
        obtain ⟨l1, l2⟩ := h2 p hpT
        have lp := h4 p
        -- when it is there, how long it waited
        obtain ⟨th, hth⟩ : ∃ th, th = if l p ≤ t + T 0 2 then t else l p - T 0 2 := ⟨_, rfl⟩
        have th1 : th ≤ b0 + 60 * c + 1158 * cntC T c p := by
          rw [hth]
          split <;> omega
        have th2 : l p ≤ th + T 0 2 := by
          rw [hth]
          split <;> omega
        obtain ⟨wt, hwt⟩ : ∃ wt, wt = th + T 0 2 - l p := ⟨_, rfl⟩
        have us := useS_le hR p
        have wb : wt ≤ 200000 := by omega
        have uw : useS T p * wt ≤ 792 * 200000 := mul_le2 us wb
        have ud : useS T p * wt / T 0 2 ≤ useS T p * wt := Nat.div_le_self _ _
        have sc := secS_le hR hp8
        have lt := clN_le (v := vS K E 1 (nmP wt (useS T p * wt / T 0 2) p)) (M := 999) (by omega)
        obtain ⟨dp, hdp⟩ : ∃ dp, dp = th + secS T p + clN (vS K E 1 (nmP wt (useS T p * wt / T 0 2) p)) 999 := ⟨_, rfl⟩
        -- the class leaves
        unfold fX9_leave
        refine rl_B (ok_G (inb_n hp8 (by omega)) (ok_lz.mpr (ok_G (inb_n hp8 (by omega)) (ok_lz.mpr ?_))))
        rw [nI_clamp (n := p) (by omega), l1]
        have eth : (if nI t < nI (l p) - nI (T 0 2) then nI (l p) - nI (T 0 2) else nI t) = nI th := by
          by_cases z : l p ≤ t + T 0 2
          · rw [if_neg (fun q => by have := (lt_sub (by omega) (by omega) (by omega)).mp q; omega), hth, if_pos z]
          · rw [if_pos ((lt_sub (by omega) (by omega) (by omega)).mpr (by omega)), hth, if_neg z, pk_sub (by omega)]
        rw [eth, sub_back th2, ← hwt, e_usersOf hR (xTk_of x1.1) x3 hp8, bd_some, xT_every x1.1]
        have em : (if (1 : Int32) < nI (T 0 2) then nI (T 0 2) else 1) = nI (T 0 2) := by
          by_cases z : 1 < T 0 2
          · rw [if_pos (show (1 : Int32) < nI (T 0 2) from nI_lt (a := 1) z (by omega))]
          · rw [if_neg (show ¬ (1 : Int32) < nI (T 0 2) from nI_nlt (a := 1) (b := T 0 2) (by omega) (by omega)), show T 0 2 = 1 by omega]
            rfl
        rw [em]
        refine ok_G (decide_eq_true (by rw [nI_n0 (by omega)]; omega)) ?_
        rw [pk_mul, pk_div (by omega) (by omega) (by omega)]
        refine ok_B (of_nameStop (fun σ1 f1 n1 => ?_))
        have X1 := txX_fr x4 f1 (fun c i q => by unfold xFree; omega)
        refine ok_G (inb_n hp8 (by omega)) ?_
        rw [X1.1]
        refine ok_G (inb_n hw (by omega)) ?_
        rw [nI_clamp (n := w) (by omega), q1]
        refine ok_B (of_valueOf hK hw (q := 1) (by omega) X1 n1 (fun σ2 f2 => ?_))
        rw [show (999 : Int32) = nI 999 from rfl, e_atB0 _ (by omega) (by omega), bd_some]
        refine ok_G (inb_n hp8 (by omega)) (ok_lz.mpr (ok_G (inb_n hp8 (by omega)) ?_))
        rw [gi_same, (f1 29 p (by omega)).1, (x2 p hpT).2, nI_add, nI_add, ← hdp]
        refine ok_R ?_
        have F : Fr frCy σ (si σ2 94 p (nI dp)) := by
          refine Fr_si (Fr_tr (Fr_mono f1 (fun c i q => Or.inl q)) (Fr_mono f2 (fun c i q => ?_))) _ (Or.inr (Or.inl rfl))
          omega
        -- the model goes by
        have mid : Rel (fX9_endOf_L34 k1 (nI k) (nI c) f (nI dp) (nI (p + 1)) (si σ2 94 p (nI dp))) (fX10_goesBy_J74 k2 (fX10_goesBy_L16 k2 (nI k) (nI c) g) (nI k) (nI c) (nI p) (lN th) τ) Q := by
          unfold fX10_goesBy_J74
          refine rr_G (inb_n hp8 (by omega)) (rr_lz.mpr ?_)
          rw [nI_clamp (n := p) (by omega), l2, lsub_back th2, ← hwt, lN_i]
          unfold fX10_names
          simp only [lz, bd_some]
          have g1 : Fr frCn τ (si (si (si (si τ 29 0 0) 29 1 0) 29 2 (nI wt)) 29 3 0) := by
            refine Fr_si (Fr_si (Fr_si (Fr_si Fr_rf _ ?_) _ ?_) _ ?_) _ ?_
            all_goals exact Or.inr (Or.inl rfl)
          have hN : ∀ j, j < 4 → gi (si (si (si (si τ 29 0 0) 29 1 0) 29 2 (nI wt)) 29 3 0) 29 j = nmP wt (useS T p * wt / T 0 2) p j := by
            intro j hj
            rcases (show j = 0 ∨ j = 1 ∨ j = 2 ∨ j = 3 by omega) with rfl | rfl | rfl | rfl <;> rfl
          have C1 := onC_fy hR h1 (Fr_rf (P := frCy)) g1
          have e35 : ∀ q, gl (si (si (si (si τ 29 0 0) 29 1 0) 29 2 (nI wt)) 29 3 0) 35 q = gl τ 35 q := fun q => rfl
          generalize si (si (si (si τ 29 0 0) 29 1 0) 29 2 (nI wt)) 29 3 0 = τ1 at *
          rw [e_seconds hR C1.2.2.2.2.1 hp8, bd_some]
          refine rr_G (inb_n hp8 (by omega)) ?_
          rw [C1.2.2.2.2.1 0 2 (vt0 (by omega)), C1.2.2.2.2.2.2 p hpT, nI_l (by omega), nI_l (by omega)]
          have g0 : ¬ lN (T 0 2) = 0 := by
            intro q
            have q2 : lN (T 0 2) = lN 0 := q
            rw [lN_eq (by omega) (by omega)] at q2
            omega
          refine rr_G (decide_eq_true g0) ?_
          rw [lN_mul, pk_lDiv (by omega) (by omega) (by omega), lN_i, q1]
          refine rr_B (of_says hK hw (q := 1) (nm := nmP wt (useS T p * wt / T 0 2) p) (by omega) C1.2.2.2.2.2.1 hN (fun τ2 g2 => ?_))
          rw [show (999 : Int32) = nI 999 from rfl, e_within _ (by omega), bd_some]
          refine rr_lz.mpr (rr_G (inb_n hp8 (by omega)) (rr_lz.mpr ?_))
          rw [nI_add, nI_add, nI_l (by omega), lN_add, ← Nat.add_assoc, ← hdp]
          have G : Fr frCn τ (sl τ2 35 p (lN dp)) := Fr_sl (Fr_tr g1 (Fr_mono g2 (fun c i q => q.elim Or.inl (fun z => Or.inr (Or.inl z))))) _ (Or.inr (Or.inr rfl))
          refine ih (p + 1) f g _ _ dp (fun q => if q = p then dp + T 0 2 else l q) (by omega) (by omega) (by omega) (onC_fy hR h1 F G) (fun q hq => ?_) (by rw [ce]; omega) (fun q => ?_) (fun σ' τ' t' l' z1 z2 => kk σ' τ' t' l' (Fr_tr F z1) (Fr_tr G z2))
          · by_cases e : q = p
            · subst e
              simp only [↓reduceIte]
              rw [gi_same, gl_same, pk_sub (Nat.le_add_left _ _), lN_sub (Nat.le_add_left _ _), Nat.add_sub_cancel]
              exact ⟨rfl, rfl⟩
            · simp only [if_neg e]
              have z := h2 q hq
              rw [gi_si, if_neg (by omega), gl_sl, if_neg (by omega), (f2 94 q (by omega)).1, (f1 94 q (by omega)).1, (g2 35 q (by omega)).2, e35 q]
              exact z
          · show (if q = p then dp + T 0 2 else l q) ≤ _
            rw [ce]
            split
            · omega
            · have := h4 q
              omega
        refine rr_G (inb_n hp8 (by omega)) ?_
        rw [l2]
        by_cases z : l p ≤ t + T 0 2
        · refine rr_T ((lsub_ge (by omega) (by omega) (by omega)).mpr z) ?_
          have e : t = th := by rw [hth, if_pos z]
          rw [e]
          exact mid
        · refine rr_F (fun q => z ((lsub_ge (by omega) (by omega) (by omega)).mp q)) ?_
          have e : lN (l p) - lN (T 0 2) = lN th := by rw [hth, if_neg z, lN_sub (by omega)]
          refine rr_G (inb_n hp8 (by omega)) ?_
          rw [e]
          exact mid
/-! from cell to cell -/
theorem cars_cells {T : xTw} (hR : rgT T) {w : Nat} (hw : w < 6) {K E : Nat → Nat} (hK : txK K E) {k b0 : Nat} (hk : k < 12) (hb0 : b0 ≤ 180000) {k1 : Int32 → xM → Option (Int32 × xM)} {k2 : Int64 → xM → Option (Int64 × xM)} {Q : Int32 → xM → Int64 → xM → Prop} : ∀ (m c f g : Nat) (σ τ : xM) (t : Nat) (l : Nat → Nat), c + m = 41 → m < f → m < g → onC T w K E σ τ → lfI T σ τ l → t + (if c = 0 then 0 else T 0 3) ≤ b0 + 60 * c + 1158 * cntC T c 0 → (∀ q, l q ≤ b0 + 60 * c + 1158 * cntC T c 0 + T 0 2) → (∀ σ' τ' t' l', Fr frCy σ σ' → Fr frCn τ τ' → lfI T σ' τ' l' → t' ≤ b0 + 11724 → (∀ q, l' q ≤ b0 + 11724 + T 0 2) → Rel (k1 (nI t') σ') (k2 (lN t') τ') Q) → Rel (fX9_endOf_L5 k1 (nI k) f (nI t) (nI c) σ) (fX10_goesBy_L6 k2 (nI k) g (lN (t + (if c = 0 ∨ c = 41 then 0 else T 0 3))) (nI c) τ) Q := by
  have h8 := rg_stops hR
  have ev := rg_every hR
  have pc := rg_pace hR
  intro m
  induction m with
  | zero =>
    intro c f g σ τ t l hc hf hg h1 h2 h3 h4 kk
    obtain ⟨f, rfl⟩ : ∃ n', f = n' + 1 := ⟨f - 1, by omega⟩
    obtain ⟨g, rfl⟩ : ∃ n', g = n' + 1 := ⟨g - 1, by omega⟩
    have ec : c = 41 := by omega
    subst ec
    have cn := cntC_le hR 41 0
    unfold fX9_endOf_L5 fX10_goesBy_L6
    have e1 : (41 : Int32) ≤ nI 41 := by decide
    have e2 : (40 : Int32) < nI 41 := by decide
    refine rl_T e1 (rr_T e2 ?_)
    rw [if_pos (Or.inr rfl), Nat.add_zero]
    exact kk σ τ t l Fr_rf Fr_rf h2 (by omega) (fun q => by have := h4 q; omega)
  | succ m ih =>
    intro c f g σ τ t l hc hf hg h1 h2 h3 h4 kk
    obtain ⟨f, rfl⟩ : ∃ n', f = n' + 1 := ⟨f - 1, by omega⟩
    obtain ⟨g, rfl⟩ : ∃ n', g = n' + 1 := ⟨g - 1, by omega⟩
    obtain ⟨fu', hfu⟩ := fu_big
    unfold fX9_endOf_L5 fX10_goesBy_L6
    have e1 : ¬ (41 : Int32) ≤ nI c := nI_ge (b := 41) (by omega) (by omega)
    have e2 : ¬ (40 : Int32) < nI c := nI_nlt (a := 40) (by omega) (by omega)
    refine rl_F e1 (rr_F e2 ?_)
    have go : Rel (fX9_endOf_J29 k1 (fX9_endOf_L5 k1 (nI k) f) (nI k) (nI c) (nI (if c = 0 then 0 else T 0 3)) (nI t) σ) (fX10_goesBy_L16 (fun x2 s3 => if (40 : Int32) ≤ nI c then lz (x2 + (0 : Int64)) fun v5 => fX10_goesBy_L6 k2 (nI k) g v5 (nI c + 1) s3 else lz (x2 + ((gi s3 0 3).toInt64)) fun v7 => fX10_goesBy_L6 k2 (nI k) g v7 (nI c + 1) s3) (nI k) (nI c) fu (lN (t + (if c = 0 then 0 else T 0 3))) (nI 0) τ) Q := by
      unfold fX9_endOf_J29
      refine rl_lz.mpr ?_
      rw [nI_add, hfu]
      refine cars_stops hR hw hK hk (by omega) hb0 (T 0 4) 0 (fu' + 4000) (fu' + 4000) σ τ _ l (by omega) (by omega) (by omega) h1 h2 h3 h4 (fun σ1 τ1 t1 l1 f1 g1 i1 b1 b2 => ?_)
      have C1 := onC_fy hR h1 f1 g1
      have nx := cntC_next T c
      rw [nI_1]
      by_cases c40 : c = 40
      · have e3 : (40 : Int32) ≤ nI c := by
          rw [c40]
          decide
        refine rr_T e3 (rr_lz.mpr ?_)
        have go := ih (c + 1) f g σ1 τ1 t1 l1 (by omega) (by omega) (by omega) C1 i1 (by rw [nx, if_neg (by omega)]; omega) (fun q => by rw [nx]; have := b2 q; omega) (fun σ' τ' t' l' z1 z2 => kk σ' τ' t' l' (Fr_tr f1 z1) (Fr_tr g1 z2))
        rw [if_pos (by omega), Nat.add_zero] at go
        rw [Int64.add_zero]
        exact go
      · have e3 : ¬ (40 : Int32) ≤ nI c := nI_ge (b := 40) (by omega) (by omega)
        refine rr_F e3 (rr_lz.mpr ?_)
        have go := ih (c + 1) f g σ1 τ1 t1 l1 (by omega) (by omega) (by omega) C1 i1 (by rw [nx, if_neg (by omega)]; omega) (fun q => by rw [nx]; have := b2 q; omega) (fun σ' τ' t' l' z1 z2 => kk σ' τ' t' l' (Fr_tr f1 z1) (Fr_tr g1 z2))
        rw [if_neg (by omega)] at go
        rw [C1.2.2.2.2.1 0 3 (vt0 (by omega)), nI_l (by omega), lN_add]
        exact go
    have ei : (if c = 0 ∨ c = 41 then 0 else T 0 3) = if c = 0 then 0 else T 0 3 := by
      by_cases z : c = 0
      · rw [if_pos (Or.inl z), if_pos z]
      · rw [if_neg (by omega), if_neg z]
    rw [ei]
    by_cases c0 : c = 0
    · rw [if_pos c0] at go ⊢
      have e4 : nI c = 0 := by
        rw [c0]
        rfl
      exact rl_T e4 go
    · rw [if_neg c0] at go ⊢
      have e4 : ¬ nI c = 0 := by
        rw [nI_n0 (by omega)]
        exact c0
      rw [xT_pace h1.1.1]
      exact rl_F e4 go
theorem cnt00 (T : xTw) : cntC T 0 0 = 0 := by
  unfold cntC
  have : sumN (fun q => if T 4 q < 0 ∨ (T 4 q = 0 ∧ q < 0) then 1 else 0) (T 0 4) = sumN (fun _ => 0) (T 0 4) := sumN_congr _ (fun q hq => if_neg (by omega))
  rw [this, sumN_zero]
/-- a car from its start to its end -/
theorem rel_car {T : xTw} (hR : rgT T) {w : Nat} (hw : w < 6) {K E : Nat → Nat} (hK : txK K E) {k b0 : Nat} (hk : k < 12) (hb0 : b0 ≤ 180000) {σ τ : xM} {t : Nat} {l : Nat → Nat} (h1 : onC T w K E σ τ) (h2 : lfI T σ τ l) (h3 : t ≤ b0) (h4 : ∀ q, l q ≤ b0 + T 0 2) {Q : Int32 → xM → Int64 → xM → Prop} (kk : ∀ σ' τ' t' l', Fr frCy σ σ' → Fr frCn τ τ' → lfI T σ' τ' l' → t' ≤ b0 + 11724 → (∀ q, l' q ≤ b0 + 11724 + T 0 2) → Q (nI t') σ' (lN t') τ') : Rel (fX9_endOf (nI k) (nI t) σ) (fX10_goesBy (nI k) (lN t) τ) Q := by
  obtain ⟨f, hf⟩ := fu_big
  unfold fX9_endOf fX10_goesBy
  rw [hf, show (0 : Int32) = nI 0 from rfl]
  have c0 := cnt00 T
  have go := cars_cells hR hw hK hk hb0 (k1 := fun x1 s2 => some (x1, s2)) (k2 := fun x1 s2 => some (x1, s2)) (Q := Q) 41 0 (f + 4000) (f + 4000) σ τ t l (by omega) (by omega) (by omega) h1 h2 (by rw [if_pos rfl]; omega) (fun q => by have := h4 q; omega) (fun σ' τ' t' l' z1 z2 z3 z4 z5 => rel_R (kk σ' τ' t' l' z1 z2 z3 z4 z5))
  rw [if_pos (Or.inl rfl), Nat.add_zero] at go
  exact go
/-- all cars -/
def endI (σ τ : xM) (n : Nat) (e : Nat → Nat) : Prop := ∀ k, k < n → gi σ 95 k = nI (e k) ∧ gl τ 37 k = lN (e k) ∧ e k < 2 ^ 29
theorem rel_cars {T : xTw} (hR : rgT T) {w : Nat} (hw : w < 6) {K E : Nat → Nat} (hK : txK K E) {N late : Nat} (hN : N ≤ 12) (hl : late ≤ 3600) {k1 k2 : xM → Option (Int32 × xM)} {Q : Int32 → xM → Int32 → xM → Prop} : ∀ (m k f g : Nat) (σ τ : xM) (l e : Nat → Nat), k + m = N → m < f → m < g → onC T w K E σ τ → lfI T σ τ l → (∀ q, l q ≤ 43200 + 11724 * k + T 0 2) → endI σ τ k e → (∀ σ' τ' e', Fr frCx σ σ' → Fr frCm τ τ' → endI σ' τ' N e' → Rel (k1 σ') (k2 τ') Q) → Rel (fX9_runCars_L21 k1 (nI N) (nI late) f (nI k) σ) (fX10_goesAll_L41 k2 (nI N) (nI late) g (nI k) τ) Q := by
  have h8 := rg_stops hR
  have ev := rg_every hR
  intro m
  induction m with
  | zero =>
    intro k f g σ τ l e hk hf hg h1 h2 h3 h4 kk
    obtain ⟨f, rfl⟩ : ∃ n', f = n' + 1 := ⟨f - 1, by omega⟩
    obtain ⟨g, rfl⟩ : ∃ n', g = n' + 1 := ⟨g - 1, by omega⟩
    unfold fX9_runCars_L21 fX10_goesAll_L41
    have e1 : nI N ≤ nI k := nI_le (by omega) (by omega)
    rw [show k = N by omega] at h4
    exact rl_T e1 (rr_T e1 (kk σ τ e Fr_rf Fr_rf h4))
  | succ m ih =>
    intro k f g σ τ l e hk hf hg h1 h2 h3 h4 kk
    obtain ⟨f, rfl⟩ : ∃ n', f = n' + 1 := ⟨f - 1, by omega⟩
    obtain ⟨g, rfl⟩ : ∃ n', g = n' + 1 := ⟨g - 1, by omega⟩
    unfold fX9_runCars_L21 fX10_goesAll_L41
    have e1 : ¬ nI N ≤ nI k := nI_ge (by omega) (by omega)
    have e2 : ¬ (12 : Int32) ≤ nI k := nI_ge (b := 12) (by omega) (by omega)
    refine rl_F e1 (rl_F e2 (rr_F e1 ?_))
    have go : ∀ t, t ≤ 43200 → Rel (fX9_runCars_J56 k1 (fX9_runCars_L21 k1 (nI N) (nI late) f) (nI N) (nI late) (nI k) (nI t) (nI k) (nI k) σ) (bd (fX10_goesBy (nI k) (lN t) τ) fun r1 s2 => gd (inb (nI k) 12) <| lz (sl s2 37 (nI k).toNatClampNeg r1) fun s5 => fX10_goesAll_L41 k2 (nI N) (nI late) g (nI k + 1) s5) Q := by
      intro t ht
      unfold fX9_runCars_J56
      refine rel_BB (rel_car hR hw hK (by omega) (b0 := 43200 + 11724 * k) (by omega) h1 h2 (by omega) h3 (fun σ1 τ1 t1 l1 f1 g1 i1 b1 b2 => ?_))
      refine rl_G (inb_n (by omega) (by omega)) (rr_G (inb_n (by omega) (by omega)) (rl_lz.mpr (rr_lz.mpr ?_)))
      rw [nI_clamp (by omega), nI_1]
      have F : Fr frCx σ (si σ1 95 k (nI t1)) := Fr_si (Fr_mono f1 (fun _ _ => frCyx)) _ (Or.inr (Or.inr (Or.inl rfl)))
      have G : Fr frCm τ (sl τ1 37 k (lN t1)) := Fr_sl (Fr_mono g1 (fun _ _ => frCnm)) _ (Or.inr (Or.inr (Or.inr rfl)))
      have bnd : ∀ q, l1 q ≤ 43200 + 11724 * (k + 1) + T 0 2 := fun q => by
        rw [Nat.mul_succ, ← Nat.add_assoc]
        exact b2 q
      have tb : t1 < 2 ^ 29 := by omega
      refine ih (k + 1) f g _ _ l1 (fun j => if j = k then t1 else e j) (by omega) (by omega) (by omega) (onC_fr hR h1 F G) (fun q hq => ?_) bnd (fun j hj => ?_) (fun σ' τ' e' z1 z2 => kk σ' τ' e' (Fr_tr F z1) (Fr_tr G z2))
      · have z := i1 q hq
        rw [gi_si, if_neg (by omega), gl_sl, if_neg (by omega)]
        exact z
      · by_cases x : j = k
        · subst x
          simp only [↓reduceIte]
          exact ⟨gi_same _ _ _ _, gl_same _ _ _ _, tb⟩
        · simp only [if_neg x]
          have z := h4 j (by omega)
          rw [gi_si, if_neg (by omega), gl_sl, if_neg (by omega), (f1 95 j (by unfold frCy; omega)).1, (g1 37 j (by unfold frCn; omega)).2]
          exact z
    unfold fX10_goesAll_J70
    rw [h1.2.2.2.2.1 0 2 (vt0 (by omega)), nI_l (n := k) (by omega), nI_l (n := T 0 2) (by omega), lN_mul]
    have ke : k * T 0 2 ≤ 12 * 3600 := mul_le2 (by omega) ev
    by_cases k0 : k = 0
    · have e3 : nI k = 0 := by
        rw [k0]
        rfl
      refine rl_T e3 (rr_T e3 ?_)
      rw [nI_l (n := late) (by omega), lN_add, show k * T 0 2 + late = late by rw [k0, Nat.zero_mul, Nat.zero_add]]
      exact go late (by omega)
    · have e3 : ¬ nI k = 0 := by
        rw [nI_n0 (by omega)]
        exact k0
      refine rl_F e3 (rr_F e3 ?_)
      rw [xT_every h1.1.1, pk_mul, show (0 : Int32).toInt64 = lN 0 from rfl, lN_add, Nat.add_zero]
      exact go (k * T 0 2) (by omega)
/-! the model's start: when a car left, who uses -/
theorem ol_goes2 {T : xTw} (hR : rgT T) {τ0 : xM} (hM : mTn τ0 T) {a1 a2 : Int32} {kt : xM → Option (Int32 × xM)} {Q : Int32 → xM → Prop} : ∀ (m p n : Nat) (s : xM), p + m = T 0 4 → m < n → Fr (fun c i => frW c i ∨ c = 35 ∨ c = 36) τ0 s → (∀ q, q < p → gl s 35 q = lN 0 - lN (T 0 2) ∧ gi s 36 q = nI (useS T q)) → (∀ s', Fr (fun c i => frW c i ∨ c = 35 ∨ c = 36) τ0 s' → (∀ q, q < T 0 4 → gl s' 35 q = lN 0 - lN (T 0 2) ∧ gi s' 36 q = nI (useS T q)) → Ok (kt s') Q) → Ok (fX10_goesAll_L2 kt a1 a2 n (nI p) s) Q := by
  have h8 := rg_stops hR
  have ev := rg_every hR
  have fo : ∀ c i, (frW c i ∨ c = 35 ∨ c = 36) → ¬ vT c i := fun c i q => by
    unfold frW at q
    unfold vT
    omega
  intro m
  induction m with
  | zero =>
    intro p n s hp hn g hd kk
    obtain ⟨n, rfl⟩ : ∃ n', n = n' + 1 := ⟨n - 1, by omega⟩
    unfold fX10_goesAll_L2
    refine ok_T (by rw [mTn_fr hM g fo 0 4 (vt0 (by omega))]; exact nI_le (by omega) (by omega)) ?_
    exact kk s g (fun q hq => hd q (by omega))
  | succ m ih =>
    intro p n s hp hn g hd kk
    obtain ⟨n, rfl⟩ : ∃ n', n = n' + 1 := ⟨n - 1, by omega⟩
    have hMs := mTn_fr hM g fo
    unfold fX10_goesAll_L2
    refine ok_F (by rw [hMs 0 4 (vt0 (by omega))]; exact nI_ge (by omega) (by omega)) ?_
    refine ok_G (inb_n (by omega) (by omega)) (ok_lz.mpr ?_)
    rw [nI_clamp (by omega), hMs 0 2 (vt0 (by omega)), lneg_ev (by omega), nI_1]
    have g1 : Fr (fun c i => frW c i ∨ c = 35 ∨ c = 36) τ0 (sl s 35 p (lN 0 - lN (T 0 2))) := Fr_sl g _ (Or.inr (Or.inl rfl))
    refine ok_B (of_useOf hR (mTn_fr hM g1 fo) (by omega) (fun s2 f2 => ?_))
    refine ok_G (inb_n (by omega) (by omega)) (ok_lz.mpr ?_)
    refine ih (p + 1) n _ (by omega) (by omega) (Fr_si (Fr_tr g1 (Fr_mono f2 (fun _ _ q => Or.inl q))) _ (Or.inr (Or.inr rfl))) (fun q hq => ?_) kk
    rw [gl_si, gi_si, (f2 35 q (by unfold frW; omega)).2, gl_sl]
    by_cases e : q = p
    · rw [if_pos ⟨rfl, e⟩, if_pos ⟨rfl, e⟩, e]
      exact ⟨rfl, rfl⟩
    · rw [if_neg (by omega), if_neg (by omega), (f2 36 q (by unfold frW; omega)).1]
      exact hd q (by omega)
theorem rel_run {σ τ : xM} {T : xTw} {n : Nat} (h : RT σ τ T n) {N late : Nat} (hN : N ≤ 12) (hl : late ≤ 3600) {Q : Int32 → xM → Int32 → xM → Prop} (kk : ∀ σ' τ' e, RT σ' τ' T n → endI σ' τ' N e → Q 0 σ' 0 τ') : Rel (fX9_runCars (nI N) (nI late) σ) (fX10_goesAll (nI N) (nI late) τ) Q := by
  have hR := h.1
  have hX := h.2.2.1
  have hM := h.2.2.2.1
  have h8 := rg_stops hR
  have ev := rg_every hR
  obtain ⟨w, K, E, hw, hK, tX, tM⟩ := tx_of h.2.2.2.2.2.1
  obtain ⟨f, hf⟩ := fu_big
  unfold fX9_runCars fX10_goesAll
  rw [hf]
  refine rl_B (of_lookAtNow hR hX (fun s1 f1 m1 l1 => ?_))
  have hX1 := xCT_fr hX f1 (fun _ _ => xAsk_27)
  rw [xT_every hX1.1, neg_ev]
  refine rl_B (of_fill (by omega) (fun s2 f2 v2 => ?_))
  have f2' : Fr frCx s1 s2 := Fr_mono f2 (fun c i q => Or.inr (Or.inl q.1))
  have f3 : Fr xAsk σ s2 := Fr_tr f1 (Fr_mono f2' (fun c i q => by unfold frCx at q; unfold xAsk; omega))
  refine rr_O (ol_goes2 hR hM (T 0 4) 0 (f + 4000) τ (by omega) (by omega) Fr_rf (fun q hq => absurd hq (Nat.not_lt_zero _)) (fun t2 g2 d2 => rr_U ?_))
  have g2' : Fr mAsk τ t2 := Fr_mono g2 (fun c i q => q.elim frW_ask (fun z => by unfold mAsk; omega))
  have C : onC T w K E s2 t2 := by
    refine ⟨xCT_fr hX f3 (fun _ _ => xAsk_27), fun p hp => ?_, fun t ht => ?_, txX_fr tX f3 (fun _ _ => xAsk_free), mTn_fr hM g2' (fun _ _ => mAsk_off), txM_fr tM g2' (fun _ _ => mAsk_free), fun p hp => (d2 p hp).2⟩
    · rw [(f2 28 p (by omega)).1, (f2 29 p (by omega)).1]
      exact m1.1 p hp
    · have q := l1 t ht
      unfold lookT bstX at q ⊢
      rw [(f2 71 t (by omega)).1, (f2 72 t (by omega)).1, (f2 73 t (by omega)).1, (f2 74 t (by omega)).1, (f2 75 t (by omega)).1, (f2 76 t (by omega)).1]
      exact q
  rw [show (0 : Int32) = nI 0 from rfl]
  refine rel_cars hR hw hK hN hl N 0 (f + 4000) (f + 4000) s2 t2 (fun _ => 0) (fun _ => 0) (by omega) (by omega) (by omega) C (fun p hp => ⟨v2 p (by omega), (d2 p hp).1⟩) (fun q => Nat.zero_le _) (fun k hk => absurd hk (Nat.not_lt_zero _)) (fun σ' τ' e z1 z2 z3 => ?_)
  refine rel_R (kk σ' τ' e (RT_ask h (Fr_tr f3 (Fr_mono z1 (fun c i q => by unfold frCx at q; unfold xAsk; omega))) (Fr_tr g2' (Fr_mono z2 (fun c i q => by unfold frCm at q; unfold mAsk; omega)))) z3)
/-! ===== bunch, crowd ===== -/
theorem sim_bunch : xs_bunch RR := by
  intro σ τ h a0 a1
  refine sim_of ?_
  obtain ⟨T, n, h⟩ := h
  unfold fX9_bunch fX10_bunch
  simp only [e_isWithin, e_in, bd_some]
  rcases rcase a0 (M := 11) (n := 11) rfl with c | ⟨c, k, hk, rfl⟩
  · simp only [c, ↓reduceIte]
    exact sim_R h rfl
  simp only [c, n10, ↓reduceIte]
  rcases rcase a1 (M := 3600) (n := 3600) rfl with d | ⟨d, late, hl, rfl⟩
  · simp only [d, ↓reduceIte]
    exact sim_R h rfl
  simp only [d, n10, ↓reduceIte]
  rw [nI_1]
  refine rel_BB (rel_run h (by omega) hl (fun σ' τ' e h' i' => ?_))
  obtain ⟨i1, i2, i3⟩ := i' k (by omega)
  refine rl_G (inb_n (by omega) (by omega)) (rr_G (inb_n (by omega) (by omega)) ?_)
  rw [nI_clamp (by omega), i1, i2, lN_i]
  exact sim_R h' rfl
theorem lsub_i (a b : Nat) : (lN a - lN b).toInt32 = nI a - nI b := by
  rw [Int64.toInt32_sub, lN_i, lN_i]
theorem sub_lt_sub {a b c d : Nat} (ha : a < 2 ^ 29) (hb : b < 2 ^ 29) (hc : c < 2 ^ 29) (hd : d < 2 ^ 29) : (nI a - nI b < nI c - nI d) ↔ ¬ 0 ≤ lg_cmp (lN a - lN b) (lN c - lN d) := by
  rw [lg_cmp_ge, Int64.le_iff_toInt_le, lN_subI (by omega) (by omega), lN_subI (by omega) (by omega), Int32.lt_iff_toInt_lt, pk_sub_toInt (by omega) (by omega), pk_sub_toInt (by omega) (by omega)]
  omega
theorem crowd_loop {N : Nat} (hN : N ≤ 12) {σ τ : xM} {e : Nat → Nat} (hE : endI σ τ N e) {T : xTw} {n : Nat} (h : RT σ τ T n) : ∀ (m k f g a b : Nat), k + m = N → 1 ≤ k → m < f → m < g → a < 2 ^ 29 → b < 2 ^ 29 → Rel (fX9_crowd_L47 (fun x14 s15 => some (x14, s15)) (nI N) f (nI a - nI b) (nI k) σ) (fX10_crowd_L47 (fun x14 s15 => some ((x14.toInt32), s15)) (nI N) g (lN a - lN b) (nI k) τ) SimP := by
  intro m
  induction m with
  | zero =>
    intro k f g a b hk hk1 hf hg ha hb
    obtain ⟨f, rfl⟩ : ∃ n', f = n' + 1 := ⟨f - 1, by omega⟩
    obtain ⟨g, rfl⟩ : ∃ n', g = n' + 1 := ⟨g - 1, by omega⟩
    unfold fX9_crowd_L47 fX10_crowd_L47
    have e1 : nI N ≤ nI k := nI_le (by omega) (by omega)
    refine rl_T e1 (rr_T e1 ?_)
    rw [lsub_i]
    exact sim_R h rfl
  | succ m ih =>
    intro k f g a b hk hk1 hf hg ha hb
    obtain ⟨f, rfl⟩ : ∃ n', f = n' + 1 := ⟨f - 1, by omega⟩
    obtain ⟨g, rfl⟩ : ∃ n', g = n' + 1 := ⟨g - 1, by omega⟩
    obtain ⟨j, rfl⟩ : ∃ j, k = j + 1 := ⟨k - 1, by omega⟩
    unfold fX9_crowd_L47 fX10_crowd_L47
    have e1 : ¬ nI N ≤ nI (j + 1) := nI_ge (by omega) (by omega)
    refine rl_F e1 (rr_F e1 ?_)
    rw [nI_pred]
    obtain ⟨x1, x2, x3⟩ := hE j (by omega)
    obtain ⟨y1, y2, y3⟩ := hE (j + 1) (by omega)
    simp (disch := omega) only [rl_gd, rr_gd, rl_lz, rr_lz, inb_n, true_and, nI_clamp, x1, x2, y1, y2, nI_1]
    by_cases c : nI (e (j + 1)) - nI (e j) < nI a - nI b
    · rw [if_pos c]
      refine rr_F ((sub_lt_sub y3 x3 ha hb).mp c) ?_
      exact ih (j + 1 + 1) f g _ _ (by omega) (by omega) (by omega) (by omega) y3 x3
    · rw [if_neg c]
      refine rr_T (Classical.not_not.mp (fun q => c ((sub_lt_sub y3 x3 ha hb).mpr q))) ?_
      exact ih (j + 1 + 1) f g _ _ (by omega) (by omega) (by omega) (by omega) ha hb
theorem sim_crowd : xs_crowd RR := by
  intro σ τ h a0 a1
  refine sim_of ?_
  obtain ⟨T, n, h⟩ := h
  obtain ⟨f, hf⟩ := fu_big
  unfold fX9_crowd fX10_crowd
  simp only [e_isWithin, e_in, bd_some]
  by_cases c : a0 < 2 ∨ 12 < a0
  · simp only [c, ↓reduceIte]
    exact sim_R h rfl
  simp only [c, n10, ↓reduceIte]
  have c0 : ¬ a0 < 0 := fun q => c (Or.inl (Int32.lt_trans q (by decide)))
  obtain ⟨N, hN, rfl⟩ := nI_of c0
  have c1 : 2 ≤ N := Nat.not_lt.mp fun q => c (Or.inl (nI_lt (b := 2) q (by omega)))
  have c2 : N ≤ 12 := Nat.not_lt.mp fun q => c (Or.inr (nI_lt (a := 12) q hN))
  rcases rcase a1 (M := 3600) (n := 3600) rfl with d | ⟨d, late, hl, rfl⟩
  · simp only [d, ↓reduceIte]
    exact sim_R h rfl
  simp only [d, n10, ↓reduceIte]
  refine rel_BB (rel_run h c2 hl (fun σ' τ' e h' i' => ?_))
  obtain ⟨x1, x2, x3⟩ := i' 0 (by omega)
  obtain ⟨y1, y2, y3⟩ := i' 1 (by omega)
  refine rl_lz.mpr (rr_lz.mpr ?_)
  rw [x1, x2, y1, y2, hf, q2]
  exact crowd_loop c2 i' h' (N - 2) 2 (f + 4000) (f + 4000) _ _ (by omega) (by omega) (by omega) (by omega) y3 x3
