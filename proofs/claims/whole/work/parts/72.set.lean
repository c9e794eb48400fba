/-! ===== one number of the town anew ===== -/
theorem up_id {T : xTw} {c i v : Nat} (h : T c i = v) : up T c i v = T := by
  funext d j
  by_cases e : d = c ∧ j = i
  · rw [e.1, e.2, up_same, h]
  · exact up_ne e
theorem si_self (s : xM) (c i : Nat) : si s c i (gi s c i) = s := by
  unfold si gi
  refine Prod.ext (funext fun a => funext fun b => ?_) rfl
  show (if a = c ∧ b = i then s.1 c i else s.1 a b) = s.1 a b
  split
  · rename_i h
    rw [h.1, h.2]
  · rfl
theorem rcase1 (a : Int32) {M : Int32} {n : Nat} (hM : M.toInt = n) : (a < 1 ∨ M < a) ∨ ¬ (a < 1 ∨ M < a) ∧ ∃ j, 1 ≤ j ∧ j ≤ n ∧ a = nI j := by
  by_cases c : a < 1 ∨ M < a
  · exact Or.inl c
  · refine Or.inr ⟨c, ?_⟩
    have c1 : ¬ a < 1 := fun h => c (Or.inl h)
    have c2 : ¬ M < a := fun h => c (Or.inr h)
    have c3 : ¬ a < 0 := fun h => c1 (Int32.lt_trans h (by decide))
    obtain ⟨j, hj, rfl⟩ := nI_of c3
    rw [Int32.lt_iff_toInt_lt, nI_toInt hj] at c1 c2
    rw [show (1 : Int32).toInt = 1 from rfl] at c1
    exact ⟨j, by omega, by omega, rfl⟩
theorem patZ_up {T : xTw} (h : patZ T) {c i v : Nat} (h4 : ¬ (c = 0 ∧ i = 4)) (hp : c = 9 → i < T 0 4 ∨ v = 0) : patZ (up T c i v) := by
  intro p h1 h2
  rw [up_ne (fun q => h4 ⟨q.1.symm, q.2.symm⟩)] at h1
  by_cases e : 9 = c ∧ p = i
  · rw [← e.1, ← e.2, up_same]
    rcases hp e.1.symm with q | q
    · omega
    · exact q
  · rw [up_ne e]
    exact h p h1 h2
theorem xKA_up {σ : xM} {T : xTw} (h : xKA σ T) {c i v : Nat} (hc : c ≠ 3) : xKA σ (up T c i v) := fun p hp => by
  rw [up_ne (fun q => hc q.1.symm)]
  exact h p hp
theorem xCl_up {σ : xM} {T : xTw} (h : xCl σ T) {c i v : Nat} (hc : c ≠ 1) : xCl σ (up T c i v) := fun n hn => by
  rw [ups_cg (T := T) (fun j => up_ne (fun q => hc q.1.symm)), dns_cg (T := T) (fun j => up_ne (fun q => hc q.1.symm))]
  exact h n hn
theorem xl_free {c i : Nat} (h : vT c i) : xFree (xlc c i) (xlp c i) := by
  have a := xl_cases h
  unfold xFree
  omega
theorem vT_free {c i : Nat} (h : vT c i) : mFree c i := by
  unfold vT at h
  unfold mFree
  omega
theorem xKA_si {σ : xM} {T : xTw} (h : xKA σ T) {c i : Nat} (v : Int32) (hc : c < 11 ∨ 18 < c ∨ i ≠ 1) : xKA (si σ c i v) T := fun p hp => by
  rw [gi_si, if_neg (by omega)]
  exact h p hp
theorem xCl_si {σ : xM} {T : xTw} (h : xCl σ T) {c i : Nat} (v : Int32) (hc : c ≠ 3 ∧ c ≠ 4) : xCl (si σ c i v) T := fun p hp => by
  rw [gi_si, if_neg (by omega), gi_si, if_neg (by omega)]
  exact h p hp
theorem xCT_up {σ : xM} {T : xTw} (h : xCT σ T) {c i : Nat} (v : Nat) (hv : vT c i) (hc : c ≠ 1) (hc3 : c ≠ 3) : xCT (si σ (xlc c i) (xlp c i) (nI v)) (up T c i v) := by
  have a := xl_cases hv
  exact ⟨xTn_up h.1 v hv, xKA_up (xKA_si h.2.1 _ (by omega)) hc3, xCl_up (xCl_si h.2.2 _ (by omega)) hc⟩
theorem RT_set {σ τ : xM} {T : xTw} {n c i v : Nat} (h : RT σ τ T n) (hv : vT c i) (hr : v ≤ hiT c i) (h0 : c = 0 → i = 2 → 1 ≤ v) (hc : c ≠ 1) (hc3 : c ≠ 3) (h4 : ¬ (c = 0 ∧ i = 4)) (hp : c = 9 → i < T 0 4) : RT (si σ (xlc c i) (xlp c i) (nI v)) (si τ c i (nI v)) (up T c i v) n := by
  refine ⟨rgT_up h.1 hr h0, patZ_up h.2.1 h4 (fun q => Or.inl (hp q)), xCT_up h.2.2.1 v hv hc hc3, mTn_up h.2.2.2.1 v, ?_⟩
  have e : up T c i v 0 4 = T 0 4 := up_ne (fun q => h4 ⟨q.1.symm, q.2.symm⟩)
  rw [e]
  exact rstR_fr (P := xFree) (P' := mFree) h.2.2.2.2 (Fr_si Fr_rf _ (xl_free hv)) (fun _ _ q => q) (Fr_si Fr_rf _ (vT_free hv)) (fun _ _ q => q) (Nat.le_refl _)
/-! ===== road ===== -/
theorem sim_road : xs_road RR := by
  intro σ τ h a0 a1
  refine sim_of ?_
  obtain ⟨T, n, h⟩ := h
  have hR := h.1
  unfold fX9_road fX10_road
  simp only [e_isWithin, e_in, e_isCell10, bd_some]
  rcases rcase a0 (M := 40) (n := 40) rfl with c | ⟨c, i, hi, rfl⟩
  · simp only [c, ↓reduceIte]
    exact sim_R h rfl
  · simp only [c, n10, ↓reduceIte]
    rcases rcase a1 (M := 9) (n := 9) rfl with d | ⟨d, v, hv, rfl⟩
    · simp only [d, ↓reduceIte]
      exact sim_R h rfl
    · have hi1 : vT 1 i := vt1 (by omega)
      simp (disch := omega) only [d, n10, ↓reduceIte, rl_gd, rr_gd, rl_lz, rr_lz, inb_n, nI_clamp, true_and]
      have x1 := xT_height h.2.2.1.1 (i := i) (by omega)
      have x2 := h.2.2.2.1 1 i hi1
      rw [x1, x2]
      have hT' : xTn (si σ 2 i (nI v)) (up T 1 i v) := xTn_up h.2.2.1.1 v hi1
      have hR' : rgT (up T 1 i v) := rgT_up hR (show v ≤ 9 from hv) (fun q => absurd q (by omega))
      have z := h.2.2.1.2.2 0 (by omega)
      have z3 : gi (si σ 2 i (nI v)) 3 0 = 0 := by
        rw [gi_si, if_neg (by omega)]
        exact z.1
      have z4 : gi (si σ 2 i (nI v)) 4 0 = 0 := by
        rw [gi_si, if_neg (by omega)]
        exact z.2
      refine rl_B (of_measureClimbs hR' hT' z3 z4 (fun s' f hcl => sim_R (T := up T 1 i v) (n := n) ⟨hR', patZ_up h.2.1 (by omega) (fun q => absurd q (by omega)), ⟨?_, ?_, hcl⟩, mTn_up h.2.2.2.1 v, ?_⟩ rfl))
      · exact xTn_fr hT' f (fun c i q => by unfold xoff; omega)
      · exact xKA_up (xKA_fr (xKA_si h.2.2.1.2.1 _ (by omega)) f (fun c i q => by omega)) (by omega)
      · refine rstR_fr (P := xFree) (P' := mFree) h.2.2.2.2 (Fr_tr (Fr_si Fr_rf _ (xl_free hi1)) (Fr_mono f (fun c i q => ?_))) (fun _ _ q => q) (Fr_si Fr_rf _ (vT_free hi1)) (fun _ _ q => q) (Nat.le_refl _)
        unfold xFree
        omega
/-! ===== sort ===== -/
theorem sT0_0 : sT0.getD 0 0 = 1 := rfl
theorem sT0_n : ∀ w, w < 6 → 0 < w → sT0.getD w 0 = 0 := by decide
theorem sT1_01 : ∀ w, w < 2 → sT1.getD w 0 = 60 := by decide
theorem sT1_24 : ∀ w, w < 5 → 2 ≤ w → sT1.getD w 0 = 9 := by decide
theorem sort_end {σ τ : xM} {T : xTw} {n : Nat} (h : RT σ τ T n) {k w v : Nat} (hk : k < 3) (hw : w < 6) (hv : v ≤ hiT 2 (6 * k + w)) : Rel (some (gi σ (6 + k) w, si σ (6 + k) w (nI v))) (fX10_sort_J80 (nI k) (nI w) (nI v) 1 τ) SimP := by
  have hv2 : vT 2 (6 * k + w) := vt2 (by omega)
  unfold fX10_sort_J80
  simp (disch := omega) only [n10, ↓reduceIte, q6, pk_mul, nI_add, rr_gd, rr_lz, inb_n, nI_clamp, true_and]
  have x1 := xT_sort h.2.2.1.1 hk hw
  have x2 := h.2.2.2.1 _ _ hv2
  rw [x1, x2]
  have g := RT_set h hv2 hv (fun q => absurd q (by omega)) (by omega) (by omega) (by omega) (fun q => absurd q (by omega))
  have e1 : xlc 2 (6 * k + w) = 6 + k := by
    show 6 + (6 * k + w) / 6 = 6 + k
    omega
  have e2 : xlp 2 (6 * k + w) = w := by
    show (6 * k + w) % 6 = w
    omega
  rw [e1, e2] at g
  exact sim_R g rfl
theorem hi_sort {k w : Nat} (hw : w < 6) : hiT 2 (6 * k + w) = if w < 2 then 60 else if w = 5 then 9999 else 9 := by
  have e : hiT 2 (6 * k + w) = (if (6 * k + w) % 6 < 2 then 60 else if (6 * k + w) % 6 = 5 then 9999 else 9) := rfl
  rw [e, show (6 * k + w) % 6 = w by omega]
theorem sim_sort : xs_sort RR := by
  intro σ τ h a0 a1 a2
  refine sim_of ?_
  obtain ⟨T, n, h⟩ := h
  unfold fX9_sort fX10_sort
  simp only [e_isSort9, e_isWithin, e_in, bd_some]
  rcases rcase a0 (M := 2) (n := 2) rfl with c | ⟨c, k, hk, rfl⟩
  · simp only [c, ↓reduceIte]
    exact sim_R h rfl
  · simp only [c, n10, ↓reduceIte]
    rcases rcase a1 (M := 5) (n := 5) rfl with d | ⟨d, w, hw, rfl⟩
    · have d0 : ¬ a1 = 0 := fun e => by subst e; revert d; decide
      have d1 : ¬ a1 = 1 := fun e => by subst e; revert d; decide
      have d5 : ¬ a1 = 5 := fun e => by subst e; revert d; decide
      have d2 : a1 < 2 ∨ 4 < a1 := by
        rcases d with q | q
        · exact Or.inl (Int32.lt_trans q (by decide))
        · exact Or.inr (Int32.lt_trans (by decide) q)
      simp only [d, d0, d1, d2, d5, ↓reduceIte]
      unfold fX10_sort_J79 fX10_sort_J80
      simp only [↓reduceIte]
      exact sim_R h rfl
    · have hs := hi_sort (k := k) (w := w) (by omega)
      simp (disch := omega) only [d, n10, ↓reduceIte, rl_gd, inb_n, nI_clamp, true_and]
      have e0 : (nI w = 0) ↔ w = 0 := nI_n0 (by omega)
      have e1 : (nI w = 1) ↔ w = 1 := by rw [q1, nI_eq (by omega) (by omega)]
      have e5 : (nI w = 5) ↔ w = 5 := by rw [q5, nI_eq (by omega) (by omega)]
      have e2 : (nI w < 2 ∨ 4 < nI w) ↔ (w < 2 ∨ 4 < w) := by rw [q2, q4, nI_ltI (by omega) (by omega), nI_ltI (by omega) (by omega)]
      simp only [e0, e1, e2, e5]
      by_cases w0 : w = 0
      · subst w0
        simp only [sT0_0, sT1_01 0 (by omega), ↓reduceIte]
        rcases rcase1 a2 (M := 60) (n := 60) rfl with g | ⟨g, v, hv1, hv, rfl⟩
        · unfold fX10_sort_J80
          simp only [g, ↓reduceIte]
          exact sim_R h rfl
        · simp only [g, n10, ↓reduceIte]
          try simp (disch := omega) only [rl_gd, rl_lz, inb_n, nI_clamp, true_and, gd_t, lz]
          exact sort_end (k := k) h (by omega) (by omega) (by rw [hs, if_pos (by omega)]; exact hv)
      · simp only [sT0_n w (by omega) (by omega), w0, ↓reduceIte]
        by_cases w1 : w = 1
        · subst w1
          simp only [sT1_01 1 (by omega), ↓reduceIte]
          rcases rcase a2 (M := 60) (n := 60) rfl with g | ⟨g, v, hv, rfl⟩
          · unfold fX10_sort_J80
            simp only [g, ↓reduceIte]
            exact sim_R h rfl
          · simp only [g, n10, ↓reduceIte]
            try simp (disch := omega) only [rl_gd, rl_lz, inb_n, nI_clamp, true_and, gd_t, lz]
            exact sort_end (k := k) h (by omega) (by omega) (by rw [hs, if_pos (by omega)]; exact hv)
        · simp only [w1, ↓reduceIte]
          by_cases w5 : w = 5
          · subst w5
            simp only [show sT1.getD 5 0 = 9999 from rfl, show (5 < 2 ∨ 4 < 5) from by omega, ↓reduceIte]
            rcases rcase a2 (M := 9999) (n := 9999) rfl with g | ⟨g, v, hv, rfl⟩
            · unfold fX10_sort_J79 fX10_sort_J80
              simp only [g, ↓reduceIte]
              exact sim_R h rfl
            · simp only [g, n10, ↓reduceIte]
              try simp (disch := omega) only [rl_gd, rl_lz, inb_n, nI_clamp, true_and, gd_t, lz]
              exact sort_end (k := k) h (by omega) (by omega) (by rw [hs, if_neg (by omega), if_pos rfl]; exact hv)
          · simp only [sT1_24 w (by omega) (by omega), show ¬ (w < 2 ∨ 4 < w) from by omega, n10, ↓reduceIte]
            rcases rcase a2 (M := 9) (n := 9) rfl with g | ⟨g, v, hv, rfl⟩
            · unfold fX10_sort_J80
              simp only [g, ↓reduceIte]
              exact sim_R h rfl
            · simp only [g, n10, ↓reduceIte]
              try simp (disch := omega) only [rl_gd, rl_lz, inb_n, nI_clamp, true_and, gd_t, lz]
              exact sort_end (k := k) h (by omega) (by omega) (by rw [hs, if_neg (by omega), if_neg w5]; exact hv)
/-! ===== car ===== -/
theorem sim_car : xs_car RR := by
  intro σ τ h a0 a1
  refine sim_of ?_
  obtain ⟨T, n, h⟩ := h
  unfold fX9_car fX9_car_J34 fX10_car fX10_car_J23
  simp only [e_isWithin, e_in, bd_some]
  rcases rcase a0 (M := 1) (n := 1) rfl with c | ⟨c, i, hi, rfl⟩
  · have d0 : ¬ a0 = 0 := fun e => by subst e; revert c; decide
    have d1 : ¬ a0 = 1 := fun e => by subst e; revert c; decide
    simp only [c, d0, d1, ↓reduceIte]
    exact sim_R h rfl
  · rcases (show i = 0 ∨ i = 1 by omega) with rfl | rfl
    · have e0 : (nI 0 = 0) := rfl
      have e1 : ¬ (nI 0 = 1) := by decide
      simp only [c, e0, e1, n10, ↓reduceIte, show ¬ ((0 : Int32) < 0 ∨ (1 : Int32) < 0) from by decide]
      rcases rcase1 a1 (M := 3600) (n := 3600) rfl with g | ⟨g, v, hv1, hv, rfl⟩
      · simp only [g, ↓reduceIte, show ¬ (0 : Int32) = 1 from by decide]
        exact sim_R h rfl
      · simp only [g, n10, ↓reduceIte, rl_lz]
        unfold fX10_car_J47 fX10_car_J61 fX10_car_J78
        simp only [rr_lz, ↓reduceIte, show ¬ (0 : Int32) = 1 from by decide]
        rw [xT_every h.2.2.1.1, h.2.2.2.1 0 2 (vt0 (by omega))]
        have g2 := RT_set (v := v) h (vt0 (i := 2) (by omega)) (show v ≤ 3600 from hv) (fun _ _ => hv1) (by omega) (by omega) (by omega) (fun q => absurd q (by omega))
        have e3 : si (si τ 0 2 (nI v)) 0 3 (gi (si τ 0 2 (nI v)) 0 3) = si τ 0 2 (nI v) := si_self _ _ _
        rw [e3]
        exact sim_R g2 rfl
    · have e0 : ¬ (nI 1 = 0) := by decide
      have e1 : (nI 1 = 1) := rfl
      simp only [c, e0, e1, n10, ↓reduceIte, show ¬ ((1 : Int32) < 0 ∨ (1 : Int32) < 1) from by decide]
      rcases rcase1 a1 (M := 60) (n := 60) rfl with g | ⟨g, v, hv1, hv, rfl⟩
      · simp only [g, ↓reduceIte]
        exact sim_R h rfl
      · simp only [g, n10, ↓reduceIte, rl_lz]
        unfold fX10_car_J47 fX10_car_J61 fX10_car_J78
        simp only [rr_lz, n10, ↓reduceIte]
        rw [xT_pace h.2.2.1.1, h.2.2.2.1 0 3 (vt0 (by omega))]
        have g2 := RT_set (v := v) h (vt0 (i := 3) (by omega)) (show v ≤ 60 from hv) (fun _ q => absurd q (by omega)) (by omega) (by omega) (by omega) (fun q => absurd q (by omega))
        rw [si_self]
        exact sim_R g2 rfl
