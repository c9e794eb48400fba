/-! ===== walks ===== -/
theorem sim_walks : xs_walks RR := by
  intro σ τ h a0 a1 a2
  refine sim_of ?_
  obtain ⟨T, n, h⟩ := h
  unfold fX9_walks fX10_walks
  simp only [e_isCell9, e_isCell10, e_isSort9, e_in, bd_some]
  rcases rcase a0 (M := 40) (n := 40) rfl with c | ⟨c, i, hi, rfl⟩
  · simp only [c, ↓reduceIte]
    exact sim_R h rfl
  · simp only [c, n10, ↓reduceIte]
    rcases rcase a1 (M := 40) (n := 40) rfl with d | ⟨d, j, hj, rfl⟩
    · simp only [d, ↓reduceIte]
      exact sim_R h rfl
    · simp only [d, n10, ↓reduceIte]
      rcases rcase a2 (M := 2) (n := 2) rfl with e | ⟨e, k, hk, rfl⟩
      · simp only [e, ↓reduceIte]
        exact sim_R h rfl
      · simp only [e, n10, ↓reduceIte]
        refine rl_B (of_walkSeconds h.1 h.2.2.1.1 h.2.2.1.2.2 (by omega) (by omega) (by omega) ?_)
        refine rr_B (of_walk h.1 h.2.2.2.1 (by omega) (by omega) (by omega) ?_)
        exact sim_R h rfl
/-! ===== stop ===== -/
def stopT (T : xTw) (k a s m : Nat) : xTw := up (up (up (up (up (up (up (up T 3 (T 0 4) k) 4 (T 0 4) a) 5 (T 0 4) s) 6 (T 0 4) m) 7 (T 0 4) 1) 8 (T 0 4) 5) 9 (T 0 4) 0) 0 4 (T 0 4 + 1)
theorem sT3_abv : ∀ k, k < 6 → sT3.getD k 0 = nI (abv k) := by decide +kernel
theorem sim_stop : xs_stop RR := by
  intro σ τ h a0 a1 a2 a3
  refine sim_of ?_
  obtain ⟨T, n, h⟩ := h
  have h8 := rg_stops h.1
  have x4 := xT_stops h.2.2.1.1
  have m4 := h.2.2.2.1 0 4 (vt0 (by omega))
  unfold fX9_stop fX10_stop
  simp only [e_isKind9, e_isCell9, e_isCell10, e_isWithin, e_in, bd_some]
  rcases rcase a0 (M := 5) (n := 5) rfl with c | ⟨c, k, hk, rfl⟩
  · simp only [c, ↓reduceIte]
    exact sim_R h rfl
  simp only [c, n10, ↓reduceIte]
  rcases rcase a1 (M := 40) (n := 40) rfl with d | ⟨d, a, ha, rfl⟩
  · simp only [d, ↓reduceIte]
    exact sim_R h rfl
  simp only [d, n10, ↓reduceIte]
  rcases rcase a2 (M := 99) (n := 99) rfl with e | ⟨e, s, hs, rfl⟩
  · simp only [e, ↓reduceIte]
    exact sim_R h rfl
  simp only [e, n10, ↓reduceIte]
  rcases rcase a3 (M := 60) (n := 60) rfl with f | ⟨f, m, hm, rfl⟩
  · simp only [f, ↓reduceIte]
    exact sim_R h rfl
  simp only [f, n10, ↓reduceIte]
  by_cases g : T 0 4 = 8
  · have e1 : ¬ gi σ 1 7 < 8 := by
      rw [x4, g]
      decide
    have e2 : gi τ 0 4 = 8 := by
      rw [m4, g]
      rfl
    simp only [e1, e2, ↓reduceIte]
    exact sim_R h rfl
  have e1 : gi σ 1 7 < 8 := by
    rw [x4]
    exact nI_lt (b := 8) (by omega) (by omega)
  have e2 : ¬ gi τ 0 4 = 8 := by
    rw [m4, q8, nI_eq (by omega) (by omega)]
    exact g
  have hp : T 0 4 < 8 := by omega
  simp only [e1, e2, ↓reduceIte]
  obtain ⟨p, hN⟩ : ∃ p, T 0 4 = p := ⟨_, rfl⟩
  rw [hN] at x4 m4 hp h8
  have z9 : T 9 p = 0 := h.2.1 p (by omega) hp
  have v3 : ∀ c, 3 ≤ c → c ≤ 13 → vT c p := fun c h1 h2 => vt3 h1 h2 hp
  -- the class
  have bx : ∀ s0 : xM, fX3_begin p (nI k) (nI a) (nI s) (nI m) s0 = some (0, si (si (si (si (si (si (si (si s0 (11 + p) 0 (nI k)) (11 + p) 1 (nI (abv k))) (11 + p) 2 (nI a)) (11 + p) 3 (nI s)) (11 + p) 4 (nI m)) (11 + p) 5 1) (11 + p) 6 5) (11 + p) 7 0) := by
    intro s0
    unfold fX3_begin fX3_begin_J22
    simp (disch := omega) only [lz, e_isKind9, bd_some, c, n10, ↓reduceIte, inb_n, gd_t, nI_clamp, sT3_abv]
  have x4' : ∀ s1 : xM, gi s1 1 7 = nI p → gi (si s1 1 7 (gi s1 1 7 + 1)) 1 7 - 1 = nI p := by
    intro s1 e
    rw [gi_same, e, nI_1, nI_pred]
  have m4' : ∀ s1 : xM, gi s1 0 4 = nI p → gi (si s1 0 4 (gi s1 0 4 + 1)) 0 4 - 1 = nI p := by
    intro s1 e
    rw [gi_same, e, nI_1, nI_pred]
  simp (disch := omega) only [x4, inb_n, rl_gd, true_and, nI_clamp, bx, bd_some, rl_lz]
  rw [show gi (si (si (si (si (si (si (si (si σ (11 + p) 0 (nI k)) (11 + p) 1 (nI (abv k))) (11 + p) 2 (nI a)) (11 + p) 3 (nI s)) (11 + p) 4 (nI m)) (11 + p) 5 1) (11 + p) 6 5) (11 + p) 7 0) 1 7 = nI p from by
    have fS : Fr (fun c _ => c = 11 + p) σ (si (si (si (si (si (si (si (si σ (11 + p) 0 (nI k)) (11 + p) 1 (nI (abv k))) (11 + p) 2 (nI a)) (11 + p) 3 (nI s)) (11 + p) 4 (nI m)) (11 + p) 5 1) (11 + p) 6 5) (11 + p) 7 0) := by
      refine Fr_si (Fr_si (Fr_si (Fr_si (Fr_si (Fr_si (Fr_si (Fr_si Fr_rf _ ?_) _ ?_) _ ?_) _ ?_) _ ?_) _ ?_) _ ?_) _ ?_
      all_goals rfl
    exact ((fS 1 7 (by omega)).1).trans x4]
  have nn : ∀ c i : Nat, 3 ≤ c → ¬ (0 = c ∧ 4 = i) := fun c i q1 q2 => by omega
  have mN : ∀ (s1 : xM) (c i : Nat) (v : Int32), 3 ≤ c → gi (si s1 c i v) 0 4 = gi s1 0 4 := fun s1 c i v q => by
    rw [gi_si, if_neg (nn c i q)]
  simp (disch := omega) only [mN, m4, inb_n, rr_gd, true_and, nI_clamp, rr_lz]
  rw [gi_same, gi_same, nI_1, nI_pred]
  have hR2 : rgT (stopT T k a s m) := by
    unfold stopT
    rw [hN]
    refine rgT_up (rgT_up (rgT_up (rgT_up (rgT_up (rgT_up (rgT_up (rgT_up h.1 (show k ≤ 5 from hk) ?_) (show a ≤ 40 from ha) ?_) (show s ≤ 99 from hs) ?_) (show m ≤ 60 from hm) ?_) (show 1 ≤ 1 from Nat.le_refl _) ?_) (show 5 ≤ 10 from by omega) ?_) (show 0 ≤ 2 from by omega) ?_) (show p + 1 ≤ 8 from hp) ?_
    all_goals (intro q1 q2; omega)
  have hX : xTn (si (si (si (si (si (si (si (si σ (11 + p) 0 (nI k)) (11 + p) 2 (nI a)) (11 + p) 3 (nI s)) (11 + p) 4 (nI m)) (11 + p) 5 1) (11 + p) 6 5) (11 + p) 7 0) 1 7 (nI (p + 1))) (stopT T k a s m) := by
    have y1 := xTn_up h.2.2.1.1 k (v3 3 (by omega) (by omega))
    have y2 := xTn_up y1 a (v3 4 (by omega) (by omega))
    have y3 := xTn_up y2 s (v3 5 (by omega) (by omega))
    have y4 := xTn_up y3 m (v3 6 (by omega) (by omega))
    have y5 := xTn_up y4 1 (v3 7 (by omega) (by omega))
    have y6 := xTn_up y5 5 (v3 8 (by omega) (by omega))
    have y7 := xTn_up y6 0 (v3 9 (by omega) (by omega))
    have y8 := xTn_up y7 (p + 1) (vt0 (i := 4) (by omega))
    unfold stopT
    rw [hN]
    exact y8
  have eq9 : stopT T k a s m = up (up (up (up (up (up (up T 3 p k) 4 p a) 5 p s) 6 p m) 7 p 1) 8 p 5) 0 4 (p + 1) := by
    unfold stopT
    rw [hN]
    congr 1
    refine up_id ?_
    rw [up_ne (by omega), up_ne (by omega), up_ne (by omega), up_ne (by omega), up_ne (by omega), up_ne (by omega)]
    exact z9
  have hM : mTn (si (si (si (si (si (si (si τ 3 p (nI k)) 4 p (nI a)) 5 p (nI s)) 6 p (nI m)) 7 p 1) 8 p 5) 0 4 (nI (p + 1))) (stopT T k a s m) := by
    rw [eq9]
    exact mTn_up (mTn_up (mTn_up (mTn_up (mTn_up (mTn_up (mTn_up h.2.2.2.1 k) a) s) m) 1) 5) (p + 1)
  have st : ∀ c i, ¬ (c = 0 ∧ i = 4) → ¬ (3 ≤ c ∧ c ≤ 9 ∧ i = p) → stopT T k a s m c i = T c i := by
    intro c i q1 q2
    unfold stopT
    rw [hN, up_ne (by omega), up_ne (by omega), up_ne (by omega), up_ne (by omega), up_ne (by omega), up_ne (by omega), up_ne (by omega), up_ne (by omega)]
  have s4 : stopT T k a s m 0 4 = p + 1 := by
    unfold stopT
    rw [hN, up_same]
  have s3 : stopT T k a s m 3 p = k := by
    unfold stopT
    rw [hN, up_ne (by omega), up_ne (by omega), up_ne (by omega), up_ne (by omega), up_ne (by omega), up_ne (by omega), up_ne (by omega), up_same]
  have s9 : stopT T k a s m 9 p = 0 := by
    unfold stopT
    rw [hN, up_ne (by omega), up_same]
  refine sim_R (T := stopT T k a s m) (n := n) ⟨hR2, ?_, ⟨?_, ?_, ?_⟩, hM, ?_⟩ rfl
  · intro j h1 h2
    rw [s4] at h1
    rw [st 9 j (by omega) (by omega)]
    exact h.2.1 j (by omega) h2
  · intro c i hv
    have y := hX c i hv
    rw [← y]
    have a1 := xl_cases hv
    have nx : ¬ (xlc c i = 11 + p ∧ xlp c i = 1) := by omega
    simp only [gi_si, nx, ↓reduceIte]
  · intro j hj
    by_cases e : j = p
    · subst e
      rw [s3]
      simp only [gi_si]
      rw [if_neg (by omega), if_neg (by omega), if_neg (by omega), if_neg (by omega), if_neg (by omega), if_neg (by omega), if_neg (by omega), if_pos ⟨trivial, trivial⟩]
    · rw [st 3 j (by omega) (by omega), ← h.2.2.1.2.1 j hj]
      simp only [gi_si]
      rw [if_neg (by omega), if_neg (by omega), if_neg (by omega), if_neg (by omega), if_neg (by omega), if_neg (by omega), if_neg (by omega), if_neg (by omega), if_neg (by omega)]
  · intro j hj
    rw [ups_cg (T := T) (fun i => st 1 i (by omega) (by omega)), dns_cg (T := T) (fun i => st 1 i (by omega) (by omega))]
    simp only [gi_si, show ∀ x y : Nat, ¬ (3 = 11 + p ∧ x = y) from fun x y q => by omega, show ∀ x y : Nat, ¬ (4 = 11 + p ∧ x = y) from fun x y q => by omega, show ∀ x y : Nat, ¬ (3 = 1 ∧ x = y) from fun x y q => by omega, show ∀ x y : Nat, ¬ (4 = 1 ∧ x = y) from fun x y q => by omega, ↓reduceIte]
    exact h.2.2.1.2.2 j hj
  · rw [s4]
    have fr : ∀ c i, (c = 11 + p ∨ (c = 1 ∧ i = 7)) → xFree c i := fun c i q => by
      unfold xFree
      omega
    have fm : ∀ c i, (3 ≤ c ∧ c ≤ 9) ∨ (c = 0 ∧ i = 4) → mFree c i := fun c i q => by
      unfold mFree
      omega
    refine rstR_fr (P := xFree) (P' := mFree) h.2.2.2.2 ?_ (fun _ _ q => q) ?_ (fun _ _ q => q) (by omega)
    · refine Fr_si (Fr_si (Fr_si (Fr_si (Fr_si (Fr_si (Fr_si (Fr_si (Fr_si Fr_rf _ ?_) _ ?_) _ ?_) _ ?_) _ ?_) _ ?_) _ ?_) _ ?_) _ ?_
      all_goals exact fr _ _ (by omega)
    · refine Fr_si (Fr_si (Fr_si (Fr_si (Fr_si (Fr_si (Fr_si Fr_rf _ ?_) _ ?_) _ ?_) _ ?_) _ ?_) _ ?_) _ ?_
      all_goals exact fm _ _ (by omega)
