/-! ===== open, want, turns ===== -/
theorem RT_stop {σ τ : xM} {T : xTw} {n c p v : Nat} (h : RT σ τ T n) (hp : p < T 0 4) (h1 : 7 ≤ c) (h2 : c ≤ 9) (hr : v ≤ hiT c p) : RT (si σ (11 + p) (c - 2) (nI v)) (si τ c p (nI v)) (up T c p v) n := by
  have h8 := rg_stops h.1
  have hv : vT c p := vt3 (by omega) (by omega) (by omega)
  have g := RT_set h hv hr (fun q => absurd q (by omega)) (by omega) (by omega) (by omega) (fun _ => hp)
  have a := xl_cases hv
  have e1 : xlc c p = 11 + p := by omega
  have e2 : xlp c p = c - 2 := by omega
  rw [e1, e2] at g
  exact g
theorem sim_open : xs_open RR := by
  intro σ τ h a0 a1
  refine sim_of ?_
  obtain ⟨T, n, h⟩ := h
  have h8 := rg_stops h.1
  unfold fX9_open fX9_open_J57 fX10_open
  simp only [e_isStop9, e_isStop10, e_isWithin, e_in, bd_some, xT_stops h.2.2.1.1, h.2.2.2.1 0 4 (vt0 (by omega))]
  rcases rcaseN a0 (N := T 0 4) (by omega) with c | ⟨c, p, hp, rfl⟩
  · simp only [c, ↓reduceIte]
    exact sim_R h rfl
  simp only [c, n10, ↓reduceIte]
  rcases rcase a1 (M := 1) (n := 1) rfl with d | ⟨d, v, hv, rfl⟩
  · simp only [d, ↓reduceIte]
    exact sim_R h rfl
  have o := rg_open h.1 (i := p) (by omega)
  simp (disch := omega) only [d, n10, ↓reduceIte, rl_gd, rr_gd, rl_lz, rr_lz, inb_n, nI_clamp, true_and, xT_open h.2.2.1.1, e_asNumber, bd_some, h.2.2.2.1 7 p (vt3 (by omega) (by omega) (by omega))]
  have g := RT_stop (v := v) h hp (c := 7) (by omega) (by omega) (show v ≤ 1 from hv)
  rcases (show v = 0 ∨ v = 1 by omega) with rfl | rfl
  · refine rl_F (by decide) ?_
    simp only [rl_gd, rl_lz, isZ0, true_and]
    exact sim_R g rfl
  · refine rl_T (by rfl) ?_
    simp only [rl_gd, rl_lz, isZ1, true_and]
    exact sim_R g rfl
theorem sim_want : xs_want RR := by
  intro σ τ h a0 a1
  refine sim_of ?_
  obtain ⟨T, n, h⟩ := h
  have h8 := rg_stops h.1
  unfold fX9_want fX10_want
  simp only [e_isStop9, e_isStop10, e_isWithin, e_in, bd_some, xT_stops h.2.2.1.1, h.2.2.2.1 0 4 (vt0 (by omega))]
  rcases rcaseN a0 (N := T 0 4) (by omega) with c | ⟨c, p, hp, rfl⟩
  · simp only [c, ↓reduceIte]
    exact sim_R h rfl
  simp only [c, n10, ↓reduceIte]
  rcases rcase a1 (M := 10) (n := 10) rfl with d | ⟨d, v, hv, rfl⟩
  · simp only [d, ↓reduceIte]
    exact sim_R h rfl
  simp (disch := omega) only [d, n10, ↓reduceIte, rl_gd, rr_gd, rl_lz, rr_lz, inb_n, nI_clamp, true_and, xT_wanted h.2.2.1.1, h.2.2.2.1 8 p (vt3 (by omega) (by omega) (by omega))]
  exact sim_R (RT_stop (v := v) h hp (c := 8) (by omega) (by omega) (show v ≤ 10 from hv)) rfl
theorem sim_turns : xs_turns RR := by
  intro σ τ h a0 a1
  refine sim_of ?_
  obtain ⟨T, n, h⟩ := h
  have h8 := rg_stops h.1
  unfold fX9_turns fX10_turns
  simp only [e_isStop9, e_isStop10, e_isWithin, e_in, bd_some, xT_stops h.2.2.1.1, h.2.2.2.1 0 4 (vt0 (by omega))]
  rcases rcaseN a0 (N := T 0 4) (by omega) with c | ⟨c, p, hp, rfl⟩
  · simp only [c, ↓reduceIte]
    exact sim_R h rfl
  simp only [c, n10, ↓reduceIte]
  rcases rcase a1 (M := 2) (n := 2) rfl with d | ⟨d, v, hv, rfl⟩
  · simp only [d, ↓reduceIte]
    exact sim_R h rfl
  simp (disch := omega) only [d, n10, ↓reduceIte, rl_gd, rr_gd, rl_lz, rr_lz, inb_n, nI_clamp, true_and, xT_pattern h.2.2.1.1, h.2.2.2.1 9 p (vt3 (by omega) (by omega) (by omega))]
  exact sim_R (RT_stop (v := v) h hp (c := 9) (by omega) (by omega) (show v ≤ 2 from hv)) rfl
/-! ===== told ===== -/
theorem bits_sum : ∀ v, v < 4 → (if nI (bitS v 0) = 0 then (if nI (bitS v 1) = 0 then (0 : Int32) + 0 else 0 + 2) else (if nI (bitS v 1) = 0 then (1 : Int32) + 0 else 1 + 2)) = nI v := by decide +kernel
theorem e_isAsked {T : xTw} (hR : rgT T) {s : xM} (hT : mTn s T) {p : Nat} (hp : p < 8) : fX10_isAsked (nI p) s = some (if T 3 p = 1 ∨ T 3 p = 5 then 1 else 0, s) := by
  have d := rg_kind hR hp
  have e3 := hT 3 p (vt3 (by omega) (by omega) hp)
  unfold fX10_isAsked
  simp (disch := omega) only [inb_n, gd_t, nI_clamp, e3, q1, q5, nI_eq]
  by_cases h1 : T 3 p = 1
  · rw [if_pos h1, if_pos (Or.inl h1)]
  · rw [if_neg h1]
    by_cases h2 : T 3 p = 5
    · rw [if_pos h2, if_pos (Or.inr h2)]
    · rw [if_neg h2, if_neg (fun q => q.elim h1 h2)]
theorem e_isOf1 {T : xTw} {s : xM} (hR : rgT T) (hT : xTn s T) (hA : xKA s T) {p : Nat} (hp : p < 8) : fX3_isOf p 1 s = some (if T 3 p = 1 ∨ T 3 p = 5 then 1 else 0, s) := by
  have d := rg_kind hR hp
  have e := e_isOf hR hT hA hp (k := 1) (by omega)
  have hk : (1 = T 3 p ∨ 1 = abv (T 3 p) ∨ 1 = 0) ↔ (T 3 p = 1 ∨ T 3 p = 5) := by
    unfold abv
    repeat' split
    all_goals omega
  simp only [hk] at e
  exact e
theorem sim_told : xs_told RR := by
  intro σ τ h a0 a1
  refine sim_of ?_
  obtain ⟨T, n, h⟩ := h
  have hR := h.1
  have hX := h.2.2.1
  have hM := h.2.2.2.1
  have h8 := rg_stops h.1
  unfold fX9_told fX10_told
  simp only [e_isStop9, e_isStop10, bd_some, xT_stops hX.1, hM 0 4 (vt0 (by omega))]
  rcases rcaseN a0 (N := T 0 4) (by omega) with c | ⟨c, p, hp, rfl⟩
  · simp only [c, ↓reduceIte]
    exact sim_R h rfl
  have hp8 : p < 8 := by omega
  simp (disch := omega) only [c, n10, ↓reduceIte, rl_gd, inb_n, true_and, nI_clamp]
  by_cases b0 : a1 = 0
  · simp (disch := omega) only [b0, ↓reduceIte, rr_gd, inb_n, true_and, nI_clamp, xT_kind hX.1, hM 3 p (vt3 (by omega) (by omega) hp8)]
    exact sim_R h rfl
  simp only [b0, ↓reduceIte]
  by_cases b1 : a1 = 1
  · simp (disch := omega) only [b1, ↓reduceIte, rr_gd, inb_n, true_and, nI_clamp, xT_cell hX.1, hM 4 p (vt3 (by omega) (by omega) hp8)]
    exact sim_R h rfl
  simp only [b1, ↓reduceIte]
  by_cases b2 : a1 = 2
  · have w := rg_wanted hR hp8
    simp (disch := omega) only [b2, ↓reduceIte, xT_wanted hX.1, e_secondsIf hR hX.1, e_seconds hR hM, bd_some]
    exact sim_R h rfl
  simp only [b2, ↓reduceIte]
  by_cases b3 : a1 = 3
  · have o := rg_open hR hp8
    simp (disch := omega) only [b3, ↓reduceIte, rr_gd, inb_n, true_and, nI_clamp, xT_open hX.1, e_asNumber, bd_some, hM 7 p (vt3 (by omega) (by omega) hp8)]
    exact sim_R h rfl
  simp only [b3, ↓reduceIte]
  by_cases b4 : a1 = 4
  · simp (disch := omega) only [b4, ↓reduceIte, rr_gd, inb_n, true_and, nI_clamp, xT_wanted hX.1, hM 8 p (vt3 (by omega) (by omega) hp8)]
    exact sim_R h rfl
  simp only [b4, ↓reduceIte]
  by_cases b5 : a1 = 5
  · have pt := rg_pattern hR hp8
    have c3 := carS_le T p
    have bs := bits_sum (carS T p) (by omega)
    have l0 := e_lets hR hM hp8 (c := 0) (by omega)
    have l1 := e_lets hR hM hp8 (c := 1) (by omega)
    unfold fX10_told_J104
    rw [show (0 : Int32) = nI 0 from rfl, show (1 : Int32) = nI 1 from rfl]
    simp (disch := omega) only [b5, ↓reduceIte, xT_pattern hX.1, e_carsBy hR hX.1 hX.2.1, bd_some, l0, l1]
    have ec : carP (srvS T p) (T 9 p) = carS T p := rfl
    rw [ec, ← bs]
    by_cases g0 : nI (bitS (carS T p) 0) = 0
    · rw [if_pos g0]
      refine rr_T g0 ?_
      by_cases g1 : nI (bitS (carS T p) 1) = 0
      · rw [if_pos g1]
        exact rr_T g1 (sim_R h rfl)
      · rw [if_neg g1]
        exact rr_F g1 (sim_R h rfl)
    · rw [if_neg g0]
      refine rr_F g0 ?_
      by_cases g1 : nI (bitS (carS T p) 1) = 0
      · rw [if_pos g1]
        exact rr_T g1 (sim_R h rfl)
      · rw [if_neg g1]
        exact rr_F g1 (sim_R h rfl)
  simp only [b5, ↓reduceIte]
  by_cases b6 : a1 = 6
  · simp (disch := omega) only [b6, ↓reduceIte, e_isOf1 hR hX.1 hX.2.1, e_isAsked hR hM, bd_some]
    by_cases g : T 3 p = 1 ∨ T 3 p = 5
    · simp only [g, n10, ↓reduceIte]
      rw [q1, e_asNumber (by omega), bd_some]
      exact sim_R h rfl
    · simp only [g, ↓reduceIte]
      rw [show (0 : Int32) = nI 0 from rfl, e_asNumber (by omega), bd_some]
      exact sim_R h rfl
  simp only [b6, ↓reduceIte]
  exact sim_R h rfl
/-! ===== trip ===== -/
def tripT (T : xTw) (a b m k : Nat) : xTw := up (up (up (up (up T 10 (T 0 12) a) 11 (T 0 12) b) 12 (T 0 12) m) 13 (T 0 12) k) 0 12 (T 0 12 + 1)
/-- a trip that is as told; what came: its number, or FULL -/
theorem rel_trip {σ τ : xM} {T : xTw} {n : Nat} (h : RT σ τ T n) (a0 a1 a2 a3 : Int32) {Q : Int32 → xM → Int32 → xM → Prop} (no : ∀ r : Int32, r = -2 ∨ r = -4 → Q r σ r τ) (yes : ∀ (σ' τ' : xM) (T' : xTw) (j : Nat), j < 8 → RT σ' τ' T' n → Fr (fun c _ => c = 1 ∨ (19 ≤ c ∧ c ≤ 26)) σ σ' → Fr (fun c i => (c = 0 ∧ i = 12) ∨ (10 ≤ c ∧ c ≤ 13)) τ τ' → Q (nI j) σ' (nI j) τ') : Rel (fX9_trip a0 a1 a2 a3 σ) (fX10_trip a0 a1 a2 a3 τ) Q := by
  have h8 := rg_trips h.1
  have x4 := xT_trips h.2.2.1.1
  have m4 := h.2.2.2.1 0 12 (vt0 (by omega))
  unfold fX9_trip fX10_trip
  simp only [e_isSort9, e_isCell9, e_isCell10, e_isWithin, e_in, bd_some]
  rcases rcase a0 (M := 40) (n := 40) rfl with c | ⟨c, a, ha, rfl⟩
  · simp only [c, ↓reduceIte]
    exact rel_R (no _ (Or.inl rfl))
  simp only [c, n10, ↓reduceIte]
  rcases rcase a1 (M := 40) (n := 40) rfl with d | ⟨d, b, hb, rfl⟩
  · simp only [d, ↓reduceIte]
    exact rel_R (no _ (Or.inl rfl))
  simp only [d, n10, ↓reduceIte]
  rcases rcase1 a2 (M := 99) (n := 99) rfl with e | ⟨e, m, hm1, hm, rfl⟩
  · simp only [e, ↓reduceIte]
    exact rel_R (no _ (Or.inl rfl))
  simp only [e, n10, ↓reduceIte]
  rcases rcase a3 (M := 2) (n := 2) rfl with f | ⟨f, k, hk, rfl⟩
  · simp only [f, ↓reduceIte]
    exact rel_R (no _ (Or.inl rfl))
  simp only [f, n10, ↓reduceIte]
  by_cases g : T 0 12 = 8
  · have e1 : ¬ gi σ 1 9 < 8 := by
      rw [x4, g]
      decide
    have e2 : gi τ 0 12 = 8 := by
      rw [m4, g]
      rfl
    simp only [e1, e2, ↓reduceIte]
    exact rel_R (no _ (Or.inr rfl))
  have e1 : gi σ 1 9 < 8 := by
    rw [x4]
    exact nI_lt (b := 8) (by omega) (by omega)
  have e2 : ¬ gi τ 0 12 = 8 := by
    rw [m4, q8, nI_eq (by omega) (by omega)]
    exact g
  have hp : T 0 12 < 8 := by omega
  simp only [e1, e2, ↓reduceIte]
  obtain ⟨p, hN⟩ : ∃ p, T 0 12 = p := ⟨_, rfl⟩
  rw [hN] at x4 m4 hp h8
  have v3 : ∀ c, 3 ≤ c → c ≤ 13 → vT c p := fun c h1 h2 => vt3 h1 h2 hp
  unfold fX7_begin
  simp (disch := omega) only [x4, inb_n, rl_gd, true_and, nI_clamp, bd_some, rl_lz, lz]
  rw [show gi (si (si (si (si σ (19 + p) 0 (nI a)) (19 + p) 1 (nI b)) (19 + p) 2 (nI m)) (19 + p) 3 (nI k)) 1 9 = nI p from by
    have fS : Fr (fun c _ => c = 19 + p) σ (si (si (si (si σ (19 + p) 0 (nI a)) (19 + p) 1 (nI b)) (19 + p) 2 (nI m)) (19 + p) 3 (nI k)) := by
      refine Fr_si (Fr_si (Fr_si (Fr_si Fr_rf _ ?_) _ ?_) _ ?_) _ ?_
      all_goals rfl
    exact ((fS 1 9 (by omega)).1).trans x4]
  have mN : ∀ (s1 : xM) (c i : Nat) (v : Int32), 3 ≤ c → gi (si s1 c i v) 0 12 = gi s1 0 12 := fun s1 c i v q => by
    rw [gi_si, if_neg (by omega)]
  simp (disch := omega) only [mN, m4, inb_n, rr_gd, true_and, nI_clamp]
  rw [gi_same, gi_same, nI_1, nI_pred]
  have hR2 : rgT (tripT T a b m k) := by
    unfold tripT
    rw [hN]
    refine rgT_up (rgT_up (rgT_up (rgT_up (rgT_up h.1 (show a ≤ 40 from ha) ?_) (show b ≤ 40 from hb) ?_) (show m ≤ 99 from hm) ?_) (show k ≤ 2 from hk) ?_) (show p + 1 ≤ 8 from hp) ?_
    all_goals (intro q1 q2; omega)
  have hX : xTn (si (si (si (si (si σ (19 + p) 0 (nI a)) (19 + p) 1 (nI b)) (19 + p) 2 (nI m)) (19 + p) 3 (nI k)) 1 9 (nI (p + 1))) (tripT T a b m k) := by
    have y1 := xTn_up h.2.2.1.1 a (v3 10 (by omega) (by omega))
    have y2 := xTn_up y1 b (v3 11 (by omega) (by omega))
    have y3 := xTn_up y2 m (v3 12 (by omega) (by omega))
    have y4 := xTn_up y3 k (v3 13 (by omega) (by omega))
    have y5 := xTn_up y4 (p + 1) (vt0 (i := 12) (by omega))
    unfold tripT
    rw [hN]
    exact y5
  have hM : mTn (si (si (si (si (si τ 10 p (nI a)) 11 p (nI b)) 12 p (nI m)) 13 p (nI k)) 0 12 (nI (p + 1))) (tripT T a b m k) := by
    unfold tripT
    rw [hN]
    exact mTn_up (mTn_up (mTn_up (mTn_up (mTn_up h.2.2.2.1 a) b) m) k) (p + 1)
  have st : ∀ c i, ¬ (c = 0 ∧ i = 12) → ¬ (10 ≤ c ∧ c ≤ 13 ∧ i = p) → tripT T a b m k c i = T c i := by
    intro c i q1 q2
    unfold tripT
    rw [hN, up_ne (by omega), up_ne (by omega), up_ne (by omega), up_ne (by omega), up_ne (by omega)]
  have fx : Fr (fun c _ => c = 1 ∨ (19 ≤ c ∧ c ≤ 26)) σ (si (si (si (si (si σ (19 + p) 0 (nI a)) (19 + p) 1 (nI b)) (19 + p) 2 (nI m)) (19 + p) 3 (nI k)) 1 9 (nI (p + 1))) := by
    refine Fr_si (Fr_si (Fr_si (Fr_si (Fr_si Fr_rf _ ?_) _ ?_) _ ?_) _ ?_) _ ?_
    all_goals omega
  have fm : Fr (fun c i => (c = 0 ∧ i = 12) ∨ (10 ≤ c ∧ c ≤ 13)) τ (si (si (si (si (si τ 10 p (nI a)) 11 p (nI b)) 12 p (nI m)) 13 p (nI k)) 0 12 (nI (p + 1))) := by
    refine Fr_si (Fr_si (Fr_si (Fr_si (Fr_si Fr_rf _ ?_) _ ?_) _ ?_) _ ?_) _ ?_
    all_goals omega
  refine rel_R (yes _ _ (tripT T a b m k) p hp ⟨hR2, ?_, ⟨hX, ?_, ?_⟩, hM, ?_⟩ fx fm)
  · intro j h1 h2
    rw [st 0 4 (by omega) (by omega)] at h1
    rw [st 9 j (by omega) (by omega)]
    exact h.2.1 j h1 h2
  · intro j hj
    rw [st 3 j (by omega) (by omega), (fx (11 + j) 1 (by omega)).1]
    exact h.2.2.1.2.1 j hj
  · intro j hj
    rw [ups_cg (T := T) (fun i => st 1 i (by omega) (by omega)), dns_cg (T := T) (fun i => st 1 i (by omega) (by omega)), (fx 3 j (by omega)).1, (fx 4 j (by omega)).1]
    exact h.2.2.1.2.2 j hj
  · rw [st 0 4 (by omega) (by omega)]
    refine rstR_fr h.2.2.2.2 fx (fun c i q => ?_) fm (fun c i q => ?_) (Nat.le_refl _)
    · unfold xFree
      omega
    · unfold mFree
      omega
theorem sim_trip : xs_trip RR := by
  intro σ τ h a0 a1 a2 a3
  refine sim_of ?_
  obtain ⟨T, n, h⟩ := h
  exact rel_trip h a0 a1 a2 a3 (fun r _ => ⟨rfl, T, n, h⟩) (fun σ' τ' T' j _ h' _ _ => ⟨rfl, T', n, h'⟩)
/-! ===== count, force ===== -/
theorem ol_openMany {T : xTw} (hR : rgT T) {s : xM} (hT : mTn s T) {kt : Int32 → xM → Option (Int32 × xM)} : ∀ (m p n : Nat), p + m = T 0 4 → m < n → fX10_openMany_L4 kt n (nI (sumN (fun q => T 7 q) p)) (nI p) s = kt (nI (sumN (fun q => T 7 q) (T 0 4))) s := by
  have h8 := rg_stops hR
  have e4 := hT 0 4 (vt0 (by omega))
  intro m
  induction m with
  | zero =>
    intro p n hp hn
    obtain ⟨n, rfl⟩ : ∃ n', n = n' + 1 := ⟨n - 1, by omega⟩
    have : p = T 0 4 := by omega
    unfold fX10_openMany_L4
    rw [e4, if_pos (nI_le (by omega) (by omega)), this]
  | succ m ih =>
    intro p n hp hn
    obtain ⟨n, rfl⟩ : ∃ n', n = n' + 1 := ⟨n - 1, by omega⟩
    have hp8 : p < 8 := by omega
    have e7 := hT 7 p (vt3 (by omega) (by omega) hp8)
    unfold fX10_openMany_L4
    rw [e4, if_neg (nI_ge (by omega) (by omega))]
    simp (disch := omega) only [inb_n, gd_t, nI_clamp, e7, lz, nI_add, nI_1]
    exact ih (p + 1) n (by omega) (by omega)
theorem e_openMany {T : xTw} (hR : rgT T) {s : xM} (hT : mTn s T) : fX10_openMany s = some (nI (sumN (fun q => T 7 q) (T 0 4)), s) := by
  have h8 := rg_stops hR
  obtain ⟨f, hf⟩ := fu_big
  unfold fX10_openMany
  rw [hf]
  exact ol_openMany hR hT (T 0 4) 0 (f + 4000) (by omega) (by omega)
theorem sim_count : xs_count RR := by
  intro σ τ h a0
  refine sim_of ?_
  obtain ⟨T, n, h⟩ := h
  have hR := h.1
  have hX := h.2.2.1
  have hM := h.2.2.2.1
  have h8 := rg_stops hR
  obtain ⟨⟨L, hL, t1, t2, t3⟩, ⟨n1, n2, n3, n4, ⟨w, w1, w2, w3⟩, n5⟩, -⟩ := id h.2.2.2.2
  unfold fX9_count fX10_count
  simp only [xT_stops hX.1, hM 0 4 (vt0 (by omega)), xT_trips hX.1, hM 0 12 (vt0 (by omega)), e_openSet hR hX.1, bd_some, tab_pop _ (setN_256 hR), e_openMany hR hM, n3, n4, w2, w3, t1, t2, xT_every hX.1, hM 0 2 (vt0 (by omega)), xT_pace hX.1, hM 0 3 (vt0 (by omega))]
  have ep : popN (setN T (T 0 4)) = sumN (fun q => T 7 q) (T 0 4) := popN_set h8 (fun p hp => rg_open hR (by omega))
  rw [ep]
  by_cases b0 : a0 = 0
  · simp only [b0, ↓reduceIte]
    exact sim_R h rfl
  simp only [b0, ↓reduceIte]
  by_cases b1 : a0 = 1
  · simp only [b1, ↓reduceIte]
    exact sim_R h rfl
  simp only [b1, ↓reduceIte]
  by_cases b2 : a0 = 2
  · simp only [b2, ↓reduceIte]
    exact sim_R h rfl
  simp only [b2, ↓reduceIte]
  by_cases b3 : a0 = 3
  · simp only [b3, ↓reduceIte]
    exact sim_R h rfl
  simp only [b3, ↓reduceIte]
  by_cases b4 : a0 = 4
  · simp only [b4, ↓reduceIte]
    exact sim_R h rfl
  simp only [b4, ↓reduceIte]
  by_cases b5 : a0 = 5
  · simp only [b5, ↓reduceIte]
    exact sim_R h rfl
  simp only [b5, ↓reduceIte]
  by_cases b6 : a0 = 6
  · simp only [b6, ↓reduceIte]
    exact sim_R h rfl
  simp only [b6, ↓reduceIte]
  by_cases b7 : a0 = 7
  · simp only [b7, ↓reduceIte]
    exact sim_R h rfl
  simp only [b7, ↓reduceIte]
  exact sim_R h rfl
theorem imgR_eq {σ τ σ' τ' : xM} {N n : Nat} (h : imgR σ τ N n) (a : ∀ c i, 81 ≤ c → c ≤ 89 → gi σ' c i = gi σ c i) (b : ∀ c i, ((c = 0 ∧ 23 ≤ i ∧ i ≤ 28) ∨ (17 ≤ c ∧ c ≤ 21)) → gi τ' c i = gi τ c i) : imgR σ' τ' N n := by
  rcases h with h3 | ⟨y1, y2, ⟨w, y3, y4, y5⟩, I, y6, y7, z1, z2, z3, z4, z5, z6, z7, z8, z9, z10, z11⟩
  · exact Or.inl ⟨by rw [a _ _ (by omega) (by omega)]; exact h3.1, by rw [b _ _ (by omega)]; exact h3.2⟩
  · refine Or.inr ⟨by rw [a _ _ (by omega) (by omega)]; exact y1, by rw [b _ _ (by omega)]; exact y2, ⟨w, y3, by rw [a _ _ (by omega) (by omega)]; exact y4, by rw [b _ _ (by omega)]; exact y5⟩, I, y6, y7, ?_⟩
    refine ⟨by rw [a _ _ (by omega) (by omega)]; exact z1, by rw [b _ _ (by omega)]; exact z2, by rw [a _ _ (by omega) (by omega)]; exact z3, by rw [b _ _ (by omega)]; exact z4, by rw [a _ _ (by omega) (by omega)]; exact z5, by rw [b _ _ (by omega)]; exact z6, by rw [a _ _ (by omega) (by omega)]; exact z7, by rw [b _ _ (by omega)]; exact z8, fun i hi => ?_, fun k w hk hw => ?_, fun p hq => ?_⟩
    · rw [a _ _ (by omega) (by omega), b _ _ (by omega)]
      exact z9 i hi
    · rw [a _ _ (by omega) (by omega), b _ _ (by omega)]
      exact z10 k w hk hw
    · rw [a _ _ (by omega) (by omega), b _ _ (by omega), a _ _ (by omega) (by omega), b _ _ (by omega), a _ _ (by omega) (by omega), b _ _ (by omega)]
      exact z11 p hq
theorem shtR_eq {σ τ σ' τ' : xM} (h : shtR σ τ) (a : ∀ c i, 121 ≤ c → gi σ' c i = gi σ c i) (b : ∀ c i, 22 ≤ c → c ≤ 24 → gi τ' c i = gi τ c i) : shtR σ' τ' := fun j hj => by
  obtain ⟨v, m, u1, u2, u3, u4, u5, u6, u7⟩ := h j hj
  exact ⟨v, m, u1, u2, by rw [a _ _ (by omega)]; exact u3, by rw [b _ _ (by omega) (by omega)]; exact u4, by rw [a _ _ (by omega)]; exact u5, by rw [b _ _ (by omega) (by omega)]; exact u6, fun i hi => by rw [a _ _ (by omega), b _ _ (by omega) (by omega)]; exact u7 i hi⟩
theorem sim_force : xs_force RR := by
  intro σ τ h a0
  refine sim_of ?_
  obtain ⟨T, n, h⟩ := h
  obtain ⟨hR, hZ, hX, hM, ht, ⟨n1, n2, n3, n4, ⟨w, w1, w2, w3⟩, n5⟩, hi, hs, hw⟩ := id h
  unfold fX9_force fX10_force
  simp only [e_isWithin, e_in, bd_some, n3, n4]
  rcases rcaseN a0 (N := n) (by omega) with c | ⟨c, j, hj, rfl⟩
  · simp only [c, ↓reduceIte]
    exact sim_R h rfl
  simp only [c, n10, ↓reduceIte, rl_lz, rr_lz, w2, w3]
  refine sim_R (T := T) (n := n) ⟨hR, hZ, ⟨xTn_off hX.1 _ (Or.inl rfl), xKA_si hX.2.1 _ (by omega), xCl_si hX.2.2 _ (by omega)⟩, mTn_off hM _ (by unfold vT; omega), ?_⟩ rfl
  have ga : ∀ c i, ¬ (c = 0 ∧ i = 6) → gi (si σ 0 6 (nI j)) c i = gi σ c i := fun c i q => by rw [gi_si, if_neg q]
  have gb : ∀ c i, ¬ (c = 0 ∧ i = 22) → gi (si τ 0 22 (nI j)) c i = gi τ c i := fun c i q => by rw [gi_si, if_neg q]
  refine ⟨tapR_fr ht (fun i => ⟨ga _ _ (by omega), ga _ _ (by omega)⟩) (fun i => ⟨gb _ _ (by omega), gb _ _ (by omega)⟩), ⟨n1, n2, by rw [ga _ _ (by omega)]; exact n3, by rw [gb _ _ (by omega)]; exact n4, ⟨j, hj, gi_same _ _ _ _, gi_same _ _ _ _⟩, fun k hk => oneT_eq (n5 k hk) (fun i => ⟨ga _ _ (by omega), ga _ _ (by omega), ga _ _ (by omega)⟩) (fun q hq => gb _ _ (by omega)) (fun c hc => gb _ _ (by omega))⟩, ?_, ?_, ?_⟩
  · exact imgR_eq hi (fun c i _ _ => ga _ _ (by omega)) (fun c i _ => gb _ _ (by omega))
  · exact shtR_eq hs (fun c i _ => ga _ _ (by omega)) (fun c i _ _ => gb _ _ (by omega))
  · exact hw
