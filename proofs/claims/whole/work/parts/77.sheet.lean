/-! ===== sheets ===== -/
theorem RT_sh {σ τ σ' τ' : xM} {T : xTw} {n : Nat} (h : RT σ τ T n) (f : Fr (fun c _ => 121 ≤ c) σ σ') (g : Fr (fun c _ => 22 ≤ c ∧ c ≤ 24) τ τ') (hs : shtR σ' τ') : RT σ' τ' T n := by
  obtain ⟨hR, hZ, hX, hM, h1, h2, h3, h4, h5⟩ := h
  have a : ∀ c i, ¬ (121 ≤ c) → gi σ' c i = gi σ c i := fun c i x => (f c i x).1
  have b : ∀ c i, ¬ (22 ≤ c ∧ c ≤ 24) → gi τ' c i = gi τ c i := fun c i x => (g c i x).1
  refine ⟨hR, hZ, xCT_fr hX f (fun c i q => by omega), mTn_fr hM g (fun c i q => by unfold vT; omega), tapR_fr h1 (fun i => ⟨a _ _ (by omega), a _ _ (by omega)⟩) (fun i => ⟨b _ _ (by omega), b _ _ (by omega)⟩), ?_, ?_, hs, fun k hk => by rw [(g 26 k (by omega)).2]; exact h5 k hk⟩
  · obtain ⟨x1, x2, x3, x4, ⟨w, x5, x6, x7⟩, x8⟩ := h2
    refine ⟨x1, x2, by rw [a _ _ (by omega)]; exact x3, by rw [b _ _ (by omega)]; exact x4, ⟨w, x5, by rw [a _ _ (by omega)]; exact x6, by rw [b _ _ (by omega)]; exact x7⟩, fun j hj => oneT_eq (x8 j hj) (fun i => ⟨a _ _ (by omega), a _ _ (by omega), a _ _ (by omega)⟩) (fun q hq => b _ _ (by omega)) (fun c hc => b _ _ (by omega))⟩
  · rcases h3 with h3 | ⟨y1, y2, ⟨w, y3, y4, y5⟩, I, y6, y7, z1, z2, z3, z4, z5, z6, z7, z8, z9, z10, z11⟩
    · exact Or.inl ⟨by rw [a _ _ (by omega)]; exact h3.1, by rw [b _ _ (by omega)]; exact h3.2⟩
    · refine Or.inr ⟨by rw [a _ _ (by omega)]; exact y1, by rw [b _ _ (by omega)]; exact y2, ⟨w, y3, by rw [a _ _ (by omega)]; exact y4, by rw [b _ _ (by omega)]; exact y5⟩, I, y6, y7, ?_⟩
      refine ⟨by rw [a _ _ (by omega)]; exact z1, by rw [b _ _ (by omega)]; exact z2, by rw [a _ _ (by omega)]; exact z3, by rw [b _ _ (by omega)]; exact z4, by rw [a _ _ (by omega)]; exact z5, by rw [b _ _ (by omega)]; exact z6, by rw [a _ _ (by omega)]; exact z7, by rw [b _ _ (by omega)]; exact z8, fun i hi => ?_, fun k w hk hw => ?_, fun p hq => ?_⟩
      · rw [a _ _ (by omega), b _ _ (by omega)]
        exact z9 i hi
      · rw [a _ _ (by omega), b _ _ (by omega)]
        exact z10 k w hk hw
      · rw [a _ _ (by omega), b _ _ (by omega), a _ _ (by omega), b _ _ (by omega), a _ _ (by omega), b _ _ (by omega)]
        exact z11 p hq
theorem ol_msh70 {j : Nat} (hj : j < 4) {kt : xM → Option (Int32 × xM)} {Q : Int32 → xM → Prop} : ∀ (m c n : Nat) (s : xM), c + m = 41 → m < n → (∀ i, i < c → gi s 24 (41 * j + i) = 0) → (∀ s', Fr (fun d i => d = 24 ∧ 41 * j ≤ i ∧ i < 41 * j + 41) s s' → (∀ i, i < 41 → gi s' 24 (41 * j + i) = 0) → Ok (kt s') Q) → Ok (fX10_sheet_L70 kt (nI j) n (nI c) s) Q := by
  intro m
  induction m with
  | zero =>
    intro c n s hc hn hd kk
    obtain ⟨n, rfl⟩ : ∃ n', n = n' + 1 := ⟨n - 1, by omega⟩
    unfold fX10_sheet_L70
    refine ok_T (nI_le (a := 41) (by omega) (by omega)) ?_
    exact kk s Fr_rf (fun i hi => hd i (by omega))
  | succ m ih =>
    intro c n s hc hn hd kk
    obtain ⟨n, rfl⟩ : ∃ n', n = n' + 1 := ⟨n - 1, by omega⟩
    unfold fX10_sheet_L70
    refine ok_F (nI_ge (b := 41) (by omega) (by omega)) ?_
    rw [q41]
    simp (disch := omega) only [ok_gd, ok_lz, pk_mul, nI_add, inb_n, true_and, nI_clamp, nI_1]
    have f1 : Fr (fun d i => d = 24 ∧ 41 * j ≤ i ∧ i < 41 * j + 41) s (si s 24 (41 * j + c) 0) := Fr_si Fr_rf _ ⟨rfl, by omega, by omega⟩
    refine ih (c + 1) n _ (by omega) (by omega) (fun i hi => ?_) (fun s' f => kk s' (Fr_tr f1 f))
    rw [gi_si]
    by_cases e : i = c
    · rw [if_pos ⟨rfl, by omega⟩]
    · rw [if_neg (by omega)]
      exact hd i (by omega)
theorem sort4 {v : Int32} (h : ¬ (v < -1 ∨ 2 < v)) : v = -1 ∨ v = 0 ∨ v = 1 ∨ v = 2 := by
  have h1 : ¬ v < -1 := fun q => h (Or.inl q)
  have h2 : ¬ 2 < v := fun q => h (Or.inr q)
  rw [Int32.lt_iff_toInt_lt] at h1 h2
  rw [show (-1 : Int32).toInt = -1 from rfl] at h1
  rw [show (2 : Int32).toInt = 2 from rfl] at h2
  rcases (show v.toInt = -1 ∨ v.toInt = 0 ∨ v.toInt = 1 ∨ v.toInt = 2 by omega) with e | e | e | e
  · exact Or.inl (Int32.toInt_inj.mp e)
  · exact Or.inr (Or.inl (Int32.toInt_inj.mp e))
  · exact Or.inr (Or.inr (Or.inl (Int32.toInt_inj.mp e)))
  · exact Or.inr (Or.inr (Or.inr (Int32.toInt_inj.mp e)))
theorem sheet_end {σ τ : xM} {T : xTw} {n : Nat} (h : RT σ τ T n) {j m : Nat} (hj : j < 4) (hm : m ≤ 41) {v : Int32} (hv : v = -1 ∨ v = 0 ∨ v = 1 ∨ v = 2) : Rel (fX9_sheet_J62 (nI m) v j σ) (fX10_sheet_J66 (nI j) (nI m) (nI j) (si τ 22 j v)) SimP := by
  obtain ⟨f, hf⟩ := fu_big
  unfold fX9_sheet_J62 fX2_begin fX10_sheet_J66
  refine rl_B ?_
  simp only [ok_lz]
  refine ok_B (of_fill (by omega) (fun s1 f1 v1 => ok_R ?_))
  refine rr_G (inb_n hj (by omega)) (rr_lz.mpr ?_)
  rw [nI_clamp (by omega), hf, show (0 : Int32) = nI 0 from rfl]
  refine rr_O (ol_msh70 hj 41 0 (f + 4000) _ (by omega) (by omega) (fun i hi => absurd hi (Nat.not_lt_zero _)) (fun s2 f2 v2 => rr_U ?_))
  have g1 : Fr (fun c _ => 121 ≤ c) σ s1 := Fr_tr (Fr_si (Fr_si Fr_rf _ (by omega)) _ (by omega)) (Fr_mono f1 (fun c i q => by omega))
  have g2 : Fr (fun c _ => 22 ≤ c ∧ c ≤ 24) τ s2 := Fr_tr (Fr_si (Fr_si Fr_rf _ (by omega)) _ (by omega)) (Fr_mono f2 (fun c i q => by omega))
  refine sim_R (RT_sh h g1 g2 (fun k hk => ?_)) rfl
  by_cases e : k = j
  · subst e
    refine ⟨v, m, hv, hm, ?_, ?_, ?_, ?_, fun i hi => ?_⟩
    · rw [(f1 _ _ (by omega)).1, gi_si, if_neg (by omega), gi_same]
    · rw [(f2 _ _ (by omega)).1, gi_si, if_neg (by omega), gi_same]
    · rw [(f1 _ _ (by omega)).1, gi_same]
    · rw [(f2 _ _ (by omega)).1, gi_same]
    · rw [v1 i hi, v2 i hi]
  · obtain ⟨w, m2, u1, u2, u3, u4, u5, u6, u7⟩ := h.2.2.2.2.2.2.2.1 k hk
    refine ⟨w, m2, u1, u2, ?_, ?_, ?_, ?_, fun i hi => ?_⟩
    · rw [(f1 _ _ (by omega)).1, gi_si, if_neg (by omega), gi_si, if_neg (by omega)]
      exact u3
    · rw [(f2 _ _ (by omega)).1, gi_si, if_neg (by omega), gi_si, if_neg (by omega)]
      exact u4
    · rw [(f1 _ _ (by omega)).1, gi_si, if_neg (by omega), gi_si, if_neg (by omega)]
      exact u5
    · rw [(f2 _ _ (by omega)).1, gi_si, if_neg (by omega), gi_si, if_neg (by omega)]
      exact u6
    · rw [(f1 _ _ (by omega)).1, gi_si, if_neg (by omega), gi_si, if_neg (by omega), (f2 _ _ (by omega)).1, gi_si, if_neg (by omega), gi_si, if_neg (by omega)]
      exact u7 i hi
theorem sim_sheet : xs_sheet RR := by
  intro σ τ h a0 a1 a2
  refine sim_of ?_
  obtain ⟨T, n, h⟩ := h
  unfold fX9_sheet fX10_sheet
  simp only [e_isSheet9, e_isWithin, e_in, bd_some]
  rcases rcase a0 (M := 3) (n := 3) rfl with c | ⟨c, j, hj, rfl⟩
  · simp only [c, ↓reduceIte]
    exact sim_R h rfl
  simp only [c, n10, ↓reduceIte]
  by_cases d : a1 < -1 ∨ 2 < a1
  · simp only [d, ↓reduceIte]
    exact sim_R h rfl
  have hv := sort4 d
  simp only [d, n10, ↓reduceIte]
  unfold fX9_sheet_J33 fX9_sheet_J45 fX10_sheet_J32 fX10_sheet_J44
  by_cases e : a1 = -1
  · simp (disch := omega) only [e, ↓reduceIte, rl_gd, rr_gd, rr_lz, inb_n, nI_clamp, true_and]
    exact sheet_end h (m := 0) (by omega) (by omega) (Or.inl rfl)
  simp only [e, ↓reduceIte]
  by_cases f : a2 ≤ 41
  · simp only [f, ↓reduceIte]
    by_cases g : 0 ≤ a2
    · simp only [g, ↓reduceIte]
      have g0 : ¬ a2 < 0 := by
        rw [Int32.lt_iff_toInt_lt]
        rw [Int32.le_iff_toInt_le] at g
        omega
      obtain ⟨m, hm, rfl⟩ := nI_of2 (n := 41) rfl g0 f
      simp (disch := omega) only [rl_gd, rr_gd, rr_lz, inb_n, nI_clamp, true_and]
      exact sheet_end h (by omega) hm hv
    · simp only [g, ↓reduceIte]
      exact sim_R h rfl
  · simp only [f, ↓reduceIte]
    exact sim_R h rfl
/-! ===== cell ===== -/
theorem holds_no {a : Int32} {m : Nat} (hm : m ≤ 41) (h : a < 0 ∨ nI m - 1 < a) : a < 0 ∨ ¬ a < 0 ∧ nI m ≤ a := by
  by_cases c : a < 0
  · exact Or.inl c
  · refine Or.inr ⟨c, ?_⟩
    rcases h with h | h
    · exact absurd h c
    · have e : (nI m - 1).toInt = (m : Int) - 1 := pk_sub_toInt (a := m) (b := 1) (by omega) (by omega)
      rw [Int32.lt_iff_toInt_lt, e] at h
      rw [Int32.le_iff_toInt_le, nI_toInt (by omega)]
      omega
theorem cell_end {σ τ : xM} {T : xTw} {n : Nat} (h : RT σ τ T n) {j x : Nat} (hj : j < 4) (hx : x < 41) (w : Int32) : Rel (some ((1 : Int32), si σ (122 + 2 * j) x w)) (fX10_cell_J84 w ((41 : Int32) * nI j + nI x) τ) SimP := by
  unfold fX10_cell_J84
  rw [q41]
  simp (disch := omega) only [pk_mul, nI_add, rr_gd, rr_lz, inb_n, nI_clamp, true_and]
  refine sim_R (RT_sh h (Fr_si Fr_rf _ (by omega)) (Fr_si Fr_rf _ (by omega)) (fun k hk => ?_)) rfl
  obtain ⟨v, m, u1, u2, u3, u4, u5, u6, u7⟩ := h.2.2.2.2.2.2.2.1 k hk
  refine ⟨v, m, u1, u2, ?_, ?_, ?_, ?_, fun i hi => ?_⟩
  · rw [gi_si, if_neg (by omega)]; exact u3
  · rw [gi_si, if_neg (by omega)]; exact u4
  · rw [gi_si, if_neg (by omega)]; exact u5
  · rw [gi_si, if_neg (by omega)]; exact u6
  · rw [gi_si, gi_si]
    by_cases e : k = j ∧ i = x
    · rw [if_pos (by omega), if_pos (by omega)]
    · rw [if_neg (by omega), if_neg (by omega)]
      exact u7 i hi
theorem e_isMissing (j : Nat) (s : xM) : fX2_isMissing j s = some (if gi s (121 + 2 * j) 1 = -1 then 1 else 0, s) := by
  unfold fX2_isMissing
  split <;> rfl
theorem sim_cell : xs_cell RR := by
  intro σ τ h a0 a1 a2
  refine sim_of ?_
  obtain ⟨T, n, h⟩ := h
  unfold fX9_cell fX10_cell
  simp only [e_isSheet9, e_in, bd_some]
  rcases rcase a0 (M := 3) (n := 3) rfl with c | ⟨c, j, hj, rfl⟩
  · simp only [c, ↓reduceIte]
    exact sim_R h rfl
  obtain ⟨v, m, u1, u2, u3, u4, u5, u6, u7⟩ := h.2.2.2.2.2.2.2.1 j (by omega)
  simp (disch := omega) only [c, n10, ↓reduceIte, rl_gd, rr_gd, inb_n, nI_clamp, true_and, e_isMissing, bd_some, u3, u4, u6]
  by_cases e : v = -1
  · simp only [e, n10, ↓reduceIte]
    exact sim_R h rfl
  simp (disch := omega) only [e, ↓reduceIte, rl_gd, rr_gd, inb_n, nI_clamp, true_and]
  unfold fX2_holds
  rw [u5]
  rcases rcaseN a1 (N := m) (by omega) with d | ⟨d, x, hx, rfl⟩
  · rcases holds_no u2 d with q | ⟨q1, q2⟩
    · simp only [d, q, bd_some, ↓reduceIte]
      exact sim_R h rfl
    · have d2 : nI m - 1 < a1 := d.resolve_left q1
      simp only [d2, q1, q2, bd_some, or_true, ↓reduceIte]
      exact sim_R h rfl
  have d1 : ¬ nI m - 1 < nI x := fun q => d (Or.inr q)
  have q1 : ¬ nI x < 0 := nI_pos (by omega)
  have q2 : ¬ nI m ≤ nI x := nI_ge hx (by omega)
  unfold fX2_write fX2_write_J31
  simp (disch := omega) only [d1, q1, q2, n10, bd_some, or_self, ↓reduceIte, rl_gd, rr_gd, inb_n, nI_clamp, true_and, u3, u4, gd_t]
  rcases u1 with rfl | rfl | rfl | rfl
  · exact absurd rfl e
  · simp only [↓reduceIte, lz, bd_some, gd_t]
    exact cell_end h (by omega) (by omega) _
  · simp only [n10, ↓reduceIte, lz, bd_some, gd_t]
    exact cell_end h (by omega) (by omega) _
  · simp only [show ¬ (2 : Int32) = 0 from by decide, show ¬ (2 : Int32) = 1 from by decide, ↓reduceIte, lz, bd_some, gd_t]
    exact cell_end h (by omega) (by omega) _
/-! ===== taken ===== -/
theorem sim_taken : xs_taken RR := by
  intro σ τ h a0 a1
  refine sim_of ?_
  obtain ⟨T, n, h⟩ := h
  have hR := h.1
  have hX := h.2.2.1
  have hM := h.2.2.2.1
  have h8 := rg_stops hR
  have h12 := rg_trips hR
  have es := xT_stops hX.1
  have et := xT_trips hX.1
  have ms := hM 0 4 (vt0 (by omega))
  have mt := hM 0 12 (vt0 (by omega))
  unfold fX9_taken fX10_taken
  simp only [e_isKind9, e_in, bd_some]
  have key : ∀ k : Nat, k ≤ 6 → Rel (fX9_taken_J16 a0 (nI k) σ) (if (if a0 < 0 ∨ 15 < a0 then (0 : Int32) else 1) = 0 then some ((-12 : Int32), τ) else if (8 : Int32) ≤ a0 then if (a0 - (8 : Int32)) < (gi τ 0 4) then if (6 : Int32) ≤ nI k then some ((-13 : Int32), τ) else gd (inb (a0 - (8 : Int32)) 8) <| bd (fX10_isUnder (gi τ 3 (a0 - (8 : Int32)).toNatClampNeg) (nI k) τ) fun r13 s14 => if r13 = 0 then some ((-13 : Int32), s14) else some ((a0 - (8 : Int32)), s14) else some ((-11 : Int32), τ) else if a0 < (gi τ 0 12) then if nI k = (6 : Int32) then gd (inb a0 8) <| some ((gi τ 12 a0.toNatClampNeg), τ) else some ((-13 : Int32), τ) else some ((-11 : Int32), τ)) SimP := by
    intro k hk
    unfold fX9_taken_J16
    simp only [e_isWithin, bd_some]
    rcases rcase a0 (M := 15) (n := 15) rfl with c | ⟨c, i, hi, rfl⟩
    · simp only [c, ↓reduceIte]
      exact sim_R h rfl
    simp only [c, n10, ↓reduceIte]
    by_cases i8 : 8 ≤ i
    · have l8 : (8 : Int32) ≤ nI i := nI_le (a := 8) i8 (by omega)
      simp only [l8, ↓reduceIte, rl_lz, e_isStop9, bd_some, es, ms]
      rw [q8, pk_sub i8]
      by_cases g : i - 8 < T 0 4
      · have g1 : ¬ (nI (i - 8) < 0 ∨ nI (T 0 4) - 1 < nI (i - 8)) := by
          rintro (q | q)
          · exact nI_pos (by omega) q
          · rw [q1, pk_sub (by omega)] at q
            exact nI_nlt (by omega) (by omega) q
        have g2 : nI (i - 8) < nI (T 0 4) := nI_lt g (by omega)
        have dk := rg_kind hR (i := i - 8) (by omega)
        have e3 := hM 3 (i - 8) (vt3 (by omega) (by omega) (by omega))
        simp only [g1, g2, n10, ↓reduceIte]
        by_cases k6 : k = 6
        · subst k6
          have a1 : nI 6 = (6 : Int32) := rfl
          have a2 : (6 : Int32) ≤ nI 6 := by decide
          simp only [a1, a2, ↓reduceIte]
          exact sim_R h rfl
        · have a1 : ¬ nI k = (6 : Int32) := by
            rw [q6, nI_eq (by omega) (by omega)]
            exact k6
          have a2 : ¬ (6 : Int32) ≤ nI k := nI_ge (b := 6) (by omega) (by omega)
          simp (disch := omega) only [a1, a2, ↓reduceIte, rl_gd, rr_gd, inb_n, nI_clamp, true_and, e_isOf hR hX.1 hX.2.1, bd_some, e3]
          have u : fX10_isUnder (nI (T 3 (i - 8))) (nI k) τ = some (if k = T 3 (i - 8) ∨ k = abv (T 3 (i - 8)) ∨ k = 0 then 1 else 0, τ) := by
            generalize T 3 (i - 8) = d at dk
            have z : ∀ k, k < 6 → ∀ d, d < 6 → fX10_isUnder (nI d) (nI k) τ = some (if k = d ∨ k = abv d ∨ k = 0 then 1 else 0, τ) := by
              intro k hk d hd
              unfold fX10_isUnder fX10_isUnder_J19
              rw [show (0 : Int32) = nI 0 from rfl, q1, q2, q4, q5]
              simp (disch := omega) only [nI_eq]
              unfold abv
              by_cases z0 : k = 0
              · rw [if_pos z0, if_pos (by omega)]
              · rw [if_neg z0]
                by_cases z1 : d = k
                · rw [if_pos z1, if_pos (by omega)]
                · rw [if_neg z1]
                  by_cases z2 : k = 1
                  · rw [if_pos z2]
                    by_cases z3 : d = 5
                    · rw [if_pos z3, if_pos (by subst z3; subst z2; decide)]
                    · rw [if_neg z3, if_neg (by omega)]
                      rw [if_neg]
                      rintro (q | q | q)
                      · omega
                      · repeat' split at q
                        all_goals omega
                      · omega
                  · rw [if_neg z2]
                    by_cases z3 : k = 2
                    · rw [if_pos z3]
                      by_cases z4 : d = 4
                      · rw [if_pos z4, if_pos (by subst z4; subst z3; decide)]
                      · rw [if_neg z4, if_neg]
                        rintro (q | q | q)
                        · omega
                        · repeat' split at q
                          all_goals omega
                        · omega
                    · rw [if_neg z3, if_neg]
                      rintro (q | q | q)
                      · omega
                      · repeat' split at q
                        all_goals omega
                      · omega
            exact z k (by omega) d (by omega)
          rw [u, bd_some]
          by_cases w : k = T 3 (i - 8) ∨ k = abv (T 3 (i - 8)) ∨ k = 0
          · simp only [w, n10, ↓reduceIte]
            exact sim_R h rfl
          · simp only [w, ↓reduceIte]
            exact sim_R h rfl
      · have g1 : nI (i - 8) < 0 ∨ nI (T 0 4) - 1 < nI (i - 8) := by
          refine Or.inr ?_
          rw [Int32.lt_iff_toInt_lt, nI_toInt (by omega), q1, pk_sub_toInt (by omega) (by omega)]
          omega
        have g2 : ¬ nI (i - 8) < nI (T 0 4) := nI_nlt (by omega) (by omega)
        simp only [g1, g2, ↓reduceIte]
        exact sim_R h rfl
    · have l8 : ¬ (8 : Int32) ≤ nI i := nI_ge (b := 8) (by omega) (by omega)
      simp only [l8, ↓reduceIte, e_isTrip9, bd_some, et, mt]
      by_cases g : i < T 0 12
      · have g1 : ¬ (nI i < 0 ∨ nI (T 0 12) - 1 < nI i) := by
          rintro (q | q)
          · exact nI_pos (by omega) q
          · rw [q1, pk_sub (by omega)] at q
            exact nI_nlt (by omega) (by omega) q
        have g2 : nI i < nI (T 0 12) := nI_lt g (by omega)
        simp only [g1, g2, n10, ↓reduceIte]
        by_cases k6 : nI k = (6 : Int32)
        · simp (disch := omega) only [k6, ↓reduceIte, rl_gd, rr_gd, inb_n, nI_clamp, true_and, xT_many hX.1, hM 12 i (vt3 (by omega) (by omega) (by omega))]
          exact sim_R h rfl
        · simp only [k6, ↓reduceIte]
          exact sim_R h rfl
      · have g1 : nI i < 0 ∨ nI (T 0 12) - 1 < nI i := by
          refine Or.inr ?_
          rw [Int32.lt_iff_toInt_lt, nI_toInt (by omega), q1, pk_sub_toInt (by omega) (by omega)]
          omega
        have g2 : ¬ nI i < nI (T 0 12) := nI_nlt (by omega) (by omega)
        simp only [g1, g2, ↓reduceIte]
        exact sim_R h rfl
  rcases rcase a1 (M := 6) (n := 6) rfl with c | ⟨c, k, hk, rfl⟩
  · have d6 : ¬ a1 = 6 := fun e => by subst e; revert c; decide
    have d5 : a1 < 0 ∨ 5 < a1 := c.imp id (fun q => Int32.lt_trans (by decide) q)
    simp only [c, d5, d6, ↓reduceIte]
    exact sim_R h rfl
  simp only [c, n10, ↓reduceIte]
  by_cases d5 : nI k < 0 ∨ 5 < nI k
  · have k6 : k = 6 := by
      rcases d5 with q | q
      · exact absurd q (nI_pos (by omega))
      · by_cases z : k ≤ 5
        · exact absurd q (nI_nlt (b := k) (a := 5) z (by omega))
        · omega
    have e6 : nI k = 6 := by
      rw [k6]
      rfl
    simp only [d5, ↓reduceIte]
    refine rl_T e6 ?_
    exact key k hk
  · simp only [d5, n10, ↓reduceIte]
    exact key k hk
