/-! ===== what holds at the start ===== -/
theorem s0_sl : xSl.getD 0 0 = 45 := by decide +kernel
theorem s0_ch : ∀ i, i < 45 → (xSy.getD 0 []).getD i 0 = nI (B0 i) ∧ B0 i < 128 := by decide +kernel
theorem l_first {k : xM → Option (Int32 × xM)} {Q : Int32 → xM → Prop} : ∀ (d i f : Nat) (s : xM), i + d = 45 → d < f → gi s 77 1 = nI i → (∀ j, j < i → gi s 78 j = nI (B0 j)) → (∀ s', Fr (fun c i => (c = 77 ∧ i = 1) ∨ c = 78) s s' → tpX B0 45 s' → Ok (k s') Q) → Ok (fX9_init_L197 k f (nI i) s) Q := by
  intro d
  induction d with
  | zero =>
    intro i f s hi hf e1 e2 K
    obtain rfl : i = 45 := by omega
    obtain ⟨f, rfl⟩ : ∃ n', f = n' + 1 := ⟨f - 1, by omega⟩
    unfold fX9_init_L197
    rw [e_sl (by omega), bd_some, s0_sl]
    exact ok_T (nI_le (Nat.le_refl _) (by omega)) (K s Fr_rf ⟨e1, e2⟩)
  | succ d ih =>
    intro i f s hi hf e1 e2 K
    obtain ⟨f, rfl⟩ : ∃ n', f = n' + 1 := ⟨f - 1, by omega⟩
    obtain ⟨c1, c2⟩ := s0_ch i (by omega)
    unfold fX9_init_L197
    rw [e_sl (by omega), bd_some, s0_sl]
    refine ok_F (nI_ge (by omega) (by omega)) ?_
    rw [e_chr s (by rw [s0_sl]; omega) (by rw [s0_sl]; omega) c2 c1, bd_some]
    unfold fX4_append
    rw [e1]
    refine ok_B (ok_F (nI_ge (b := 160) (by omega) (by omega)) (ok_G (inb_n (by omega) (by omega)) (ok_lz.mpr (ok_lz.mpr (ok_R ?_)))))
    rw [nI_clamp (by omega)]
    have e3 : gi (si s 78 i (nI (B0 i))) 77 1 = nI i := by
      rw [gi_si, if_neg (by omega)]
      exact e1
    rw [e3, nI_1]
    have F : Fr (fun c i => (c = 77 ∧ i = 1) ∨ c = 78) s (si (si s 78 i (nI (B0 i))) 77 1 (nI (i + 1))) := Fr_si (Fr_si Fr_rf _ (Or.inr rfl)) _ (Or.inl ⟨rfl, rfl⟩)
    refine ih (i + 1) f _ (by omega) (by omega) (gi_same _ _ _ _) (fun j hj => ?_) fun s' F' h => K s' (Fr_tr F F') h
    rw [gi_si, if_neg (by omega)]
    by_cases c : j = i
    · rw [c, gi_same]
    · rw [gi_si, if_neg (by omega)]
      exact e2 j (by omega)
theorem st_X : ∃ s', fX9_init_T195 sxm36 = some (0, s') ∧ Fr (fun c i => c = 77 ∨ c = 78 ∨ xQ 0 c i) sxm36 s' ∧ gi s' 77 1 = nI 0 ∧ gi s' 97 4 = nI 3 ∧ gi s' 99 0 = nI 3 ∧ gi s' 99 1 = nI 6 ∧ gi s' 99 2 = nI 7 ∧ ∀ i, i < 7 → gi s' 98 i = cdX (C0.getD i 0) := by
  obtain ⟨f, hf⟩ := fu_big
  have q : Ok (fX9_init_T195 sxm36) (fun r s' => r = 0 ∧ Fr (fun c i => c = 77 ∨ c = 78 ∨ xQ 0 c i) sxm36 s' ∧ gi s' 77 1 = nI 0 ∧ gi s' 97 4 = nI 3 ∧ gi s' 99 0 = nI 3 ∧ gi s' 99 1 = nI 6 ∧ gi s' 99 2 = nI 7 ∧ ∀ i, i < 7 → gi s' 98 i = cdX (C0.getD i 0)) := by
    unfold fX9_init_T195
    rw [hf, show (0 : Int32) = nI 0 from rfl]
    refine l_first 45 0 (f + 4000) sxm36 rfl (by omega) (by decide +kernel) (fun j hj => absurd hj (Nat.not_lt_zero _)) fun s1 F1 h1 => ok_B ?_
    refine e_law0 h1 fun s2 F2 a b c d e => ok_lz.mpr (ok_R ⟨rfl, ?_, gi_same _ _ _ _, ?_, ?_, ?_, ?_, fun i hi => ?_⟩)
    · exact Fr_si (Fr_tr (Fr_mono F1 fun c i h => by omega) (Fr_mono F2 fun c i h => Or.inr (Or.inr h))) _ (Or.inl rfl)
    · rw [gi_si, if_neg (by omega)]
      exact a
    · rw [gi_si, if_neg (by omega)]
      exact b
    · rw [gi_si, if_neg (by omega)]
      exact c
    · rw [gi_si, if_neg (by omega)]
      exact d
    · rw [gi_si, if_neg (by omega)]
      exact e i hi
  obtain ⟨r, s', e, e0, q⟩ := q
  subst e0
  exact ⟨s', e, q⟩
def tau0 : xM := si (si (si (si (si (si (si (si (si (si (si smm37 15 0 102000) 15 1 0) 15 2 14) 15 3 4) 15 4 100002) 15 5 18) 15 6 4) 15 7 0) 16 1 3) 16 2 6) 16 3 7
theorem st_M : fX10_init_T508 smm37 = some (0, tau0) := by
  unfold fX10_init_T508 fX10_first tau0
  rfl
def T0 (c i : Nat) : Nat := if c = 2 then [10, 5, 2, 2, 1, 300, 15, 20, 3, 2, 1, 200, 6, 2, 1, 3, 1, 600].getD i 0 else if c = 0 then (if i = 2 then 300 else if i = 3 then 3 else 0) else 0
def vTb (c i : Nat) : Bool := decide ((c = 0 ∧ (i = 2 ∨ i = 3 ∨ i = 4 ∨ i = 12)) ∨ (c = 1 ∧ i < 41) ∨ (c = 2 ∧ i < 18) ∨ (3 ≤ c ∧ c ≤ 13 ∧ i < 8))
theorem vTb_t {c i : Nat} (h : vT c i) : vTb c i = true := decide_eq_true h
theorem vT_lt {c i : Nat} (h : vT c i) : c < 14 ∧ i < 41 := by
  unfold vT at h
  omega
theorem T0_1 : ∀ c, c < 14 → ∀ i, i < 41 → vTb c i = false ∨ T0 c i ≤ hiT c i := by decide +kernel
theorem T0_2 : ∀ c, c < 14 → ∀ i, i < 41 → vTb c i = false ∨ gi sxm36 (xlc c i) (xlp c i) = nI (T0 c i) := by decide +kernel
theorem T0_3 : ∀ c, c < 14 → ∀ i, i < 41 → vTb c i = false ∨ gi tau0 c i = nI (T0 c i) := by decide +kernel
theorem T0_4 : ∀ p, p < 8 → gi sxm36 (11 + p) 1 = nI (abv (T0 3 p)) := by decide +kernel
theorem T0_5 : ∀ c, c < 41 → gi sxm36 3 c = nI (ups T0 c) ∧ gi sxm36 4 c = nI (dns T0 c) := by decide +kernel
theorem T0_6 : gi sxm36 0 5 = nI 1 ∧ gi sxm36 0 6 = nI 0 ∧ gi sxm36 81 0 = 0 ∧ gi tau0 0 18 = nI 0 ∧ gi tau0 0 21 = nI 1 ∧ gi tau0 0 22 = nI 0 ∧ gi tau0 0 23 = 0 := by decide +kernel
theorem T0_7 : ∀ j, j < 4 → gi sxm36 (121 + 2 * j) 1 = -1 ∧ gi tau0 22 j = -1 ∧ gi sxm36 (121 + 2 * j) 2 = nI 0 ∧ gi tau0 23 j = nI 0 := by decide +kernel
theorem T0_8 : ∀ j, j < 4 → ∀ i, i < 41 → gi sxm36 (122 + 2 * j) i = gi tau0 24 (41 * j + i) := by decide +kernel
theorem T0_9 : ∀ k, k < 12 → gl tau0 26 k = lN (wrdN.getD k 0) := by decide +kernel
def E0 (q : Nat) : Nat := [0, 3, 6, 7].getD q 0
theorem T0_10 : ∀ q, q < 4 → gi tau0 16 (4 * 0 + q) = nI (E0 q) := by decide +kernel
theorem T0_11 : ∀ c, c < 7 → gi tau0 15 (200 * 0 + c) = nI (C0.getD c 0) := by decide +kernel
theorem C0_ok : ∀ c, c < 7 → cdOk (C0.getD c 0) := by
  unfold cdOk
  decide +kernel
theorem C0_1 : prtW (fun c => C0.getD c 0) 0 3 := by
  have e : eff [102000, 0, 14] 0 1 := ⟨1, by unfold stH; decide, 2, by unfold stH; decide, 1, by unfold stH; decide, rfl⟩
  exact prtW_eq (eff_prt (C := []) e) (by decide)
theorem C0_2 : prtW (fun c => C0.getD c 0) 3 6 := by
  have e : eff [4, 100002, 18] 0 1 := ⟨1, by unfold stH; decide, 2, by unfold stH; decide, 1, by unfold stH; decide, rfl⟩
  exact prtW_eq (eff_prt (C := [102000, 0, 14]) e) (by decide)
theorem C0_3 : prtW (fun c => C0.getD c 0) 6 7 := by
  have e : eff [4] 0 1 := ⟨1, by unfold stH; decide, rfl⟩
  exact prtW_eq (eff_prt (C := [102000, 0, 14, 4, 100002, 18]) e) (by decide)
theorem RR_start {s' : xM} (F : Fr (fun c i => c = 77 ∨ c = 78 ∨ xQ 0 c i) sxm36 s') (e1 : gi s' 77 1 = nI 0) (e4 : gi s' 97 4 = nI 3) (p0 : gi s' 99 0 = nI 3) (p1 : gi s' 99 1 = nI 6) (p2 : gi s' 99 2 = nI 7) (cd : ∀ i, i < 7 → gi s' 98 i = cdX (C0.getD i 0)) : RR s' tau0 := by
  have ga : ∀ c i, ¬ (c = 77 ∨ c = 78 ∨ xQ 0 c i) → gi s' c i = gi sxm36 c i := fun c i q => (F c i q).1
  unfold xQ at ga
  obtain ⟨u1, u2, u3, u4, u5, u6, u7⟩ := T0_6
  have hX : xCT sxm36 T0 := by
    refine ⟨fun c i h => ?_, T0_4, T0_5⟩
    rcases T0_2 c (vT_lt h).1 i (vT_lt h).2 with q | q
    · rw [vTb_t h] at q
      cases q
    · exact q
  refine ⟨T0, 1, ⟨fun c i h => ?_, by decide⟩, fun p _ _ => rfl, xCT_fr hX F (fun c i q => by unfold xQ at q; omega), fun c i h => ?_, ⟨0, by omega, e1, u4, fun i hi => absurd hi (Nat.not_lt_zero _)⟩, ⟨by omega, by omega, by rw [ga _ _ (by omega)]; exact u1, u5, ⟨0, by omega, by rw [ga _ _ (by omega)]; exact u2, u6⟩, fun j hj => ?_⟩, Or.inl ⟨by rw [ga _ _ (by omega)]; exact u3, u7⟩, fun j hj => ?_, T0_9⟩
  · rcases T0_1 c (vT_lt h).1 i (vT_lt h).2 with q | q
    · rw [vTb_t h] at q
      cases q
    · exact q
  · rcases T0_3 c (vT_lt h).1 i (vT_lt h).2 with q | q
    · rw [vTb_t h] at q
      cases q
    · exact q
  · obtain rfl : j = 0 := by omega
    refine ⟨e4, fun c => C0.getD c 0, E0, rfl, by decide, fun q hq => ?_, T0_10, fun c hc => ⟨C0_ok c hc, cd c hc, T0_11 c hc⟩⟩
    have c : q = 0 ∨ q = 1 ∨ q = 2 := by omega
    rcases c with rfl | rfl | rfl
    · exact ⟨C0_1, p0⟩
    · exact ⟨C0_2, p1⟩
    · exact ⟨C0_3, p2⟩
  · obtain ⟨v1, v2, v3, v4⟩ := T0_7 j hj
    refine ⟨-1, 0, Or.inl rfl, by omega, ?_, v2, ?_, v4, fun i hi => ?_⟩
    · rw [ga _ _ (by omega)]
      exact v1
    · rw [ga _ _ (by omega)]
      exact v3
    · rw [ga _ _ (by omega)]
      exact T0_8 j hj i hi
