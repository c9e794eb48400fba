/-! ===== feed ===== -/
theorem fb_tb (n : Nat) : (lN n).toBitVec = BitVec.ofNat 64 n := rfl
theorem fb_of (x : Int64) : ∃ n, n < 2 ^ 64 ∧ x = lN n ∧ x.toBitVec.toNat = n := ⟨x.toBitVec.toNat, x.toBitVec.isLt, Int64.toBitVec_inj.mp (by rw [fb_tb]; simp), rfl⟩
theorem fb_c : ∀ k, k < 8 → ((((8 : Int32) * nI k).toInt64 &&& 63).toBitVec.smod 64).toNat = 8 * k := by decide +kernel
theorem fb_cu : ∀ k, k < 8 → (((8 : Int32) * nI k).toInt64.toUInt64 &&& Int64.toUInt64 63).toNat = 8 * k := by decide +kernel
theorem fb_l (x : Int64) {k : Nat} (hk : k < 8) : ((((x.toUInt64 >>> (((8 : Int32) * nI k).toInt64.toUInt64 &&& Int64.toUInt64 63)).toInt64).toInt32) &&& (255 : Int32)) = nI (x.toBitVec.toNat / 2 ^ (8 * k) % 256) := by
  obtain ⟨n, hn, rfl, e⟩ := fb_of x
  rw [e]
  have h1 : ((lN n).toUInt64 >>> (((8 : Int32) * nI k).toInt64.toUInt64 &&& Int64.toUInt64 63)).toInt64 = lN (n / 2 ^ (8 * k)) := by
    apply Int64.toBitVec_inj.mp
    apply BitVec.eq_of_toNat_eq
    show ((lN n).toUInt64 >>> (((8 : Int32) * nI k).toInt64.toUInt64 &&& Int64.toUInt64 63)).toNat = (BitVec.ofNat 64 _).toNat
    have h2 : (lN n).toUInt64.toNat = n := e
    rw [UInt64.toNat_shiftRight, fb_cu k hk, h2, Nat.mod_eq_of_lt (by omega), Nat.shiftRight_eq_div_pow, BitVec.toNat_ofNat, Nat.mod_eq_of_lt (Nat.lt_of_le_of_lt (Nat.div_le_self _ _) hn)]
  rw [h1, lN_i, pk_and _ 8 (by decide)]
  have h3 : (nI (n / 2 ^ (8 * k))).toBitVec.toNat = n / 2 ^ (8 * k) % 2 ^ 32 := BitVec.toNat_ofNat _ _
  rw [h3]
  congr 1
  omega
theorem fb_shr (x n : Int64) {k : Nat} (hn : (n.toBitVec.smod 64).toNat = k) : (x >>> n).toInt = x.toInt >>> k := by
  show (x.toBitVec.sshiftRight (n.toBitVec.smod 64).toNat).toInt = _
  rw [hn, BitVec.toInt_sshiftRight]
  rfl
theorem fb_r (x : Int64) {k : Nat} (hk : k < 8) : ((x >>> (((8 : Int32) * nI k).toInt64 &&& 63)) &&& (255 : Int64)).toInt32 = nI (x.toBitVec.toNat / 2 ^ (8 * k) % 256) := by
  have hy := fb_shr x (((8 : Int32) * nI k).toInt64 &&& 63) (fb_c k hk)
  generalize x >>> (((8 : Int32) * nI k).toInt64 &&& 63) = y at hy
  obtain ⟨n, hn, rfl, e⟩ := fb_of x
  obtain ⟨m, hm, rfl, e2⟩ := fb_of y
  rw [e]
  have h1 : lN m &&& (255 : Int64) = lN (m % 256) := by
    apply Int64.toBitVec_inj.mp
    rw [Int64.toBitVec_and, fb_tb, fb_tb]
    apply BitVec.eq_of_toNat_eq
    rw [BitVec.toNat_and, BitVec.toNat_ofNat, BitVec.toNat_ofNat, show (255 : Int64).toBitVec.toNat = 2 ^ 8 - 1 from rfl, Nat.mod_eq_of_lt hm, Nat.and_two_pow_sub_one_eq_mod]
    omega
  rw [h1, lN_i]
  have a1 : (lN n).toInt = if 2 * n < 2 ^ 64 then (n : Int) else (n : Int) - 2 ^ 64 := by
    have q := BitVec.toInt_eq_toNat_cond (lN n).toBitVec
    rw [e] at q
    exact q
  have a2 : (lN m).toInt = if 2 * m < 2 ^ 64 then (m : Int) else (m : Int) - 2 ^ 64 := by
    have q := BitVec.toInt_eq_toNat_cond (lN m).toBitVec
    rw [e2] at q
    exact q
  rw [a1, a2] at hy
  congr 1
  rcases (show k = 0 ∨ k = 1 ∨ k = 2 ∨ k = 3 ∨ k = 4 ∨ k = 5 ∨ k = 6 ∨ k = 7 by omega) with rfl | rfl | rfl | rfl | rfl | rfl | rfl | rfl
  all_goals
    split at hy <;> split at hy <;> simp only [Nat.mul_zero, Nat.reduceMul, Nat.reducePow, Int.reducePow, Int.shiftRight_eq_div_pow] at hy ⊢ <;> omega
theorem feed_loop {σ0 τ0 : xM} {T : xTw} {n0 : Nat} (h : RT σ0 τ0 T n0) (x : Int64) : ∀ (k f g : Nat) (σ τ : xM) (L : Nat), k ≤ 8 → k < f → k < g → L + k ≤ 160 → Fr (fun c i => (c = 77 ∧ i = 1) ∨ c = 78) σ0 σ → Fr (fun c i => (c = 0 ∧ i = 18) ∨ c = 14) τ0 τ → gi σ 77 1 = nI L → gi τ 0 18 = nI L → (∀ i, i < L → ∃ b, b < 256 ∧ gi σ 78 i = nI b ∧ gi τ 14 i = nI b) → Rel (fX9_feed_L36 (fun s8 => some ((gi s8 77 1), s8)) x f (nI k - 1) σ) (fX10_feed_L33 (fun s8 => some ((gi s8 0 18), s8)) x g (nI k - 1) τ) SimP := by
  intro k
  induction k with
  | zero =>
    intro f g σ τ L hk hf hg hL F G e1 e2 hb
    obtain ⟨f, rfl⟩ : ∃ n', f = n' + 1 := ⟨f - 1, by omega⟩
    obtain ⟨g, rfl⟩ : ∃ n', g = n' + 1 := ⟨g - 1, by omega⟩
    unfold fX9_feed_L36 fX10_feed_L33
    have m1 : nI 0 - 1 < 0 := by decide
    refine rl_T m1 (rr_T m1 ?_)
    rw [e1, e2]
    have ga : ∀ c i, ¬ ((c = 77 ∧ i = 1) ∨ c = 78) → gi σ c i = gi σ0 c i := fun c i q => (F c i q).1
    have gb : ∀ c i, ¬ ((c = 0 ∧ i = 18) ∨ c = 14) → gi τ c i = gi τ0 c i := fun c i q => (G c i q).1
    obtain ⟨hR, hZ, hX, hM, ht, ⟨n1, n2, n3, n4, ⟨w, w1, w2, w3⟩, n5⟩, hi, hs, hw⟩ := h
    refine sim_R (T := T) (n := n0) ⟨hR, hZ, xCT_fr hX F (fun c i q => by omega), mTn_fr hM G (fun c i q => by unfold vT; omega), ⟨L, by omega, e1, e2, hb⟩, ⟨n1, n2, by rw [ga _ _ (by omega)]; exact n3, by rw [gb _ _ (by omega)]; exact n4, ⟨w, w1, by rw [ga _ _ (by omega)]; exact w2, by rw [gb _ _ (by omega)]; exact w3⟩, fun j hj => oneT_eq (n5 j hj) (fun i => ⟨ga _ _ (by omega), ga _ _ (by omega), ga _ _ (by omega)⟩) (fun q hq => gb _ _ (by omega)) (fun c hc => gb _ _ (by omega))⟩, imgR_eq hi (fun c i _ _ => ga _ _ (by omega)) (fun c i _ => gb _ _ (by omega)), shtR_eq hs (fun c i _ => ga _ _ (by omega)) (fun c i _ _ => gb _ _ (by omega)), fun j hj => by rw [(G 26 j (by omega)).2]; exact hw j hj⟩ rfl
  | succ k ih =>
    intro f g σ τ L hk hf hg hL F G e1 e2 hb
    obtain ⟨f, rfl⟩ : ∃ n', f = n' + 1 := ⟨f - 1, by omega⟩
    obtain ⟨g, rfl⟩ : ∃ n', g = n' + 1 := ⟨g - 1, by omega⟩
    have b256 : x.toBitVec.toNat / 2 ^ (8 * k) % 256 < 256 := Nat.mod_lt _ (by omega)
    rw [nI_pred]
    unfold fX9_feed_L36 fX10_feed_L33 fX4_append
    refine rl_F (nI_pos (by omega)) (rr_F (nI_pos (by omega)) ?_)
    rw [fb_l x (by omega), fb_r x (by omega)]
    generalize x.toBitVec.toNat / 2 ^ (8 * k) % 256 = b at b256
    have em : nI k + (-1 : Int32) = nI k - 1 := by rw [Int32.sub_eq_add_neg]
    rw [e1, e2, em]
    have nl : ¬ (160 : Int32) ≤ nI L := nI_ge (b := 160) (by omega) (by omega)
    rw [if_neg nl]
    simp (disch := omega) only [inb_n, gd_t, rr_gd, true_and, nI_clamp, lz, bd_some]
    have e3 : gi (si σ 78 L (nI b)) 77 1 = nI L := by
      rw [gi_si, if_neg (by omega)]
      exact e1
    have e4 : gi (si τ 14 L (nI b)) 0 18 = nI L := by
      rw [gi_si, if_neg (by omega)]
      exact e2
    rw [e3, e4, nI_1]
    refine ih f g _ _ (L + 1) (by omega) (by omega) (by omega) (by omega) (Fr_si (Fr_si F _ (Or.inr rfl)) _ (Or.inl ⟨rfl, rfl⟩)) (Fr_si (Fr_si G _ (Or.inr rfl)) _ (Or.inl ⟨rfl, rfl⟩)) (gi_same _ _ _ _) (gi_same _ _ _ _) (fun i hi => ?_)
    by_cases e : i = L
    · subst e
      refine ⟨b, b256, ?_, ?_⟩
      · rw [gi_si, if_neg (by omega), gi_same]
      · rw [gi_si, if_neg (by omega), gi_same]
    · obtain ⟨b', hb', p1, p2⟩ := hb i (by omega)
      refine ⟨b', hb', ?_, ?_⟩
      · rw [gi_si, if_neg (by omega), gi_si, if_neg (by omega)]
        exact p1
      · rw [gi_si, if_neg (by omega), gi_si, if_neg (by omega)]
        exact p2
theorem sim_feed : xs_feed RR := by
  intro σ τ h a0 a1
  refine sim_of ?_
  obtain ⟨T, n, h⟩ := h
  obtain ⟨L, hL, t1, t2, t3⟩ := h.2.2.2.2.1
  obtain ⟨f, hf⟩ := fu_big
  unfold fX9_feed fX10_feed
  simp only [e_isWithin, e_in, bd_some]
  rcases rcase1 a1 (M := 8) (n := 8) rfl with c | ⟨c, k, hk1, hk, rfl⟩
  · simp only [c, ↓reduceIte]
    exact sim_R h rfl
  simp only [c, n10, ↓reduceIte]
  rw [t1, t2, nI_add, hf]
  by_cases d : nI (L + k) ≤ (160 : Int32)
  · have d2 : L + k ≤ 160 := Nat.not_lt.mp fun q => nI_ge (a := 160) q (by omega) d
    refine rl_T d (rr_T d (rl_lz.mpr (rr_lz.mpr ?_)))
    exact feed_loop h a0 k (f + 4000) (f + 4000) σ τ L hk (by omega) (by omega) d2 Fr_rf Fr_rf t1 t2 t3
  · refine rl_F d (rr_F d ?_)
    exact sim_R h rfl
