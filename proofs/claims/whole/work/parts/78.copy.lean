/-! ===== copy ===== -/
theorem rel_BB {α β γ δ : Type} {o1 : Option (γ × xM)} {o2 : Option (δ × xM)} {k1 : γ → xM → Option (α × xM)} {k2 : δ → xM → Option (β × xM)} {Q : α → xM → β → xM → Prop} (h : Rel o1 o2 (fun r s r' t => Rel (k1 r s) (k2 r' t) Q)) : Rel (bd o1 k1) (bd o2 k2) Q := by
  obtain ⟨r, s, r', t, h1, h2, q⟩ := rel_out h
  rw [h1, h2]
  exact q
theorem e_holdsRow {j m : Nat} {s : xM} (hs : gi s (121 + 2 * j) 2 = nI m) (a b : Int32) : fX2_holdsRow j a b s = some (if a < 0 ∨ b < 0 ∨ nI m < a ∨ nI m - a < b then 0 else 1, s) := by
  unfold fX2_holdsRow
  rw [hs]
  by_cases c1 : a < 0
  · rw [if_pos c1, if_pos (Or.inl c1)]
  · rw [if_neg c1]
    by_cases c2 : b < 0
    · rw [if_pos c2, if_pos (Or.inr (Or.inl c2))]
    · rw [if_neg c2]
      by_cases c3 : nI m < a
      · rw [if_pos c3, if_pos (Or.inr (Or.inr (Or.inl c3)))]
      · rw [if_neg c3]
        by_cases c4 : nI m - a < b
        · rw [if_pos c4, if_pos (Or.inr (Or.inr (Or.inr c4)))]
        · rw [if_neg c4, if_neg]
          rintro (q | q | q | q)
          · exact c1 q
          · exact c2 q
          · exact c3 q
          · exact c4 q
/-- n numbers of the cells, from a on, come to b -/
theorem ol_mcopy {N a b : Nat} (ha : a + N ≤ 164) (hb : b + N ≤ 164) (t0 : xM) {kt : xM → Option (Int32 × xM)} {Q : Int32 → xM → Prop} : ∀ (m k n : Nat) (s : xM), k + m = N → m < n → Fr (fun c _ => c = 24) t0 s → (∀ x, gi s 24 x = if (if b ≤ a then b ≤ x ∧ x < b + k else b + N ≤ x + k ∧ x < b + N) then gi t0 24 (a + (x - b)) else gi t0 24 x) → (∀ s', Fr (fun c _ => c = 24) t0 s' → (∀ x, gi s' 24 x = if b ≤ x ∧ x < b + N then gi t0 24 (a + (x - b)) else gi t0 24 x) → Ok (kt s') Q) → Ok (fX10_copy_L147 kt (nI N) (nI a) (nI b) n (nI k) s) Q := by
  intro m
  induction m with
  | zero =>
    intro k n s hk hn hf hd kk
    obtain ⟨n, rfl⟩ : ∃ n', n = n' + 1 := ⟨n - 1, by omega⟩
    unfold fX10_copy_L147
    refine ok_T (nI_le (by omega) (by omega)) ?_
    refine kk s hf (fun x => ?_)
    rw [hd x]
    by_cases e : b ≤ a
    · simp only [if_pos e, show k = N by omega]
    · simp only [if_neg e, show k = N by omega]
      by_cases q : b ≤ x ∧ x < b + N
      · rw [if_pos (by omega), if_pos q]
      · rw [if_neg (by omega), if_neg q]
  | succ m ih =>
    intro k n s hk hn hf hd kk
    obtain ⟨n, rfl⟩ : ∃ n', n = n' + 1 := ⟨n - 1, by omega⟩
    unfold fX10_copy_L147 fX10_copy_J173
    refine ok_F (nI_ge (by omega) (by omega)) ?_
    by_cases e : b ≤ a
    · refine ok_T (nI_le e (by omega)) ?_
      simp (disch := omega) only [ok_gd, ok_lz, nI_add, inb_n, true_and, nI_clamp, nI_1]
      refine ih (k + 1) n _ (by omega) (by omega) (Fr_si hf _ rfl) (fun x => ?_) kk
      simp only [if_pos e] at hd ⊢
      rw [gi_si]
      by_cases q : x = b + k
      · rw [if_pos ⟨rfl, q⟩, hd (a + k), if_neg (by omega), if_pos (by omega), q, show a + (b + k - b) = a + k by omega]
      · rw [if_neg (by omega), hd x]
        by_cases z : b ≤ x ∧ x < b + k
        · rw [if_pos z, if_pos (by omega)]
        · rw [if_neg z, if_neg (by omega)]
    · refine ok_F (nI_ge (by omega) (by omega)) ?_
      rw [q1]
      simp (disch := omega) only [pk_sub, ok_gd, ok_lz, nI_add, inb_n, true_and, nI_clamp]
      refine ih (k + 1) n _ (by omega) (by omega) (Fr_si hf _ rfl) (fun x => ?_) kk
      simp only [if_neg e] at hd ⊢
      rw [gi_si]
      by_cases q : x = b + (N - 1 - k)
      · rw [if_pos ⟨rfl, q⟩, hd (a + (N - 1 - k)), if_neg (by omega), if_pos (by omega), q, show a + (b + (N - 1 - k) - b) = a + (N - 1 - k) by omega]
      · rw [if_neg (by omega), hd x]
        by_cases z : b + N ≤ x + k ∧ x < b + N
        · rw [if_pos z, if_pos (by omega)]
        · rw [if_neg z, if_neg (by omega)]
theorem copy_end {σ τ : xM} {T : xTw} {n : Nat} (h : RT σ τ T n) {j o i k N : Nat} (hj : j < 4) (ho : o < 4) (hi : i + N ≤ 41) (hk : k + N ≤ 41) : Rel (some (nI N, scp σ (122 + 2 * j) i (122 + 2 * o) k N)) (fX10_copy_L147 (fun s31 => some (nI N, s31)) (nI N) (nI (41 * j + i)) (nI (41 * o + k)) fu (nI 0) τ) SimP := by
  obtain ⟨f, hf⟩ := fu_big
  rw [hf]
  refine rr_O (ol_mcopy (by omega) (by omega) τ N 0 (f + 4000) τ (by omega) (by omega) Fr_rf (fun x => ?_) (fun s' g w => rr_U (sim_R (RT_sh h (Fr_scp Fr_rf (fun x _ _ => by omega)) (Fr_mono g (fun c i q => by omega)) (fun p hp => ?_)) rfl)))
  · rw [if_neg]
    split
    · omega
    · omega
  · obtain ⟨v, m, u1, u2, u3, u4, u5, u6, u7⟩ := h.2.2.2.2.2.2.2.1 p hp
    refine ⟨v, m, u1, u2, ?_, ?_, ?_, ?_, fun x hx => ?_⟩
    · rw [gi_scp, if_neg (by omega)]; exact u3
    · rw [(g 22 p (by omega)).1]; exact u4
    · rw [gi_scp, if_neg (by omega)]; exact u5
    · rw [(g 23 p (by omega)).1]; exact u6
    · rw [gi_scp, w]
      by_cases e : p = o ∧ k ≤ x ∧ x < k + N
      · rw [if_pos (by omega), if_pos (by omega), show 41 * j + i + (41 * p + x - (41 * o + k)) = 41 * j + (i + (x - k)) by omega]
        obtain ⟨v2, m2, -, -, -, -, -, -, z7⟩ := h.2.2.2.2.2.2.2.1 j hj
        exact z7 _ (by omega)
      · rw [if_neg (by omega), if_neg (by omega)]
        exact u7 x hx
theorem sim_copy : xs_copy RR := by
  intro σ τ h a0 a1 a2 a3 a4
  refine sim_of ?_
  obtain ⟨T, n, h⟩ := h
  unfold fX9_copy fX10_copy
  simp only [e_isSheet9, e_in, bd_some]
  rcases rcase a0 (M := 3) (n := 3) rfl with c | ⟨c, j, hj, rfl⟩
  · simp only [c, ↓reduceIte]
    exact sim_R h rfl
  simp only [c, n10, ↓reduceIte]
  rcases rcase a2 (M := 3) (n := 3) rfl with d | ⟨d, o, ho, rfl⟩
  · simp only [d, ↓reduceIte]
    exact sim_R h rfl
  obtain ⟨v, m, u1, u2, u3, u4, u5, u6, u7⟩ := h.2.2.2.2.2.2.2.1 j (by omega)
  obtain ⟨w, k, z1, z2, z3, z4, z5, z6, z7⟩ := h.2.2.2.2.2.2.2.1 o (by omega)
  simp only [d, n10, ↓reduceIte]
  refine rl_G (inb_n (by omega) (by omega)) (rl_G (inb_n (by omega) (by omega)) (rr_G (inb_n (by omega) (by omega)) ?_))
  rw [nI_clamp (n := j) (by omega), nI_clamp (n := o) (by omega), e_isMissing, bd_some, u3, u4]
  by_cases e : v = -1
  · rw [if_pos e, if_neg n10, if_pos e]
    exact sim_R h rfl
  rw [if_neg e, if_pos rfl, if_neg e, e_isMissing, bd_some, z3]
  refine rr_G (inb_n (by omega) (by omega)) ?_
  rw [z4]
  by_cases f : w = -1
  · rw [if_pos f, if_neg n10, if_pos f]
    exact sim_R h rfl
  rw [if_neg f, if_pos rfl, if_neg f]
  refine rr_G (inb_n (by omega) (by omega)) (rr_G (inb_n (by omega) (by omega)) ?_)
  by_cases g : v = w
  rotate_left
  · rw [u3, if_neg g, if_neg g]
    exact sim_R h rfl
  rw [u3, if_pos g, if_pos g, e_holdsRow u5, bd_some, e_holdsRow z5, bd_some, u6, z6]
  have no : ∀ (C1 C2 : Prop) (d1 : Decidable C1) (d2 : Decidable C2) (X : Option (Int32 × xM)), (C1 ∨ C2) → (if (@ite _ C1 d1 (0 : Int32) 1) = 0 then some ((-12 : Int32), σ) else if (@ite _ C2 d2 (0 : Int32) 1) = 0 then some ((-12 : Int32), σ) else X) = some (-12, σ) := by
    intro C1 C2 d1 d2 X hC
    by_cases q : C1
    · rw [if_pos (by rw [if_pos q])]
    · rw [if_neg (by rw [if_neg q]; exact n10), if_pos (by rw [if_pos (hC.resolve_left q)])]
  by_cases b1 : a4 < 0
  · refine rr_T b1 ?_
    rw [no _ _ _ _ _ (Or.inl (Or.inr (Or.inl b1)))]
    exact sim_R h rfl
  refine rr_F b1 ?_
  by_cases b2 : a1 < 0
  · refine rr_T b2 ?_
    rw [no _ _ _ _ _ (Or.inl (Or.inl b2))]
    exact sim_R h rfl
  refine rr_F b2 ?_
  by_cases b3 : a3 < 0
  · refine rr_T b3 ?_
    rw [no _ _ _ _ _ (Or.inr (Or.inl b3))]
    exact sim_R h rfl
  refine rr_F b3 (rr_G (inb_n (by omega) (by omega)) ?_)
  by_cases b4 : nI m < a1
  · refine rr_T b4 ?_
    rw [no _ _ _ _ _ (Or.inl (Or.inr (Or.inr (Or.inl b4))))]
    exact sim_R h rfl
  refine rr_F b4 (rr_G (inb_n (by omega) (by omega)) ?_)
  by_cases b5 : nI k < a3
  · refine rr_T b5 ?_
    rw [no _ _ _ _ _ (Or.inr (Or.inr (Or.inr (Or.inl b5))))]
    exact sim_R h rfl
  refine rr_F b5 (rr_G (inb_n (by omega) (by omega)) ?_)
  by_cases b6 : nI m - a1 < a4
  · refine rr_T b6 ?_
    rw [no _ _ _ _ _ (Or.inl (Or.inr (Or.inr (Or.inr b6))))]
    exact sim_R h rfl
  refine rr_F b6 (rr_G (inb_n (by omega) (by omega)) ?_)
  obtain ⟨i, hi, rfl⟩ := nI_of b2
  obtain ⟨p, hp, rfl⟩ := nI_of b3
  obtain ⟨N, hN, rfl⟩ := nI_of b1
  have i1 : i ≤ m := Nat.not_lt.mp fun q => b4 (nI_lt q (by omega))
  have p1 : p ≤ k := Nat.not_lt.mp fun q => b5 (nI_lt q (by omega))
  rw [pk_sub i1] at b6
  have i2 : N ≤ m - i := Nat.not_lt.mp fun q => b6 (nI_lt q (by omega))
  by_cases b7 : nI N ≤ nI k - nI p
  rotate_left
  · refine rr_F b7 ?_
    have b7' : nI k - nI p < nI N := by
      rw [Int32.lt_iff_toInt_lt]
      rw [Int32.le_iff_toInt_le] at b7
      omega
    rw [no _ _ _ _ _ (Or.inr (Or.inr (Or.inr (Or.inr b7'))))]
    exact sim_R h rfl
  refine rr_T b7 ?_
  rw [pk_sub p1, nI_leI (by omega) (by omega)] at b7
  have C1 : ¬ (nI i < 0 ∨ nI N < 0 ∨ nI m < nI i ∨ nI m - nI i < nI N) := by
    rintro (q | q | q | q)
    · exact b2 q
    · exact b1 q
    · exact b4 q
    · rw [pk_sub i1] at q
      exact b6 q
  have C2 : ¬ (nI p < 0 ∨ nI N < 0 ∨ nI k < nI p ∨ nI k - nI p < nI N) := by
    rintro (q | q | q | q)
    · exact b3 q
    · exact b1 q
    · exact b5 q
    · rw [pk_sub p1] at q
      exact nI_nlt (by omega) (by omega) q
  have cp : cpb (nI i) (nI p) (nI N) 41 41 = true := by
    unfold cpb
    refine decide_eq_true ⟨b2, b3, b1, ?_, ?_⟩
    · rw [nI_clamp hi, nI_clamp hN]
      omega
    · rw [nI_clamp hp, nI_clamp hN]
      omega
  rw [q41]
  simp (disch := omega) only [C1, C2, n10, cp, ↓reduceIte, rl_gd, rl_lz, rr_lz, true_and, nI_clamp, pk_mul, nI_add]
  exact copy_end h (by omega) (by omega) (by omega) (by omega)
/-! ===== tripsBy ===== -/
theorem tripsBy_loop {j : Nat} (hj : j < 4) {a : Int32} {N : Nat} (hN : N ≤ 8) {nt : Nat} : ∀ (m k came f g : Nat) (σ τ : xM) (T : xTw), k + m = N → m < f → m < g → came ≤ k → RT σ τ T nt → (k = 0 ∨ ∃ a', a = nI a' ∧ a' + 4 * k ≤ 41) → Rel (fX9_tripsBy_L67 (fun s19 => some ((-12 : Int32), s19)) (fun x20 s21 => some (x20, s21)) a (nI N) j f (nI came) (nI k) σ) (fX10_tripsBy_L64 (fun s17 => some ((-12 : Int32), s17)) (fun x18 s19 => some (x18, s19)) (nI j) a (nI N) g (nI came) (nI k) τ) SimP := by
  intro m
  induction m with
  | zero =>
    intro k came f g σ τ T hk hf hg hc h ha
    obtain ⟨f, rfl⟩ : ∃ n', f = n' + 1 := ⟨f - 1, by omega⟩
    obtain ⟨g, rfl⟩ : ∃ n', g = n' + 1 := ⟨g - 1, by omega⟩
    unfold fX9_tripsBy_L67 fX10_tripsBy_L64
    have e : nI N ≤ nI k := nI_le (by omega) (by omega)
    exact rl_T e (rr_T e (sim_R h rfl))
  | succ m ih =>
    intro k came f g σ τ T hk hf hg hc h ha
    obtain ⟨f, rfl⟩ : ∃ n', f = n' + 1 := ⟨f - 1, by omega⟩
    obtain ⟨g, rfl⟩ : ∃ n', g = n' + 1 := ⟨g - 1, by omega⟩
    obtain ⟨v, M, u1, u2, u3, u4, u5, u6, u7⟩ := h.2.2.2.2.2.2.2.1 j hj
    unfold fX9_tripsBy_L67 fX10_tripsBy_L64
    have e : ¬ nI N ≤ nI k := nI_ge (by omega) (by omega)
    refine rl_F e (rr_F e ?_)
    refine rl_lz.mpr (rr_lz.mpr ?_)
    rw [q4, pk_mul, pk_mul, Nat.mul_comm k 4, e_holdsRow u5, bd_some]
    have out : ∀ A B : Prop, A → B → True := fun _ _ _ _ => trivial
    -- the place
    by_cases a0 : a < 0
    · rcases ha with rfl | ⟨a', rfl, h41⟩
      · have z : a + nI (4 * 0) = a := Int32.add_zero a
        rw [z]
        refine rl_T (by rw [if_pos (Or.inl a0)]) (rr_T a0 ?_)
        exact sim_R h rfl
      · exact absurd a0 (nI_pos (by omega))
    · obtain ⟨x, hx, rfl⟩ := nI_of a0
      have hx2 : k = 0 ∨ x + 4 * k ≤ 41 := by
        rcases ha with q | ⟨a', q, q2⟩
        · exact Or.inl q
        · rw [nI_eq hx (by omega)] at q
          omega
      rw [nI_add]
      have hy : x + 4 * k < 2 ^ 31 := by omega
      generalize hyx : x + 4 * k = y at *
      have y0 : ¬ nI y < 0 := nI_pos hy
      have yx : ¬ nI y < nI x := nI_nlt (by omega) hy
      refine rr_F a0 (rr_F yx (rr_G (inb_n hj (by omega)) ?_))
      rw [nI_clamp (n := j) (by omega), u6]
      have M4 : (nI M - nI 4).toInt = (M : Int) - 4 := pk_sub_toInt (by omega) (by omega)
      by_cases b : y + 4 ≤ M
      · have C : ¬ (nI y < 0 ∨ nI 4 < 0 ∨ nI M < nI y ∨ nI M - nI y < nI 4) := by
          rintro (q | q | q | q)
          · exact y0 q
          · exact nI_pos (by omega) q
          · exact nI_nlt (by omega) (by omega) q
          · rw [pk_sub (by omega)] at q
            exact nI_nlt (by omega) (by omega) q
        have D : nI y ≤ nI M - nI 4 := by
          rw [Int32.le_iff_toInt_le, M4, nI_toInt hy]
          omega
        refine rl_F (by rw [if_neg C]; exact n10) (rr_T D ?_)
        rw [q41, q1, q2, q3]
        simp (disch := omega) only [pk_mul, nI_add, rl_gd, rr_gd, rr_lz, inb_n, true_and, nI_clamp]
        have w0 := u7 y (by omega)
        have w1 := u7 (y + 1) (by omega)
        have w2 := u7 (y + 2) (by omega)
        have w3 := u7 (y + 3) (by omega)
        rw [w0, w1, w2, w3, ← Nat.add_assoc, ← Nat.add_assoc, ← Nat.add_assoc]
        refine rel_BB (rel_trip h _ _ _ _ (fun r hr => ?_) (fun σ' τ' T' i hi h' _ _ => ?_))
        · have r0 : r < 0 := by
            rcases hr with rfl | rfl
            · decide
            · decide
          refine rl_T r0 (rr_T r0 ?_)
          refine rr_lz.mpr ?_
          rw [show nI came + (0 : Int32) = nI came from Int32.add_zero _]
          exact ih (k + 1) came f g σ τ T (by omega) (by omega) (by omega) (by omega) h (Or.inr ⟨x, rfl, by omega⟩)
        · have r0 : ¬ nI i < 0 := nI_pos (by omega)
          refine rl_F r0 (rr_F r0 ?_)
          refine rr_lz.mpr ?_
          exact ih (k + 1) (came + 1) f g σ' τ' T' (by omega) (by omega) (by omega) (by omega) h' (Or.inr ⟨x, rfl, by omega⟩)
      · have C : nI y < 0 ∨ nI 4 < 0 ∨ nI M < nI y ∨ nI M - nI y < nI 4 := by
          by_cases q : y ≤ M
          · refine Or.inr (Or.inr (Or.inr ?_))
            rw [pk_sub q]
            exact nI_lt (by omega) (by omega)
          · exact Or.inr (Or.inr (Or.inl (nI_lt (by omega) hy)))
        have D : ¬ nI y ≤ nI M - nI 4 := by
          rw [Int32.le_iff_toInt_le, M4, nI_toInt hy]
          omega
        refine rl_T (by rw [if_pos C]) (rr_F D ?_)
        exact sim_R h rfl
theorem sim_tripsBy : xs_tripsBy RR := by
  intro σ τ h a0 a1 a2 a3
  refine sim_of ?_
  obtain ⟨T, n, h⟩ := h
  unfold fX9_tripsBy fX10_tripsBy
  simp only [e_isSheet9, e_isWithin, e_in, bd_some]
  rcases rcase a0 (M := 3) (n := 3) rfl with c | ⟨c, j, hj, rfl⟩
  · simp only [c, ↓reduceIte]
    exact sim_R h rfl
  simp only [c, n10, ↓reduceIte]
  by_cases d : a1 < 0 ∨ 2 < a1
  · simp only [d, ↓reduceIte]
    exact sim_R h rfl
  simp only [d, n10, ↓reduceIte]
  rcases rcase a3 (M := 8) (n := 8) rfl with e | ⟨e, N, hN, rfl⟩
  · simp only [e, ↓reduceIte]
    exact sim_R h rfl
  obtain ⟨v, m, u1, u2, u3, u4, u5, u6, u7⟩ := h.2.2.2.2.2.2.2.1 j (by omega)
  simp (disch := omega) only [e, n10, ↓reduceIte, rl_gd, rr_gd, inb_n, nI_clamp, true_and, e_isMissing, bd_some, u3, u4]
  by_cases f : v = -1
  · simp only [f, n10, ↓reduceIte]
    exact sim_R h rfl
  simp only [f, ↓reduceIte]
  by_cases g : v = a1
  · simp only [g, ↓reduceIte]
    obtain ⟨f, hf⟩ := fu_big
    rw [hf, show (0 : Int32) = nI 0 from rfl]
    exact tripsBy_loop (by omega) hN N 0 0 (f + 4000) (f + 4000) σ τ T (by omega) (by omega) (by omega) (Nat.le_refl _) h (Or.inl rfl)
  · simp only [g, ↓reduceIte]
    exact sim_R h rfl
