/-! ===== back ===== -/
/-- the town as an image has it -/
def backT (T I : xTw) : xTw := fun c i => if c = 0 ∧ i ≠ 4 then I c i else if c = 1 ∨ c = 2 then I c i else if 7 ≤ c ∧ c ≤ 9 ∧ i < I 0 4 then I c i else T c i
theorem backT_rg {T I : xTw} (hR : rgT T) (hI : rgT I) : rgT (backT T I) := by
  refine ⟨fun c i hv => ?_, ?_⟩
  · unfold backT
    repeat' split
    all_goals first | exact hI.1 c i hv | exact hR.1 c i hv
  · exact hI.2
theorem backT_0 {T I : xTw} {i : Nat} (h : i ≠ 4) : backT T I 0 i = I 0 i := if_pos ⟨rfl, h⟩
theorem backT_04 {T I : xTw} : backT T I 0 4 = T 0 4 := by
  unfold backT
  rw [if_neg (by omega), if_neg (by omega), if_neg (by omega)]
theorem backT_12 {T I : xTw} {c i : Nat} (h : c = 1 ∨ c = 2) : backT T I c i = I c i := by
  unfold backT
  rw [if_neg (by omega), if_pos h]
theorem backT_in {T I : xTw} {c i : Nat} (h1 : 7 ≤ c) (h2 : c ≤ 9) (h3 : i < I 0 4) : backT T I c i = I c i := by
  unfold backT
  rw [if_neg (by omega), if_neg (by omega), if_pos ⟨h1, h2, h3⟩]
theorem backT_out {T I : xTw} {c i : Nat} (h0 : 3 ≤ c) (h : ¬ (7 ≤ c ∧ c ≤ 9 ∧ i < I 0 4)) : backT T I c i = T c i := by
  unfold backT
  rw [if_neg (by omega), if_neg (by omega), if_neg h]
/-- the class's town after, from its pieces -/
theorem back_xTn {σ σ' : xM} {T I : xTw} (hT : xTn σ T) (hI : I 0 4 ≤ 8) (a2 : gi σ' 1 4 = nI (I 0 2)) (a3 : gi σ' 1 5 = nI (I 0 3)) (a4 : gi σ' 1 7 = gi σ 1 7) (a12 : gi σ' 1 9 = nI (I 0 12)) (b : ∀ i, i < 41 → gi σ' 2 i = nI (I 1 i)) (d : ∀ k w, k < 3 → w < 6 → gi σ' (6 + k) w = nI (I 2 (6 * k + w))) (e : ∀ p, p < I 0 4 → gi σ' (11 + p) 5 = nI (I 7 p) ∧ gi σ' (11 + p) 6 = nI (I 8 p) ∧ gi σ' (11 + p) 7 = nI (I 9 p)) (f : ∀ p x, p < 8 → (¬ (5 ≤ x ∧ x ≤ 7) ∨ I 0 4 ≤ p) → gi σ' (11 + p) x = gi σ (11 + p) x) (g : ∀ t x, gi σ' (19 + t) x = gi σ (19 + t) x) : xTn σ' (backT T I) := by
  intro c i hv
  rcases xl_cases hv with ⟨rfl, q1, q⟩ | ⟨rfl, q1, q2, q3⟩ | ⟨rfl, q1, q2, q3⟩ | ⟨rfl, q1, q2, q3⟩ | ⟨q0, q9, q1, q2, q3⟩ | ⟨q0, q9, q1, q2, q3⟩
  · rw [q1]
    rcases q with ⟨rfl, q⟩ | ⟨rfl, q⟩ | ⟨rfl, q⟩ | ⟨rfl, q⟩
    · rw [q, backT_0 (by omega)]; exact a2
    · rw [q, backT_0 (by omega)]; exact a3
    · rw [q, backT_04, a4]; exact xT_stops hT
    · rw [q, backT_0 (by omega)]; exact a12
  · rw [q2, q3, backT_12 (Or.inl rfl)]
    exact b i q1
  · rw [q2, q3, backT_12 (Or.inr rfl)]
    have h := d (i / 6) (i % 6) (by omega) (by omega)
    rw [show 6 * (i / 6) + i % 6 = i by omega] at h
    exact h
  · have h := hT 3 i hv
    rw [q2, q3] at h ⊢
    rw [backT_out (by omega) (by omega), f i 0 q1 (by omega)]
    exact h
  · by_cases z : 7 ≤ c ∧ i < I 0 4
    · rw [q2, q3, backT_in z.1 q9 z.2]
      have h := e i z.2
      rcases (show c = 7 ∨ c = 8 ∨ c = 9 by omega) with rfl | rfl | rfl
      · exact h.1
      · exact h.2.1
      · exact h.2.2
    · have h := hT c i hv
      rw [q2, q3] at h ⊢
      rw [backT_out (by omega) (by omega), f i (c - 2) q1 (by omega)]
      exact h
  · have h := hT c i hv
    rw [q2, q3] at h ⊢
    rw [backT_out (by omega) (by omega), g]
    exact h
theorem back_mTn {τ τ' : xM} {T I : xTw} (hT : mTn τ T) (a2 : gi τ' 0 2 = nI (I 0 2)) (a3 : gi τ' 0 3 = nI (I 0 3)) (a4 : gi τ' 0 4 = gi τ 0 4) (a12 : gi τ' 0 12 = nI (I 0 12)) (b : ∀ i, i < 41 → gi τ' 1 i = nI (I 1 i)) (d : ∀ i, i < 18 → gi τ' 2 i = nI (I 2 i)) (e : ∀ p, p < I 0 4 → gi τ' 7 p = nI (I 7 p) ∧ gi τ' 8 p = nI (I 8 p) ∧ gi τ' 9 p = nI (I 9 p)) (f : ∀ c p, 3 ≤ c → c ≤ 13 → (¬ (7 ≤ c ∧ c ≤ 9) ∨ I 0 4 ≤ p) → gi τ' c p = gi τ c p) : mTn τ' (backT T I) := by
  intro c i hv
  have h := hT c i hv
  unfold vT at hv
  rcases hv with ⟨rfl, rfl | rfl | rfl | rfl⟩ | ⟨rfl, q⟩ | ⟨rfl, q⟩ | ⟨q1, q2, q3⟩
  · rw [backT_0 (by omega)]; exact a2
  · rw [backT_0 (by omega)]; exact a3
  · rw [backT_04, a4]; exact h
  · rw [backT_0 (by omega)]; exact a12
  · rw [backT_12 (Or.inl rfl)]; exact b i q
  · rw [backT_12 (Or.inr rfl)]; exact d i q
  · by_cases z : 7 ≤ c ∧ c ≤ 9 ∧ i < I 0 4
    · rw [backT_in z.1 z.2.1 z.2.2]
      have hh := e i z.2.2
      rcases (show c = 7 ∨ c = 8 ∨ c = 9 by omega) with rfl | rfl | rfl
      · exact hh.1
      · exact hh.2.1
      · exact hh.2.2
    · rw [backT_out (by omega) z, f c i q1 q2 (by omega)]
      exact h
/-! the class's way back -/
theorem ol_back21 {I : xTw} {kt : xM → Option (Int32 × xM)} {Q : Int32 → xM → Prop} : ∀ (m k n : Nat) (s : xM), k + m = 3 → m < n → (∀ j w, j < 3 → w < 6 → gi s (84 + j) w = nI (I 2 (6 * j + w))) → (∀ j w, j < k → w < 6 → gi s (6 + j) w = nI (I 2 (6 * j + w))) → (∀ s', Fr (fun c _ => 6 ≤ c ∧ c ≤ 8) s s' → (∀ j w, j < 3 → w < 6 → gi s' (6 + j) w = nI (I 2 (6 * j + w))) → Ok (kt s') Q) → Ok (fX0_giveBack_L21 kt n (nI k) s) Q := by
  intro m
  induction m with
  | zero =>
    intro k n s hk hn hs hd kk
    obtain ⟨n, rfl⟩ : ∃ n', n = n' + 1 := ⟨n - 1, by omega⟩
    unfold fX0_giveBack_L21
    refine ok_T (nI_le (a := 3) (by omega) (by omega)) ?_
    exact kk s Fr_rf (fun j w hj hw => hd j w (by omega) hw)
  | succ m ih =>
    intro k n s hk hn hs hd kk
    obtain ⟨n, rfl⟩ : ∃ n', n = n' + 1 := ⟨n - 1, by omega⟩
    unfold fX0_giveBack_L21
    refine ok_F (nI_ge (b := 3) (by omega) (by omega)) ?_
    simp (disch := omega) only [ok_gd, inb_n, true_and, nI_clamp, nI_1]
    refine ⟨by decide, ok_lz.mpr ?_⟩
    show Ok (fX0_giveBack_L21 kt n (nI (k + 1)) (scp s (84 + k) 0 (6 + k) 0 6)) Q
    have f1 : Fr (fun c _ => 6 ≤ c ∧ c ≤ 8) s (scp s (84 + k) 0 (6 + k) 0 6) := Fr_scp Fr_rf (fun i _ _ => by omega)
    refine ih (k + 1) n _ (by omega) (by omega) (fun j w hj hw => ?_) (fun j w hj hw => ?_) (fun s' f => kk s' (Fr_tr f1 f))
    · rw [(f1 (84 + j) w (by omega)).1]
      exact hs j w hj hw
    · rw [gi_scp]
      by_cases e : j = k
      · rw [if_pos (by omega), e, Nat.zero_add, Nat.sub_zero]
        exact hs k w (by omega) hw
      · rw [if_neg (by omega)]
        exact hd j w (by omega) hw
def frO (N c i : Nat) : Prop := 11 ≤ c ∧ c < 11 + N ∧ 5 ≤ i ∧ i ≤ 7
theorem ol_back69 {I : xTw} (hI : rgT I) {kt : xM → Option (Int32 × xM)} {Q : Int32 → xM → Prop} : ∀ (m p n : Nat) (s : xM), p + m = I 0 4 → m < n → gi s 81 6 = nI (I 0 4) → (∀ j, j < I 0 4 → gi s 87 j = nI (I 7 j) ∧ gi s 88 j = nI (I 8 j) ∧ gi s 89 j = nI (I 9 j)) → (∀ j, j < p → gi s (11 + j) 5 = nI (I 7 j) ∧ gi s (11 + j) 6 = nI (I 8 j) ∧ gi s (11 + j) 7 = nI (I 9 j)) → (∀ s', Fr (frO (I 0 4)) s s' → (∀ j, j < I 0 4 → gi s' (11 + j) 5 = nI (I 7 j) ∧ gi s' (11 + j) 6 = nI (I 8 j) ∧ gi s' (11 + j) 7 = nI (I 9 j)) → Ok (kt s') Q) → Ok (fX0_giveBack_L69 kt n (nI p) s) Q := by
  have h8 := rg_stops hI
  intro m
  induction m with
  | zero =>
    intro p n s hp hn h6 hs hd kk
    obtain ⟨n, rfl⟩ : ∃ n', n = n' + 1 := ⟨n - 1, by omega⟩
    unfold fX0_giveBack_L69
    refine ok_T (by rw [h6]; exact nI_le (by omega) (by omega)) ?_
    exact kk s Fr_rf (fun j hj => hd j (by omega))
  | succ m ih =>
    intro p n s hp hn h6 hs hd kk
    obtain ⟨n, rfl⟩ : ∃ n', n = n' + 1 := ⟨n - 1, by omega⟩
    have hp8 : p < 8 := by omega
    have o := rg_open hI hp8
    have z : isZ (nI (I 7 p)) = true := by
      rcases (show I 7 p = 0 ∨ I 7 p = 1 by omega) with e | e
      · rw [e]; exact isZ0
      · rw [e]; exact isZ1
    have hp2 := hs p (by omega)
    unfold fX0_giveBack_L69
    refine ok_F (by rw [h6]; exact nI_ge (by omega) (by omega)) ?_
    simp (disch := omega) only [ok_gd, ok_lz, inb_n, true_and, nI_clamp, nI_1, hp2.1, z]
    have f1 : Fr (frO (I 0 4)) s (si s (11 + p) 5 (nI (I 7 p))) := Fr_si Fr_rf _ ⟨by omega, by omega, by omega, by omega⟩
    rw [(f1 88 p (by unfold frO; omega)).1, hp2.2.1]
    have f2 := Fr_si f1 (c := 11 + p) (i := 6) (nI (I 8 p)) ⟨by omega, by omega, by omega, by omega⟩
    rw [(f2 89 p (by unfold frO; omega)).1, hp2.2.2]
    have f3 := Fr_si f2 (c := 11 + p) (i := 7) (nI (I 9 p)) ⟨by omega, by omega, by omega, by omega⟩
    refine ih (p + 1) n _ (by omega) (by omega) (by rw [(f3 81 6 (by unfold frO; omega)).1]; exact h6) (fun j hj => ?_) (fun j hj => ?_) (fun s' f => kk s' (Fr_tr f3 f))
    · rw [(f3 87 j (by unfold frO; omega)).1, (f3 88 j (by unfold frO; omega)).1, (f3 89 j (by unfold frO; omega)).1]
      exact hs j hj
    · by_cases e : j = p
      · subst e
        refine ⟨?_, ?_, gi_same _ _ _ _⟩
        · rw [gi_si, if_neg (by omega), gi_si, if_neg (by omega), gi_same]
        · rw [gi_si, if_neg (by omega), gi_same]
      · have g := hd j (by omega)
        refine ⟨?_, ?_, ?_⟩
        · rw [gi_si, if_neg (by omega), gi_si, if_neg (by omega), gi_si, if_neg (by omega)]
          exact g.1
        · rw [gi_si, if_neg (by omega), gi_si, if_neg (by omega), gi_si, if_neg (by omega)]
          exact g.2.1
        · rw [gi_si, if_neg (by omega), gi_si, if_neg (by omega), gi_si, if_neg (by omega)]
          exact g.2.2
def frH (c i : Nat) : Prop := (1 ≤ c ∧ c ≤ 8 ∧ ¬ (c = 1 ∧ i = 7)) ∨ (11 ≤ c ∧ c ≤ 18 ∧ 5 ≤ i ∧ i ≤ 7)
theorem of_giveBack {T I : xTw} (hR : rgT T) (hI : rgT I) {s : xM} {Q : Int32 → xM → Prop} (hX : xCT s T) (hi : imgX s I) (kk : ∀ s', Fr frH s s' → xCT s' (backT T I) → Q 0 s') : Ok (fX0_giveBack s) Q := by
  obtain ⟨i1, i2, i3, i4, i5, i6, i7⟩ := hi
  have h8 := rg_stops hI
  obtain ⟨f, hf⟩ := fu_big
  let T1 : xTw := fun c i => if c = 1 then I 1 i else T c i
  have t1 : ∀ c i, c ≠ 1 → T1 c i = T c i := fun c i q => if_neg q
  have hR1 : rgT T1 := by
    refine ⟨fun c i hv => ?_, by rw [t1 0 2 (by omega)]; exact hR.2⟩
    by_cases e : c = 1
    · subst e
      exact hI.1 1 i hv
    · rw [t1 c i e]
      exact hR.1 c i hv
  unfold fX0_giveBack
  simp only [ok_lz, ok_gd]
  refine ⟨by decide, ?_⟩
  show Ok (bd (fX6_measureClimbs (scp s 82 0 2 0 41)) _) Q
  have g1 : Fr frH s (scp s 82 0 2 0 41) := Fr_scp Fr_rf (fun i _ _ => Or.inl ⟨by omega, by omega, by omega⟩)
  have c2 : ∀ i, i < 41 → gi (scp s 82 0 2 0 41) 2 i = nI (I 1 i) := fun i hi => by
    rw [gi_scp, if_pos (by omega), Nat.zero_add, Nat.sub_zero]
    exact i5 i hi
  have hT1 : xTn (scp s 82 0 2 0 41) T1 := by
    intro c i hv
    by_cases e : c = 1
    · subst e
      have a := xl_cases hv
      rw [show xlc 1 i = 2 from rfl, show xlp 1 i = i from rfl]
      exact c2 i (by omega)
    · have a := xl_cases hv
      rw [t1 c i e, gi_scp, if_neg (by omega)]
      exact hX.1 c i hv
  have z := hX.2.2 0 (by omega)
  refine ok_B (of_measureClimbs hR1 hT1 (by rw [gi_scp, if_neg (by omega)]; exact z.1) (by rw [gi_scp, if_neg (by omega)]; exact z.2) (fun s2 f2 cl => ?_))
  have g2 : Fr frH s s2 := Fr_tr g1 (Fr_mono f2 (fun c i q => Or.inl ⟨by omega, by omega, by omega⟩))
  rw [hf]
  refine ol_back21 (I := I) 3 0 (f + 4000) s2 (by omega) (by omega) (fun j w hj hw => by rw [(g2 (84 + j) w (by unfold frH; omega)).1]; exact i6 j w hj hw) (fun j w hj => absurd hj (Nat.not_lt_zero _)) (fun s3 f3 w3 => ?_)
  have g3 : Fr frH s s3 := Fr_tr g2 (Fr_mono f3 (fun c i q => Or.inl ⟨by omega, by omega, by omega⟩))
  simp only [ok_lz]
  rw [(g3 81 4 (by unfold frH; omega)).1, i1]
  have g4 := Fr_si g3 (c := 1) (i := 4) (nI (I 0 2)) (Or.inl ⟨by omega, by omega, by omega⟩)
  rw [(g4 81 5 (by unfold frH; omega)).1, i2]
  have g5 := Fr_si g4 (c := 1) (i := 5) (nI (I 0 3)) (Or.inl ⟨by omega, by omega, by omega⟩)
  refine ol_back69 hI (I 0 4) 0 (f + 4000) _ (by omega) (by omega) (by rw [(g5 81 6 (by unfold frH; omega)).1]; exact i3) (fun j hj => ?_) (fun j hj => absurd hj (Nat.not_lt_zero _)) (fun s6 f6 w6 => ?_)
  · rw [(g5 87 j (by unfold frH; omega)).1, (g5 88 j (by unfold frH; omega)).1, (g5 89 j (by unfold frH; omega)).1]
    exact i7 j hj
  · have g6 : Fr frH s s6 := Fr_tr g5 (Fr_mono f6 (fun c i q => by unfold frO at q; unfold frH; omega))
    rw [(g6 81 10 (by unfold frH; omega)).1, i4]
    have g7 := Fr_si g6 (c := 1) (i := 9) (nI (I 0 12)) (Or.inl ⟨by omega, by omega, by omega⟩)
    refine ok_R (kk _ g7 ⟨back_xTn hX.1 h8 ?_ ?_ ?_ (gi_same _ _ _ _) (fun i hi => ?_) (fun k w hk hw => ?_) (fun p hp => ?_) (fun p x hp hx => ?_) (fun t x => (g7 _ _ (by unfold frH; omega)).1), fun p hp => ?_, fun c hc => ?_⟩)
    · rw [gi_si, if_neg (by omega), (f6 1 4 (by unfold frO; omega)).1, gi_si, if_neg (by omega), gi_same]
    · rw [gi_si, if_neg (by omega), (f6 1 5 (by unfold frO; omega)).1, gi_same]
    · exact (g7 1 7 (by unfold frH; omega)).1
    · rw [gi_si, if_neg (by omega), (f6 2 i (by unfold frO; omega)).1, gi_si, if_neg (by omega), gi_si, if_neg (by omega), (f3 2 i (by omega)).1, (f2 2 i (by omega)).1]
      exact c2 i hi
    · rw [gi_si, if_neg (by omega), (f6 (6 + k) w (by unfold frO; omega)).1, gi_si, if_neg (by omega), gi_si, if_neg (by omega)]
      exact w3 k w hk hw
    · rw [gi_si, if_neg (by omega), gi_si, if_neg (by omega), gi_si, if_neg (by omega)]
      exact w6 p hp
    · rw [gi_si, if_neg (by omega), (f6 (11 + p) x (by unfold frO; omega)).1, gi_si, if_neg (by omega), gi_si, if_neg (by omega), (f3 (11 + p) x (by omega)).1, (f2 (11 + p) x (by omega)).1, gi_scp, if_neg (by omega)]
    · rw [backT_out (by omega) (by omega), (g7 (11 + p) 1 (by unfold frH; omega)).1]
      exact hX.2.1 p hp
    · rw [ups_cg (T := T1) (T' := backT T I) (fun i => show backT T I 1 i = I 1 i from backT_12 (Or.inl rfl)), dns_cg (T := T1) (T' := backT T I) (fun i => show backT T I 1 i = I 1 i from backT_12 (Or.inl rfl))]
      rw [gi_si, if_neg (by omega), gi_si, if_neg (by omega), (f6 3 c (by unfold frO; omega)).1, (f6 4 c (by unfold frO; omega)).1, gi_si, if_neg (by omega), gi_si, if_neg (by omega), gi_si, if_neg (by omega), gi_si, if_neg (by omega), (f3 3 c (by omega)).1, (f3 4 c (by omega)).1]
      exact cl c hc
/-! the model's way back -/
theorem ol_mback44 {I : xTw} {kt : xM → Option (Int32 × xM)} {Q : Int32 → xM → Prop} : ∀ (m k n : Nat) (s : xM), k + m = 41 → m < n → (∀ j, j < 41 → gi s 17 j = nI (I 1 j)) → (∀ j, j < k → gi s 1 j = nI (I 1 j)) → (∀ s', Fr (fun c _ => c = 1) s s' → (∀ j, j < 41 → gi s' 1 j = nI (I 1 j)) → Ok (kt s') Q) → Ok (fX10_back_L44 kt n (nI k) s) Q := by
  intro m
  induction m with
  | zero =>
    intro k n s hk hn hs hd kk
    obtain ⟨n, rfl⟩ : ∃ n', n = n' + 1 := ⟨n - 1, by omega⟩
    unfold fX10_back_L44
    refine ok_T (nI_lt (a := 40) (by omega) (by omega)) ?_
    exact kk s Fr_rf (fun j hj => hd j (by omega))
  | succ m ih =>
    intro k n s hk hn hs hd kk
    obtain ⟨n, rfl⟩ : ∃ n', n = n' + 1 := ⟨n - 1, by omega⟩
    unfold fX10_back_L44
    refine ok_F (nI_nlt (a := 40) (by omega) (by omega)) ?_
    simp (disch := omega) only [ok_gd, ok_lz, inb_n, true_and, nI_clamp, nI_1]
    rw [hs k (by omega)]
    have f1 : Fr (fun c _ => c = 1) s (si s 1 k (nI (I 1 k))) := Fr_si Fr_rf _ rfl
    refine ih (k + 1) n _ (by omega) (by omega) (fun j hj => by rw [(f1 17 j (by omega)).1]; exact hs j hj) (fun j hj => ?_) (fun s' f => kk s' (Fr_tr f1 f))
    rw [gi_si]
    by_cases e : j = k
    · rw [if_pos ⟨rfl, e⟩, e]
    · rw [if_neg (by omega)]
      exact hd j (by omega)
theorem ol_mback70 {I : xTw} {kt : xM → Option (Int32 × xM)} {Q : Int32 → xM → Prop} : ∀ (m k n : Nat) (s : xM), k + m = 18 → m < n → (∀ j, j < 18 → gi s 18 j = nI (I 2 j)) → (∀ j, j < k → gi s 2 j = nI (I 2 j)) → (∀ s', Fr (fun c _ => c = 2) s s' → (∀ j, j < 18 → gi s' 2 j = nI (I 2 j)) → Ok (kt s') Q) → Ok (fX10_back_L70 kt n (nI k) s) Q := by
  intro m
  induction m with
  | zero =>
    intro k n s hk hn hs hd kk
    obtain ⟨n, rfl⟩ : ∃ n', n = n' + 1 := ⟨n - 1, by omega⟩
    unfold fX10_back_L70
    refine ok_T (nI_le (a := 18) (by omega) (by omega)) ?_
    exact kk s Fr_rf (fun j hj => hd j (by omega))
  | succ m ih =>
    intro k n s hk hn hs hd kk
    obtain ⟨n, rfl⟩ : ∃ n', n = n' + 1 := ⟨n - 1, by omega⟩
    unfold fX10_back_L70
    refine ok_F (nI_ge (b := 18) (by omega) (by omega)) ?_
    simp (disch := omega) only [ok_gd, ok_lz, inb_n, true_and, nI_clamp, nI_1]
    rw [hs k (by omega)]
    have f1 : Fr (fun c _ => c = 2) s (si s 2 k (nI (I 2 k))) := Fr_si Fr_rf _ rfl
    refine ih (k + 1) n _ (by omega) (by omega) (fun j hj => by rw [(f1 18 j (by omega)).1]; exact hs j hj) (fun j hj => ?_) (fun s' f => kk s' (Fr_tr f1 f))
    rw [gi_si]
    by_cases e : j = k
    · rw [if_pos ⟨rfl, e⟩, e]
    · rw [if_neg (by omega)]
      exact hd j (by omega)
def frP (N c i : Nat) : Prop := 7 ≤ c ∧ c ≤ 9 ∧ i < N
theorem ol_mback96 {I : xTw} (h8 : I 0 4 ≤ 8) {kt : xM → Option (Int32 × xM)} {Q : Int32 → xM → Prop} : ∀ (m k n : Nat) (s : xM), k + m = I 0 4 → m < n → gi s 0 24 = nI (I 0 4) → (∀ j, j < I 0 4 → gi s 19 j = nI (I 7 j) ∧ gi s 20 j = nI (I 8 j) ∧ gi s 21 j = nI (I 9 j)) → (∀ j, j < k → gi s 7 j = nI (I 7 j) ∧ gi s 8 j = nI (I 8 j) ∧ gi s 9 j = nI (I 9 j)) → (∀ s', Fr (frP (I 0 4)) s s' → (∀ j, j < I 0 4 → gi s' 7 j = nI (I 7 j) ∧ gi s' 8 j = nI (I 8 j) ∧ gi s' 9 j = nI (I 9 j)) → Ok (kt s') Q) → Ok (fX10_back_L96 kt n (nI k) s) Q := by
  intro m
  induction m with
  | zero =>
    intro k n s hk hn h0 hs hd kk
    obtain ⟨n, rfl⟩ : ∃ n', n = n' + 1 := ⟨n - 1, by omega⟩
    unfold fX10_back_L96
    refine ok_T (by rw [h0]; exact nI_le (by omega) (by omega)) ?_
    exact kk s Fr_rf (fun j hj => hd j (by omega))
  | succ m ih =>
    intro k n s hk hn h0 hs hd kk
    obtain ⟨n, rfl⟩ : ∃ n', n = n' + 1 := ⟨n - 1, by omega⟩
    have hk8 : k < 8 := by omega
    have hp2 := hs k (by omega)
    unfold fX10_back_L96
    refine ok_F (by rw [h0]; exact nI_ge (by omega) (by omega)) ?_
    simp (disch := omega) only [ok_gd, ok_lz, inb_n, true_and, nI_clamp, nI_1, hp2.1]
    have f1 : Fr (frP (I 0 4)) s (si s 7 k (nI (I 7 k))) := Fr_si Fr_rf _ ⟨by omega, by omega, by omega⟩
    rw [(f1 20 k (by unfold frP; omega)).1, hp2.2.1]
    have f2 := Fr_si f1 (c := 8) (i := k) (nI (I 8 k)) ⟨by omega, by omega, by omega⟩
    rw [(f2 21 k (by unfold frP; omega)).1, hp2.2.2]
    have f3 := Fr_si f2 (c := 9) (i := k) (nI (I 9 k)) ⟨by omega, by omega, by omega⟩
    refine ih (k + 1) n _ (by omega) (by omega) (by rw [(f3 0 24 (by unfold frP; omega)).1]; exact h0) (fun j hj => ?_) (fun j hj => ?_) (fun s' f => kk s' (Fr_tr f3 f))
    · rw [(f3 19 j (by unfold frP; omega)).1, (f3 20 j (by unfold frP; omega)).1, (f3 21 j (by unfold frP; omega)).1]
      exact hs j hj
    · by_cases e : j = k
      · subst e
        refine ⟨?_, ?_, gi_same _ _ _ _⟩
        · rw [gi_si, if_neg (by omega), gi_si, if_neg (by omega), gi_same]
        · rw [gi_si, if_neg (by omega), gi_same]
      · have g := hd j (by omega)
        refine ⟨?_, ?_, ?_⟩
        · rw [gi_si, if_neg (by omega), gi_si, if_neg (by omega), gi_si, if_neg (by omega)]
          exact g.1
        · rw [gi_si, if_neg (by omega), gi_si, if_neg (by omega), gi_si, if_neg (by omega)]
          exact g.2.1
        · rw [gi_si, if_neg (by omega), gi_si, if_neg (by omega), gi_si, if_neg (by omega)]
          exact g.2.2
def frMb (c i : Nat) : Prop := (c = 0 ∧ (i = 2 ∨ i = 3 ∨ i = 12 ∨ i = 22)) ∨ c = 1 ∨ c = 2 ∨ (7 ≤ c ∧ c ≤ 9)
theorem of_mback {T I : xTw} (h8 : I 0 4 ≤ 8) {s : xM} {Q : Int32 → xM → Prop} (h1 : gi s 0 23 = 1) (hT : mTn s T) (hi : imgM s I) (kk : ∀ s', Fr frMb s s' → mTn s' (backT T I) → gi s' 0 22 = gi s 0 28 → Q (nI (T 0 4)) s') : Ok (fX10_back s) Q := by
  obtain ⟨i1, i2, i3, i4, i5, i6, i7⟩ := hi
  obtain ⟨f, hf⟩ := fu_big
  unfold fX10_back
  refine ok_F (by rw [h1]; decide) ?_
  simp only [ok_lz]
  rw [hf]
  have n1 : ∀ (s1 : xM) (i j : Nat) (v : Int32), i ≠ j → gi (si s1 0 i v) 0 j = gi s1 0 j := fun s1 i j v q => by rw [gi_si, if_neg (by omega)]
  simp (disch := decide) only [n1]
  rw [i1, i2, i4]
  have f1 : Fr frMb s (si (si (si (si s 0 12 (nI (I 0 12))) 0 2 (nI (I 0 2))) 0 3 (nI (I 0 3))) 0 22 (gi s 0 28)) := by
    refine Fr_si (Fr_si (Fr_si (Fr_si Fr_rf _ ?_) _ ?_) _ ?_) _ ?_
    all_goals exact Or.inl ⟨rfl, by omega⟩
  refine ol_mback44 (I := I) 41 0 (f + 4000) _ (by omega) (by omega) (fun j hj => by rw [(f1 17 j (by unfold frMb; omega)).1]; exact i5 j hj) (fun j hj => absurd hj (Nat.not_lt_zero _)) (fun s2 f2 w2 => ?_)
  have g2 : Fr frMb s s2 := Fr_tr f1 (Fr_mono f2 (fun c i q => Or.inr (by omega)))
  refine ol_mback70 (I := I) 18 0 (f + 4000) _ (by omega) (by omega) (fun j hj => ?_) (fun j hj => absurd hj (Nat.not_lt_zero _)) (fun s3 f3 w3 => ?_)
  · rw [(g2 18 j (by unfold frMb; omega)).1]
    have h := i6 (j / 6) (j % 6) (by omega) (by omega)
    rw [show 6 * (j / 6) + j % 6 = j by omega] at h
    exact h
  have g3 : Fr frMb s s3 := Fr_tr g2 (Fr_mono f3 (fun c i q => Or.inr (by omega)))
  refine ol_mback96 h8 (I 0 4) 0 (f + 4000) _ (by omega) (by omega) (by rw [(g3 0 24 (by unfold frMb; omega)).1]; exact i3) (fun j hj => ?_) (fun j hj => absurd hj (Nat.not_lt_zero _)) (fun s4 f4 w4 => ?_)
  · rw [(g3 19 j (by unfold frMb; omega)).1, (g3 20 j (by unfold frMb; omega)).1, (g3 21 j (by unfold frMb; omega)).1]
    exact i7 j hj
  have g4 : Fr frMb s s4 := Fr_tr g3 (Fr_mono f4 (fun c i q => by unfold frP at q; unfold frMb; omega))
  have b0 : ∀ i, gi s4 0 i = gi (si (si (si (si s 0 12 (nI (I 0 12))) 0 2 (nI (I 0 2))) 0 3 (nI (I 0 3))) 0 22 (gi s 0 28)) 0 i := fun i => by
    rw [(f4 0 i (by unfold frP; omega)).1, (f3 0 i (by omega)).1, (f2 0 i (by omega)).1]
  have hM : mTn s4 (backT T I) := by
    refine back_mTn hT (by rw [b0]; rfl) (by rw [b0]; rfl) (g4 0 4 (by unfold frMb; omega)).1 (by rw [b0]; rfl) (fun i hi => ?_) (fun i hi => ?_) w4 (fun c p h3 h13 hx => ?_)
    · rw [(f4 1 i (by unfold frP; omega)).1, (f3 1 i (by omega)).1]
      exact w2 i hi
    · rw [(f4 2 i (by unfold frP; omega)).1]
      exact w3 i hi
    · rw [(f4 c p (by unfold frP; omega)).1, (f3 c p (by omega)).1, (f2 c p (by omega)).1]
      simp only [gi_si, show ∀ j : Nat, ¬ (c = 0 ∧ p = j) from fun j q => by omega, ↓reduceIte]
  have e4 := hM 0 4 (vt0 (by omega))
  rw [backT_04] at e4
  rw [e4]
  exact ok_R (kk s4 g4 hM (by rw [b0]; rfl))
theorem sim_back : xs_back RR := by
  intro σ τ h
  refine sim_of ?_
  obtain ⟨T, n, h⟩ := h
  obtain ⟨hR, hZ, hX, hM, hr⟩ := id h
  obtain ⟨ht, ⟨n1, n2, n3, n4, hw, n5⟩, hi, hs, hwd⟩ := id hr
  unfold fX9_back
  rcases hi with ⟨e1, e2⟩ | ⟨y1, y2, ⟨w, y3, y4, y5⟩, I, y6, y7, z⟩
  · unfold fX10_back
    refine rl_T e1 (rr_T e2 ?_)
    exact sim_R h rfl
  · obtain ⟨zx, zm⟩ := imgI_iff.mp z
    have hI8 := rg_stops y6
    refine rl_F (by rw [y1]; decide) ?_
    refine rl_B (of_giveBack hR y6 hX zx (fun s1 f1 hX1 => ?_))
    refine rl_lz.mpr ?_
    have e4 : gi s1 1 7 = nI (T 0 4) := by
      have q := xT_stops hX1.1
      rw [backT_04] at q
      exact q
    have e81 : gi s1 81 1 = nI w := by
      rw [(f1 81 1 (by unfold frH; omega)).1]
      exact y4
    have f1' := Fr_si (P := fun c i => frH c i ∨ (c = 0 ∧ i = 6)) (Fr_mono f1 (fun c i q => Or.inl q)) (c := 0) (i := 6) (nI w) (Or.inr ⟨rfl, rfl⟩)
    rw [e81, show gi (si s1 0 6 (nI w)) 1 7 = nI (T 0 4) from by rw [gi_si, if_neg (by omega)]; exact e4]
    refine rr_O (of_mback hI8 y2 hM zm (fun s2 f2 hM2 e22 => ok_R ⟨rfl, backT T I, n, backT_rg hR y6, ?_, ⟨xTn_off hX1.1 _ (Or.inl rfl), xKA_si hX1.2.1 _ (by omega), xCl_si hX1.2.2 _ (by omega)⟩, hM2, ?_⟩))
    · intro p h1 h2
      rw [backT_04] at h1
      rw [backT_out (by omega) (by omega)]
      exact hZ p h1 h2
    · rw [backT_04]
      have ga : ∀ c i, ¬ (frH c i ∨ (c = 0 ∧ i = 6)) → gi (si s1 0 6 (nI w)) c i = gi σ c i := fun c i q => (f1' c i q).1
      have gb : ∀ c i, ¬ frMb c i → gi s2 c i = gi τ c i := fun c i q => (f2 c i q).1
      unfold frH at ga
      unfold frMb at gb
      obtain ⟨a1, a2, a3, a4, a5, a6, a7⟩ := zx
      obtain ⟨b1, b2, b3, b4, b5, b6, b7⟩ := zm
      refine ⟨tapR_fr ht (fun i => ⟨ga _ _ (by omega), ga _ _ (by omega)⟩) (fun i => ⟨gb _ _ (by omega), gb _ _ (by omega)⟩), ⟨n1, n2, by rw [ga _ _ (by omega)]; exact n3, by rw [gb _ _ (by omega)]; exact n4, ⟨w, y3, gi_same _ _ _ _, by rw [e22]; exact y5⟩, fun j hj => oneT_eq (n5 j hj) (fun i => ⟨ga _ _ (by omega), ga _ _ (by omega), ga _ _ (by omega)⟩) (fun q hq => gb _ _ (by omega)) (fun c hc => gb _ _ (by omega))⟩, Or.inr ⟨by rw [ga _ _ (by omega)]; exact y1, by rw [gb _ _ (by omega)]; exact y2, ⟨w, y3, by rw [ga _ _ (by omega)]; exact y4, by rw [gb _ _ (by omega)]; exact y5⟩, I, y6, y7, imgI_iff.mpr ⟨⟨?_, ?_, ?_, ?_, ?_, ?_, ?_⟩, ⟨?_, ?_, ?_, ?_, ?_, ?_, ?_⟩⟩⟩, fun j hj => ?_, fun k hk => by rw [(f2 26 k (by unfold frMb; omega)).2]; exact hwd k hk⟩
      · rw [ga _ _ (by omega)]; exact a1
      · rw [ga _ _ (by omega)]; exact a2
      · rw [ga _ _ (by omega)]; exact a3
      · rw [ga _ _ (by omega)]; exact a4
      · intro i hi; rw [ga _ _ (by omega)]; exact a5 i hi
      · intro k w hk hw; rw [ga _ _ (by omega)]; exact a6 k w hk hw
      · intro p hp; rw [ga _ _ (by omega), ga _ _ (by omega), ga _ _ (by omega)]; exact a7 p hp
      · rw [gb _ _ (by omega)]; exact b1
      · rw [gb _ _ (by omega)]; exact b2
      · rw [gb _ _ (by omega)]; exact b3
      · rw [gb _ _ (by omega)]; exact b4
      · intro i hi; rw [gb _ _ (by omega)]; exact b5 i hi
      · intro k w hk hw; rw [gb _ _ (by omega)]; exact b6 k w hk hw
      · intro p hp; rw [gb _ _ (by omega), gb _ _ (by omega), gb _ _ (by omega)]; exact b7 p hp
      · obtain ⟨v, m, u1, u2, u3, u4, u5, u6, u7⟩ := hs j hj
        exact ⟨v, m, u1, u2, by rw [ga _ _ (by omega)]; exact u3, by rw [gb _ _ (by omega)]; exact u4, by rw [ga _ _ (by omega)]; exact u5, by rw [gb _ _ (by omega)]; exact u6, fun i hi => by rw [ga _ _ (by omega), gb _ _ (by omega)]; exact u7 i hi⟩
