/-! ===== what a text says ===== -/
def jnS (m : Nat) (a b : Int32) : Int32 := if m = 11 then (if a = 0 then (if b = 0 then 0 else 1) else 1) else if m = 12 then (if a = 0 then 0 else if b = 0 then 0 else 1) else if m = 14 then (if b ≤ a then 0 else 1) else if m = 15 then (if a = b then 1 else 0) else if m = 16 then a + b else if m = 17 then a - b else a * b
def unS (m : Nat) (a : Int32) : Int32 := if m = 13 then (if a = 0 then 1 else 0) else -a
def stU (st : Nat → Int32) (h : Nat) (v : Int32) : Nat → Int32 := fun i => if i = h then v else st i
/-- m codes from c on, over a stack of h -/
def runS (K : Nat → Nat) (nm : Nat → Int32) : Nat → Nat → Nat → (Nat → Int32) → Int32
  | 0, _, _, st => st 0
  | m + 1, c, h, st => if 100000 ≤ K c then runS K nm m (c + 1) (h + 1) (stU st h (nI (K c - 100000))) else if K c < 11 then runS K nm m (c + 1) (h + 1) (stU st h (nm (K c))) else if K c = 13 ∨ K c = 19 then runS K nm m (c + 1) h (stU st (h - 1) (unS (K c) (st (h - 1)))) else runS K nm m (c + 1) (h - 1) (stU st (h - 2) (jnS (K c) (st (h - 2)) (st (h - 1))))
def vS (K E : Nat → Nat) (q : Nat) (nm : Nat → Int32) : Int32 := runS K nm (E (q + 1) - E q) (E q) 0 (fun _ => 0)
/-- the law's text, in the class and in the model -/
def txK (K E : Nat → Nat) : Prop := E 0 = 0 ∧ E 3 ≤ 160 ∧ (∀ q, q < 3 → prtW K (E q) (E (q + 1))) ∧ ∀ c, c < E 3 → cdOk (K c)
def txX (σ : xM) (w : Nat) (K E : Nat → Nat) : Prop := gi σ 0 6 = nI w ∧ gi σ (97 + 4 * w) 4 = 3 ∧ (∀ q, q < 3 → gi σ (99 + 4 * w) q = nI (E (q + 1))) ∧ ∀ c, c < E 3 → gi σ (98 + 4 * w) c = cdX (K c)
def txM (τ : xM) (w : Nat) (K E : Nat → Nat) : Prop := gi τ 0 22 = nI w ∧ (∀ q, q < 4 → gi τ 16 (4 * w + q) = nI (E q)) ∧ ∀ c, c < E 3 → gi τ 15 (200 * w + c) = nI (K c)
theorem txX_fr {P : Nat → Nat → Prop} {σ σ' : xM} {w : Nat} {K E : Nat → Nat} (h : txX σ w K E) (f : Fr P σ σ') (hp : ∀ c i, P c i → xFree c i) : txX σ' w K E := by
  have a : ∀ c i, ¬ xFree c i → gi σ' c i = gi σ c i := fun c i x => (f c i (fun q => x (hp c i q))).1
  unfold xFree at a
  exact ⟨by rw [a _ _ (by omega)]; exact h.1, by rw [a _ _ (by omega)]; exact h.2.1, fun q hq => by rw [a _ _ (by omega)]; exact h.2.2.1 q hq, fun c hc => by rw [a _ _ (by omega)]; exact h.2.2.2 c hc⟩
theorem txM_fr {P : Nat → Nat → Prop} {τ τ' : xM} {w : Nat} {K E : Nat → Nat} (h : txM τ w K E) (f : Fr P τ τ') (hp : ∀ c i, P c i → mFree c i) : txM τ' w K E := by
  have a : ∀ c i, ¬ mFree c i → gi τ' c i = gi τ c i := fun c i x => (f c i (fun q => x (hp c i q))).1
  unfold mFree at a
  exact ⟨by rw [a _ _ (by omega)]; exact h.1, fun q hq => by rw [a _ _ (by omega)]; exact h.2.1 q hq, fun c hc => by rw [a _ _ (by omega)]; exact h.2.2 c hc⟩
theorem tx_of {σ τ : xM} {n : Nat} (h : txtR σ τ n) : ∃ w K E, w < 6 ∧ txK K E ∧ txX σ w K E ∧ txM τ w K E := by
  obtain ⟨x1, x2, x3, x4, ⟨w, x5, x6, x7⟩, x8⟩ := h
  obtain ⟨h0, K, E, h1, h2, h3, h4, h5⟩ := x8 w x5
  exact ⟨w, K, E, by omega, ⟨h1, h2, fun q hq => (h3 q hq).1, fun c hc => (h5 c hc).1⟩, ⟨x6, h0, fun q hq => (h3 q hq).2, fun c hc => (h5 c hc).2.1⟩, ⟨x7, h4, fun c hc => (h5 c hc).2.2⟩⟩
theorem E_mono {K E : Nat → Nat} (h : txK K E) : E 0 = 0 ∧ E 0 ≤ E 1 ∧ E 1 ≤ E 2 ∧ E 2 ≤ E 3 ∧ E 3 ≤ 160 := by
  obtain ⟨h1, h2, h3, -⟩ := h
  obtain ⟨H0, -, -, a, -⟩ := h3 0 (by omega)
  obtain ⟨H1, -, -, b, -⟩ := h3 1 (by omega)
  obtain ⟨H2, -, -, c, -⟩ := h3 2 (by omega)
  exact ⟨h1, a, b, c, h2⟩
theorem m7_lt {s : Nat} (h : 1 ≤ s) (hs : s < 1000) : (-7 - nI s : Int32) < -6 := by
  rw [Int32.lt_iff_toInt_lt, Int32.toInt_sub, nI_toInt (by omega), show (-7 : Int32).toInt = -7 from rfl, show (-6 : Int32).toInt = -6 from rfl, Int.bmod_eq_of_le (by omega) (by omega)]
  omega
theorem m7_of (s : Nat) : (-7 : Int32) - (-7 - nI s) = nI s := by
  rw [Int32.sub_eq_add_neg, Int32.neg_sub, Int32.add_comm, Int32.sub_add_cancel]
theorem m1_of (s : Nat) : (-1 : Int32) - (-1 - nI s) = nI s := by
  rw [Int32.sub_eq_add_neg, Int32.neg_sub, Int32.add_comm, Int32.sub_add_cancel]
theorem m1_lt {s : Nat} (hs : s < 6) : (-1 - nI s : Int32) < 0 ∧ ¬ (-1 - nI s : Int32) < -6 := by
  have e : (-1 - nI s : Int32).toInt = -1 - (s : Int) := by
    rw [Int32.toInt_sub, nI_toInt (by omega), show (-1 : Int32).toInt = -1 from rfl, Int.bmod_eq_of_le (by omega) (by omega)]
  constructor
  · rw [Int32.lt_iff_toInt_lt, e, show (0 : Int32).toInt = 0 from rfl]
    omega
  · rw [Int32.lt_iff_toInt_lt, e, show (-6 : Int32).toInt = -6 from rfl]
    omega
theorem sg_tab : ∀ m, m < 20 → 11 ≤ m → 1 ≤ sgX m ∧ sgX m < 100 := by decide
theorem e_joined {m : Nat} (h1 : 11 ≤ m) (h2 : m ≤ 18) (h3 : m ≠ 13) (a b : Int32) (s : xM) : fX5_joined (nI (sgX m)) a b s = some (jnS m a b, s) := by
  rcases (show m = 11 ∨ m = 12 ∨ m = 14 ∨ m = 15 ∨ m = 16 ∨ m = 17 ∨ m = 18 by omega) with rfl | rfl | rfl | rfl | rfl | rfl | rfl
  · rw [show nI (sgX 11) = (7 : Int32) from rfl]
    unfold fX5_joined jnS
    simp (decide := true) only [↓reduceIte]
    try (repeat' split)
    all_goals rfl
  · rw [show nI (sgX 12) = (8 : Int32) from rfl]
    unfold fX5_joined jnS
    simp (decide := true) only [↓reduceIte]
    try (repeat' split)
    all_goals rfl
  · rw [show nI (sgX 14) = (60 : Int32) from rfl]
    unfold fX5_joined jnS
    simp (decide := true) only [↓reduceIte]
    try (repeat' split)
    all_goals rfl
  · rw [show nI (sgX 15) = (61 : Int32) from rfl]
    unfold fX5_joined jnS
    simp (decide := true) only [↓reduceIte]
    try (repeat' split)
    all_goals rfl
  · rw [show nI (sgX 16) = (43 : Int32) from rfl]
    unfold fX5_joined jnS
    simp (decide := true) only [↓reduceIte]
    try (repeat' split)
    all_goals rfl
  · rw [show nI (sgX 17) = (45 : Int32) from rfl]
    unfold fX5_joined jnS
    simp (decide := true) only [↓reduceIte]
    try (repeat' split)
    all_goals rfl
  · rw [show nI (sgX 18) = (42 : Int32) from rfl]
    unfold fX5_joined jnS
    simp (decide := true) only [↓reduceIte]
    try (repeat' split)
    all_goals rfl
theorem e_two {m : Nat} (h1 : 11 ≤ m) (h2 : m ≤ 18) (h3 : m ≠ 13) (a b : Int32) (s : xM) : fX10_two (nI m) a b s = some (jnS m a b, s) := by
  rcases (show m = 11 ∨ m = 12 ∨ m = 14 ∨ m = 15 ∨ m = 16 ∨ m = 17 ∨ m = 18 by omega) with rfl | rfl | rfl | rfl | rfl | rfl | rfl
  · rw [show nI 11 = (11 : Int32) from rfl]
    unfold fX10_two jnS
    simp (decide := true) only [↓reduceIte]
    try (repeat' split)
    all_goals rfl
  · rw [show nI 12 = (12 : Int32) from rfl]
    unfold fX10_two jnS
    simp (decide := true) only [↓reduceIte]
    try (repeat' split)
    all_goals rfl
  · rw [show nI 14 = (14 : Int32) from rfl]
    unfold fX10_two jnS
    simp (decide := true) only [↓reduceIte]
    try (repeat' split)
    all_goals rfl
  · rw [show nI 15 = (15 : Int32) from rfl]
    unfold fX10_two jnS
    simp (decide := true) only [↓reduceIte]
    try (repeat' split)
    all_goals rfl
  · rw [show nI 16 = (16 : Int32) from rfl]
    unfold fX10_two jnS
    simp (decide := true) only [↓reduceIte]
    try (repeat' split)
    all_goals rfl
  · rw [show nI 17 = (17 : Int32) from rfl]
    unfold fX10_two jnS
    simp (decide := true) only [↓reduceIte]
    try (repeat' split)
    all_goals rfl
  · rw [show nI 18 = (18 : Int32) from rfl]
    unfold fX10_two jnS
    simp (decide := true) only [↓reduceIte]
    try (repeat' split)
    all_goals rfl
/-- the stack is st below h -/
def stkX (σ : xM) (d h : Nat) (st : Nat → Int32) : Prop := ∀ i, i < h → gi σ d i = st i
theorem stk_push {σ : xM} {d h : Nat} {st : Nat → Int32} (x : stkX σ d h st) (v : Int32) : stkX (si σ d h v) d (h + 1) (stU st h v) := fun i hi => by
  rw [gi_si]
  unfold stU
  by_cases e : i = h
  · rw [if_pos ⟨rfl, e⟩, if_pos e]
  · rw [if_neg (by omega), if_neg e]
    exact x i (by omega)
theorem stk_set {σ : xM} {d h k j : Nat} {st : Nat → Int32} (x : stkX σ d h st) (v : Int32) (hj : j ≤ h) : stkX (si σ d k v) d j (stU st k v) := fun i hi => by
  rw [gi_si]
  unfold stU
  by_cases e : i = k
  · rw [if_pos ⟨rfl, e⟩, if_pos e]
  · rw [if_neg (by omega), if_neg e]
    exact x i (by omega)
theorem ol_valueOf {K E : Nat → Nat} (hK : txK K E) {w q : Nat} (hw : w < 6) (hq : q < 3) {nm : Nat → Int32} {H : Nat → Nat} (hH1 : H (E (q + 1)) = 1) (hH : ∀ c, E q ≤ c → c < E (q + 1) → stH (K c) (H c) (H (c + 1))) {Q : Int32 → xM → Prop} {σ0 : xM} (hX : txX σ0 w K E) (hN : ∀ k, k < 6 → gi σ0 91 k = nm k) (kk : ∀ σ', Fr (fun c _ => c = 100 + 4 * w) σ0 σ' → Q (vS K E q nm) σ') : ∀ (m c n : Nat) (st : Nat → Int32) (s : xM), c + m = E (q + 1) → E q ≤ c → m < n → H c ≤ 40 → Fr (fun c _ => c = 100 + 4 * w) σ0 s → stkX s (100 + 4 * w) (H c) st → runS K nm m c (H c) st = vS K E q nm → Ok (fX5_valueOf_L34 (fun x1 s2 => if x1 = (1 : Int32) then some ((gi s2 (100 + 4 * w) 0), s2) else some ((0 : Int32), s2)) w (nI q) n (nI (H c)) (nI c) s) Q := by
  have em := E_mono hK
  have e3 : E (q + 1) ≤ E 3 := by
    rcases (show q = 0 ∨ q = 1 ∨ q = 2 by omega) with rfl | rfl | rfl
    · exact Nat.le_trans em.2.2.1 em.2.2.2.1
    · exact em.2.2.2.1
    · exact Nat.le_refl _
  intro m
  induction m with
  | zero =>
    intro c n st s hc hc0 hn h40 hf hs hv
    obtain ⟨n, rfl⟩ : ∃ n', n = n' + 1 := ⟨n - 1, by omega⟩
    have hXs := txX_fr hX hf (fun c i z => by unfold xFree; omega)
    have ec : c = E (q + 1) := by omega
    rw [ec] at hs hv ⊢
    rw [hH1] at hs hv ⊢
    unfold fX5_valueOf_L34
    refine ok_G (inb_n hq (by omega)) ?_
    rw [nI_clamp (by omega), hXs.2.2.1 q hq]
    refine ok_T (nI_le (Nat.le_refl _) (by omega)) (ok_T rfl (ok_R ?_))
    rw [hs 0 (by omega)]
    have : st 0 = vS K E q nm := hv
    rw [this]
    exact kk s hf
  | succ m ih =>
    intro c n st s hc hc0 hn h40 hf hs hv
    obtain ⟨n, rfl⟩ : ∃ n', n = n' + 1 := ⟨n - 1, by omega⟩
    have hXs := txX_fr hX hf (fun c i z => by unfold xFree; omega)
    have sh := hH c hc0 (by omega)
    have ok := hK.2.2.2 c (by omega)
    unfold fX5_valueOf_L34
    refine ok_G (inb_n hq (by omega)) ?_
    rw [nI_clamp (n := q) (by omega), hXs.2.2.1 q hq]
    refine ok_F (nI_ge (by omega) (by omega)) (ok_G (inb_n (by omega) (by omega)) ?_)
    rw [nI_clamp (n := c) (by omega), hXs.2.2.2 c (by omega), nI_1]
    have go := ih (c + 1) n
    unfold stH at sh
    unfold runS at hv
    unfold fX5_step cdX
    by_cases c1 : 100000 ≤ K c
    · rw [if_pos (Or.inl c1)] at sh
      rw [if_pos c1] at hv
      rw [if_pos c1]
      have k9 : K c < 110000 := by unfold cdOk at ok; omega
      have n6 : ¬ nI (K c - 100000) < -6 := by
        rw [Int32.lt_iff_toInt_lt, nI_toInt (by omega), show (-6 : Int32).toInt = -6 from rfl]
        omega
      refine ok_B (ok_F n6 (ok_T (nI_lt (b := 40) sh.2 (by omega)) (ok_F (nI_pos (by omega)) ?_)))
      unfold fX5_step_J32
      simp (disch := omega) only [ok_gd, ok_lz, inb_n, true_and, nI_clamp, nI_1, ok_some]
      rw [sh.1] at go
      exact go _ _ (by omega) (by omega) (by omega) (by omega) (Fr_si hf _ rfl) (stk_push hs _) hv
    · rw [if_neg c1] at hv
      rw [if_neg c1]
      by_cases c2 : K c < 11
      · rw [if_pos (Or.inr c2)] at sh
        rw [if_pos c2] at hv
        rw [if_pos c2]
        have k6 : K c < 6 := by unfold cdOk at ok; omega
        have l := m1_lt k6
        refine ok_B (ok_F l.2 (ok_T (nI_lt (b := 40) sh.2 (by omega)) (ok_T l.1 ?_)))
        rw [m1_of]
        unfold fX5_step_J32
        simp (disch := omega) only [ok_gd, ok_lz, inb_n, true_and, nI_clamp, nI_1, ok_some]
        rw [(hf 91 (K c) (by omega)).1, hN _ k6]
        rw [sh.1] at go
        exact go _ _ (by omega) (by omega) (by omega) (by omega) (Fr_si hf _ rfl) (stk_push hs _) hv
      · rw [if_neg (by omega)] at sh
        rw [if_neg c2] at hv
        rw [if_neg c2]
        have k11 : 11 ≤ K c ∧ K c ≤ 19 := by unfold cdOk at ok; omega
        have sg := sg_tab (K c) (by omega) k11.1
        refine ok_B (ok_T (m7_lt sg.1 (by omega)) (ok_lz.mpr ?_))
        rw [m7_of]
        by_cases c3 : K c = 13 ∨ K c = 19
        · rw [if_pos c3] at sh hv
          obtain ⟨s1, s2⟩ := sh
          rw [s1] at go
          have hstk := hs (H c - 1) (by omega)
          have nl : ¬ nI (H c) < 1 := nI_nlt (b := 1) (by omega) (by omega)
          unfold fX5_step_J57 fX5_step_J92 fX5_step_J107
          rcases c3 with c3 | c3
          · have e9 : nI (sgX (K c)) = 9 := by
              rw [c3]
              rfl
            refine ok_T e9 (ok_F nl (ok_T e9 ?_))
            rw [q1, pk_sub s2]
            simp (disch := omega) only [ok_gd, inb_n, true_and, nI_clamp, hstk]
            have ev : unS (K c) (st (H c - 1)) = if st (H c - 1) = 0 then 1 else 0 := by
              unfold unS
              rw [if_pos c3]
            rw [ev] at hv
            by_cases z : st (H c - 1) = 0
            · rw [if_pos z] at hv
              refine ok_T z ?_
              rw [e_asNumber (by omega), bd_some]
              refine ok_G rfl (ok_lz.mpr (ok_R ?_))
              exact go _ _ (by omega) (by omega) (by omega) (by omega) (Fr_si hf _ rfl) (stk_set hs _ (Nat.le_refl _)) hv
            · rw [if_neg z] at hv
              refine ok_F z ?_
              rw [show (0 : Int32) = nI 0 from rfl, e_asNumber (by omega), bd_some]
              refine ok_G rfl (ok_lz.mpr (ok_R ?_))
              exact go _ _ (by omega) (by omega) (by omega) (by omega) (Fr_si hf _ rfl) (stk_set hs _ (Nat.le_refl _)) hv
          · have e10 : nI (sgX (K c)) = 10 := by
              rw [c3]
              rfl
            have ne9 : ¬ nI (sgX (K c)) = 9 := by
              rw [e10]
              decide
            refine ok_F ne9 (ok_T e10 (ok_F nl (ok_F ne9 ?_)))
            rw [q1, pk_sub s2]
            simp (disch := omega) only [ok_gd, ok_lz, inb_n, true_and, nI_clamp, hstk, ok_some]
            have ev : unS (K c) (st (H c - 1)) = -(st (H c - 1)) := by
              unfold unS
              rw [if_neg (by omega)]
            rw [ev] at hv
            exact go _ _ (by omega) (by omega) (by omega) (by omega) (Fr_si hf _ rfl) (stk_set hs _ (Nat.le_refl _)) hv
        · rw [if_neg c3] at sh hv
          obtain ⟨s1, s2⟩ := sh
          have ne9 : ¬ nI (sgX (K c)) = 9 := by
            rcases (show K c = 11 ∨ K c = 12 ∨ K c = 14 ∨ K c = 15 ∨ K c = 16 ∨ K c = 17 ∨ K c = 18 by omega) with e | e | e | e | e | e | e <;> rw [e] <;> decide
          have ne10 : ¬ nI (sgX (K c)) = 10 := by
            rcases (show K c = 11 ∨ K c = 12 ∨ K c = 14 ∨ K c = 15 ∨ K c = 16 ∨ K c = 17 ∨ K c = 18 by omega) with e | e | e | e | e | e | e <;> rw [e] <;> decide
          refine ok_F ne9 (ok_F ne10 (ok_T (nI_le (a := 2) s2 (by omega)) ?_))
          rw [q1, q2, pk_sub s2, pk_sub (by omega)]
          simp (disch := omega) only [ok_gd, ok_lz, inb_n, true_and, nI_clamp]
          rw [hs (H c - 2) (by omega), hs (H c - 1) (by omega), e_joined k11.1 (by omega) (by omega), bd_some]
          simp (disch := omega) only [ok_gd, ok_lz, inb_n, true_and, nI_clamp, ok_some]
          rw [show H c - 1 = H (c + 1) by omega]
          rw [show H c - 1 = H (c + 1) by omega] at hv
          exact go _ _ (by omega) (by omega) (by omega) (by omega) (Fr_si hf _ rfl) (stk_set hs _ (by omega)) hv
theorem of_valueOf {K E : Nat → Nat} (hK : txK K E) {w q : Nat} (hw : w < 6) (hq : q < 3) {nm : Nat → Int32} {Q : Int32 → xM → Prop} {σ : xM} (hX : txX σ w K E) (hN : ∀ k, k < 6 → gi σ 91 k = nm k) (kk : ∀ σ', Fr (fun c _ => c = 100 + 4 * w) σ σ' → Q (vS K E q nm) σ') : Ok (fX5_valueOf w (nI q) σ) Q := by
  have em := E_mono hK
  obtain ⟨H, h0, h1, h2, h3⟩ := hK.2.2.1 q hq
  obtain ⟨f, hf⟩ := fu_big
  have e3 : E (q + 1) ≤ 160 := by
    rcases (show q = 0 ∨ q = 1 ∨ q = 2 by omega) with rfl | rfl | rfl
    · exact Nat.le_trans em.2.2.1 (Nat.le_trans em.2.2.2.1 em.2.2.2.2)
    · exact Nat.le_trans em.2.2.2.1 em.2.2.2.2
    · exact em.2.2.2.2
  have go := ol_valueOf hK hw hq h1 h3 hX hN kk (E (q + 1) - E q) (E q) (f + 4000) (fun _ => 0) σ (by omega) (Nat.le_refl _) (by omega) (by omega) Fr_rf (fun i hi => absurd hi (by omega)) (by rw [h0]; rfl)
  rw [h0] at go
  unfold fX5_valueOf fX5_valueOf_J32
  rw [hf]
  refine ok_F (nI_pos (by omega)) (ok_T (by rw [hX.2.1]; exact nI_lt (b := 3) hq (by omega)) ?_)
  by_cases c : q = 0
  · subst c
    refine ok_T rfl ?_
    rw [em.1] at go
    exact go
  · refine ok_F (by rw [nI_n0 (by omega)]; exact c) ?_
    rw [q1, pk_sub (by omega)]
    refine ok_G (inb_n (by omega) (by omega)) ?_
    rw [nI_clamp (by omega), hX.2.2.1 (q - 1) (by omega), show q - 1 + 1 = q by omega]
    exact go
/-! the model's -/
theorem ol_says {K E : Nat → Nat} (hK : txK K E) {w q : Nat} (hw : w < 6) (hq : q < 3) {nm : Nat → Int32} {H : Nat → Nat} (hH1 : H (E (q + 1)) = 1) (hH : ∀ c, E q ≤ c → c < E (q + 1) → stH (K c) (H c) (H (c + 1))) {Q : Int32 → xM → Prop} {τ0 : xM} (hX : txM τ0 w K E) (hN : ∀ k, k < 6 → gi τ0 29 k = nm k) (kk : ∀ τ', Fr (fun c _ => c = 28) τ0 τ' → Q (vS K E q nm) τ') : ∀ (m c n : Nat) (st : Nat → Int32) (s : xM), c + m = E (q + 1) → E q ≤ c → m < n → H c ≤ 40 → Fr (fun c _ => c = 28) τ0 s → stkX s 28 (H c) st → runS K nm m c (H c) st = vS K E q nm → Ok (fX10_says_L32 (fun s8 => some ((gi s8 28 0), s8)) (nI q) n (nI (H c)) (nI c) s) Q := by
  have em := E_mono hK
  have e3 : E (q + 1) ≤ E 3 := by
    rcases (show q = 0 ∨ q = 1 ∨ q = 2 by omega) with rfl | rfl | rfl
    · exact Nat.le_trans em.2.2.1 em.2.2.2.1
    · exact em.2.2.2.1
    · exact Nat.le_refl _
  intro m
  induction m with
  | zero =>
    intro c n st s hc hc0 hn h40 hf hs hv
    obtain ⟨n, rfl⟩ : ∃ n', n = n' + 1 := ⟨n - 1, by omega⟩
    have hXs := txM_fr hX hf (fun c i z => by unfold mFree; omega)
    have ec : c = E (q + 1) := by omega
    rw [ec] at hs hv ⊢
    rw [hH1] at hs hv ⊢
    unfold fX10_says_L32
    rw [hXs.1, q4, pk_mul, nI_add, nI_1]
    refine ok_G (inb_n (by omega) (by omega)) ?_
    rw [nI_clamp (by omega), show 4 * w + q + 1 = 4 * w + (q + 1) by omega, hXs.2.1 (q + 1) (by omega)]
    refine ok_T (nI_le (Nat.le_refl _) (by omega)) (ok_R ?_)
    rw [hs 0 (by omega)]
    have : st 0 = vS K E q nm := hv
    rw [this]
    exact kk s hf
  | succ m ih =>
    intro c n st s hc hc0 hn h40 hf hs hv
    obtain ⟨n, rfl⟩ : ∃ n', n = n' + 1 := ⟨n - 1, by omega⟩
    have hXs := txM_fr hX hf (fun c i z => by unfold mFree; omega)
    have sh := hH c hc0 (by omega)
    have ok := hK.2.2.2 c (by omega)
    unfold fX10_says_L32
    rw [hXs.1, q4, pk_mul, nI_add, nI_1]
    refine ok_G (inb_n (by omega) (by omega)) ?_
    rw [nI_clamp (n := 4 * w + q + 1) (by omega), show 4 * w + q + 1 = 4 * w + (q + 1) by omega, hXs.2.1 (q + 1) (by omega)]
    refine ok_F (nI_ge (by omega) (by omega)) ?_
    rw [show (200 : Int32) = nI 200 from rfl, pk_mul, nI_add]
    refine ok_G (inb_n (by omega) (by omega)) (ok_lz.mpr ?_)
    rw [nI_clamp (n := 200 * w + c) (by omega), hXs.2.2 c (by omega), nI_1]
    have go := ih (c + 1) n
    unfold stH at sh
    unfold runS at hv
    have hk : K c < 2 ^ 31 := by unfold cdOk at ok; omega
    have h11 : ((11 : Int32) ≤ nI (K c)) ↔ 11 ≤ K c := nI_leI (a := 11) (by omega) hk
    have h100 : ((100000 : Int32) ≤ nI (K c)) ↔ 100000 ≤ K c := nI_leI (a := 100000) (by omega) hk
    unfold fX10_says_J85 fX10_says_J114 fX10_says_J153
    by_cases c1 : 100000 ≤ K c
    · rw [if_pos (Or.inl c1)] at sh
      rw [if_pos c1] at hv
      refine ok_T (h100.mpr c1) (ok_T (h11.mpr (by omega)) ?_)
      refine ok_G (inb_n (by omega) (by omega)) (ok_lz.mpr ?_)
      rw [show (100000 : Int32) = nI 100000 from rfl, pk_sub c1, nI_clamp (by omega), nI_1, nI_1]
      rw [sh.1] at go
      exact go _ _ (by omega) (by omega) (by omega) (by omega) (Fr_si hf _ rfl) (stk_push hs _) hv
    · rw [if_neg c1] at hv
      refine ok_F (fun z => c1 (h100.mp z)) ?_
      by_cases c2 : K c < 11
      · rw [if_pos (Or.inr c2)] at sh
        rw [if_pos c2] at hv
        have k6 : K c < 6 := by unfold cdOk at ok; omega
        refine ok_F (fun z => by have := h11.mp z; omega) (ok_F (fun z => by have := h11.mp z; omega) (ok_G (inb_n k6 (by omega)) ?_))
        refine ok_G (inb_n (by omega) (by omega)) (ok_lz.mpr ?_)
        rw [nI_clamp (n := K c) (by omega), nI_clamp (n := H c) (by omega), nI_1, nI_1, (hf 29 (K c) (by omega)).1, hN _ k6]
        rw [sh.1] at go
        exact go _ _ (by omega) (by omega) (by omega) (by omega) (Fr_si hf _ rfl) (stk_push hs _) hv
      · rw [if_neg (by omega)] at sh
        rw [if_neg c2] at hv
        have k11 : 11 ≤ K c ∧ K c ≤ 19 := by unfold cdOk at ok; omega
        refine ok_T (h11.mpr k11.1) ?_
        have h13 : (nI (K c) = (13 : Int32)) ↔ K c = 13 := nI_eq (b := 13) hk (by omega)
        have h19 : (nI (K c) = (19 : Int32)) ↔ K c = 19 := nI_eq (b := 19) hk (by omega)
        have am : nI (H c) + (-1 : Int32) = nI (H c) - 1 := by rw [Int32.sub_eq_add_neg]
        rw [am]
        by_cases c3 : K c = 13 ∨ K c = 19
        · rw [if_pos c3] at sh hv
          obtain ⟨s1, s2⟩ := sh
          rw [s1] at go
          have hstk := hs (H c - 1) (by omega)
          have ep : nI (H c) - 1 = nI (H c - 1) := by rw [q1, pk_sub s2]
          rw [ep]
          rcases c3 with c3 | c3
          · refine ok_T (h13.mpr c3) (ok_G (inb_n (by omega) (by omega)) ?_)
            rw [nI_clamp (n := H c - 1) (by omega), hstk]
            have ev : unS (K c) (st (H c - 1)) = if st (H c - 1) = 0 then 1 else 0 := by
              unfold unS
              rw [if_pos c3]
            rw [ev] at hv
            by_cases z : st (H c - 1) = 0
            · rw [if_pos z] at hv
              refine ok_T z (ok_G (inb_n (by omega) (by omega)) (ok_lz.mpr ?_))
              rw [nI_1]
              exact go _ _ (by omega) (by omega) (by omega) (by omega) (Fr_si hf _ rfl) (stk_set hs _ (Nat.le_refl _)) hv
            · rw [if_neg z] at hv
              refine ok_F z (ok_G (inb_n (by omega) (by omega)) (ok_lz.mpr ?_))
              rw [nI_1]
              exact go _ _ (by omega) (by omega) (by omega) (by omega) (Fr_si hf _ rfl) (stk_set hs _ (Nat.le_refl _)) hv
          · refine ok_F (fun z => by have := h13.mp z; omega) (ok_T (h19.mpr c3) ?_)
            refine ok_G (inb_n (by omega) (by omega)) (ok_G (inb_n (by omega) (by omega)) (ok_lz.mpr ?_))
            rw [nI_clamp (n := H c - 1) (by omega), hstk]
            have ev : unS (K c) (st (H c - 1)) = -(st (H c - 1)) := by
              unfold unS
              rw [if_neg (by omega)]
            rw [ev] at hv
            exact go _ _ (by omega) (by omega) (by omega) (by omega) (Fr_si hf _ rfl) (stk_set hs _ (Nat.le_refl _)) hv
        · rw [if_neg c3] at sh hv
          obtain ⟨s1, s2⟩ := sh
          refine ok_F (fun z => by have := h13.mp z; omega) (ok_F (fun z => by have := h19.mp z; omega) ?_)
          have ep : nI (H c) - 1 = nI (H c - 1) := by rw [q1, pk_sub (by omega)]
          have ep2 : nI (H c - 1) - 1 = nI (H c - 2) := by rw [q1, pk_sub (by omega), show H c - 1 - 1 = H c - 2 by omega]
          rw [ep, ep2]
          refine ok_G (inb_n (by omega) (by omega)) (ok_G (inb_n (by omega) (by omega)) ?_)
          rw [nI_clamp (n := H c - 2) (by omega), nI_clamp (n := H c - 1) (by omega), hs (H c - 2) (by omega), hs (H c - 1) (by omega), e_two k11.1 (by omega) (by omega), bd_some]
          refine ok_G (inb_n (by omega) (by omega)) (ok_lz.mpr ?_)
          rw [show H c - 1 = H (c + 1) by omega]
          rw [show H c - 1 = H (c + 1) by omega] at hv
          exact go _ _ (by omega) (by omega) (by omega) (by omega) (Fr_si hf _ rfl) (stk_set hs _ (by omega)) hv
theorem of_says {K E : Nat → Nat} (hK : txK K E) {w q : Nat} (hw : w < 6) (hq : q < 3) {nm : Nat → Int32} {Q : Int32 → xM → Prop} {τ : xM} (hX : txM τ w K E) (hN : ∀ k, k < 4 → gi τ 29 k = nm k) (kk : ∀ τ', Fr (fun c _ => c = 28 ∨ c = 29) τ τ' → Q (vS K E q nm) τ') : Ok (fX10_says (nI q) (nm 4) (nm 5) τ) Q := by
  have em := E_mono hK
  obtain ⟨H, h0, h1, h2, h3⟩ := hK.2.2.1 q hq
  obtain ⟨f, hf⟩ := fu_big
  have e3 : E (q + 1) ≤ 160 := by
    rcases (show q = 0 ∨ q = 1 ∨ q = 2 by omega) with rfl | rfl | rfl
    · exact Nat.le_trans em.2.2.1 (Nat.le_trans em.2.2.2.1 em.2.2.2.2)
    · exact Nat.le_trans em.2.2.2.1 em.2.2.2.2
    · exact em.2.2.2.2
  have f1 : Fr (fun c _ => c = 28 ∨ c = 29) τ (si (si τ 29 4 (nm 4)) 29 5 (nm 5)) := Fr_si (Fr_si Fr_rf _ (Or.inr rfl)) _ (Or.inr rfl)
  have hX2 := txM_fr hX f1 (fun c i z => by unfold mFree; omega)
  unfold fX10_says
  simp only [ok_lz]
  rw [hf, hX2.1, q4, pk_mul, nI_add]
  refine ok_G (inb_n (by omega) (by omega)) ?_
  rw [nI_clamp (by omega), hX2.2.1 q (by omega)]
  have hN2 : ∀ k, k < 6 → gi (si (si τ 29 4 (nm 4)) 29 5 (nm 5)) 29 k = nm k := by
    intro k hk
    rw [gi_si]
    by_cases e5 : k = 5
    · rw [if_pos ⟨rfl, e5⟩, e5]
    · rw [if_neg (by omega), gi_si]
      by_cases e4 : k = 4
      · rw [if_pos ⟨rfl, e4⟩, e4]
      · rw [if_neg (by omega)]
        exact hN k (by omega)
  have go := ol_says hK hw hq h1 h3 hX2 hN2 (fun τ' g => kk τ' (Fr_tr f1 (Fr_mono g (fun _ _ z => Or.inl z)))) (E (q + 1) - E q) (E q) (f + 4000) (fun _ => 0) _ (by omega) (Nat.le_refl _) (by omega) (by omega) Fr_rf (fun i hi => absurd hi (by omega)) (by rw [h0]; rfl)
  rw [h0] at go
  rw [show (0 : Int32) = nI 0 from rfl]
  exact go
