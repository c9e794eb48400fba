/-! ===== sets looked at one after the other ===== -/
theorem cmp_lt {a b : Nat} (ha : a < 2 ^ 63) (hb : b < 2 ^ 63) : lg_cmp (lN a) (lN b) < 0 ↔ a < b := (lg_cmp_lt _ _).trans (pk_lLT ha hb)
theorem cmp_eq {a b : Nat} (ha : a < 2 ^ 63) (hb : b < 2 ^ 63) : lg_cmp (lN a) (lN b) = 0 ↔ a = b := (lg_cmp_eq _ _).trans (pk_lEQ ha hb)
theorem cmp_ge {a b : Nat} (ha : a < 2 ^ 63) (hb : b < 2 ^ 63) : 0 ≤ lg_cmp (lN a) (lN b) ↔ b ≤ a := (lg_cmp_ge _ _).trans (pk_lLE hb ha)
theorem cmp_gt {a b : Nat} (ha : a < 2 ^ 63) (hb : b < 2 ^ 63) : 0 < lg_cmp (lN a) (lN b) ↔ b < a := (lg_cmp_gt _ _).trans (pk_lLT hb ha)
theorem cmp_le {a b : Nat} (ha : a < 2 ^ 63) (hb : b < 2 ^ 63) : lg_cmp (lN a) (lN b) ≤ 0 ↔ a ≤ b := (lg_cmp_le _ _).trans (pk_lLE ha hb)
theorem wO_04 {T : xTw} {x : Nat} : wO T x 0 4 = T 0 4 := wO_ne (by omega)
theorem wO_012 {T : xTw} {x : Nat} : wO T x 0 12 = T 0 12 := wO_ne (by omega)
theorem wO_02 {T : xTw} {x : Nat} : wO T x 0 2 = T 0 2 := wO_ne (by omega)
/-- the model's town, whatever is open -/
def mTb (s : xM) (T : xTw) : Prop := (∀ c i, vT c i → c ≠ 7 → gi s c i = nI (T c i)) ∧ (∀ i, T 0 4 ≤ i → i < 8 → gi s 7 i = nI (T 7 i))
theorem mTb_of {s : xM} {T : xTw} (h : mTn s T) : mTb s T := ⟨fun c i hv _ => h c i hv, fun i _ hi => h 7 i (vt3 (by omega) (by omega) hi)⟩
theorem mTb_wO {s : xM} {T : xTw} {x : Nat} (h : mTn s (wO T x)) : mTb s T := ⟨fun c i hv q => by rw [h c i hv, wO_ne q], fun i q hi => by rw [h 7 i (vt3 (by omega) (by omega) hi), wO_hi (by omega)]⟩
theorem mTb_fr {P : Nat → Nat → Prop} {s s' : xM} {T : xTw} (h : mTb s T) (f : Fr P s s') (hp : ∀ c i, P c i → ¬ vT c i) : mTb s' T := ⟨fun c i hv q => by
  rw [(f _ _ (fun z => hp _ _ z hv)).1]
  exact h.1 c i hv q, fun i q hi => by
  rw [(f _ _ (fun z => hp _ _ z (vt3 (by omega) (by omega) hi))).1]
  exact h.2 i q hi⟩
/-- the model's open row is kept -/
def keptM (s : xM) (T : xTw) : Prop := ∀ p, p < 8 → gi s 30 p = nI (T 7 p)
theorem ol_totalWith {T : xTw} (hR : rgT T) {x : Nat} (hx : x < 256) {kt : xM → Option (Int64 × xM)} {Q : Int64 → xM → Prop} : ∀ (m p n : Nat) (s : xM), p + m = T 0 4 → m < n → mTb s T → (∀ i, i < p → gi s 7 i = nI (bitN x i)) → (∀ s', Fr (fun c _ => c = 7) s s' → mTn s' (wO T x) → Ok (kt s') Q) → Ok (fX10_totalWith_L2 kt (nI x) n (nI p) s) Q := by
  have h8 := rg_stops hR
  intro m
  induction m with
  | zero =>
    intro p n s hp hn hb hd kk
    obtain ⟨n, rfl⟩ : ∃ n', n = n' + 1 := ⟨n - 1, by omega⟩
    have e4 := hb.1 0 4 (vt0 (by omega)) (by omega)
    unfold fX10_totalWith_L2
    refine ok_T (by rw [e4]; exact nI_le (by omega) (by omega)) ?_
    refine kk s Fr_rf (fun c i hv => ?_)
    by_cases q : c = 7
    · subst q
      by_cases z : i < T 0 4
      · rw [wO_at z]
        exact hd i (by omega)
      · rw [wO_hi z]
        unfold vT at hv
        exact hb.2 i (by omega) (by omega)
    · rw [wO_ne q]
      exact hb.1 c i hv q
  | succ m ih =>
    intro p n s hp hn hb hd kk
    obtain ⟨n, rfl⟩ : ∃ n', n = n' + 1 := ⟨n - 1, by omega⟩
    have e4 := hb.1 0 4 (vt0 (by omega)) (by omega)
    unfold fX10_totalWith_L2
    refine ok_F (by rw [e4]; exact nI_ge (by omega) (by omega)) ?_
    simp (disch := omega) only [ok_gd, ok_lz, inb_n, true_and, nI_clamp, nI_1]
    rw [tab_shr x hx p (by omega)]
    have f1 : Fr (fun c _ => c = 7) s (si s 7 p (nI (bitN x p))) := Fr_si Fr_rf _ rfl
    refine ih (p + 1) n _ (by omega) (by omega) ⟨fun c i hv q => ?_, fun i q hi => ?_⟩ (fun i hi => ?_) (fun s' f => kk s' (Fr_tr f1 f))
    · rw [(f1 c i q).1]
      exact hb.1 c i hv q
    · rw [gi_si, if_neg (by omega)]
      exact hb.2 i q hi
    · rw [gi_si]
      by_cases e : i = p
      · rw [if_pos ⟨rfl, e⟩, e]
      · rw [if_neg (by omega)]
        exact hd i (by omega)
theorem of_totalWith {T : xTw} (hR : rgT T) {x : Nat} (hx : x < 256) {s : xM} {Q : Int64 → xM → Prop} (hb : mTb s T) (kk : ∀ s', Fr (fun c i => frV c i ∨ c = 7) s s' → mTn s' (wO T x) → totM s' (wO T x) (T 0 12) → Q (lN (totS (wO T x))) s') : Ok (fX10_totalWith (nI x) s) Q := by
  have h8 := rg_stops hR
  obtain ⟨f, hf⟩ := fu_big
  unfold fX10_totalWith
  rw [hf]
  refine ol_totalWith hR hx (T 0 4) 0 (f + 4000) s (by omega) (by omega) hb (fun i hi => absurd hi (Nat.not_lt_zero _)) (fun s1 f1 m1 => ?_)
  refine ok_B (of_total (wO_rg hR x) m1 (fun s2 f2 w => ok_R (kk s2 (Fr_tr (Fr_mono f1 (fun _ _ q => Or.inr q)) (Fr_mono f2 (fun _ _ q => Or.inl q))) (mTn_fr m1 f2 (fun _ _ => frV_off)) ?_)))
  rw [wO_012] at w
  exact w
theorem of_keeps {T : xTw} {s : xM} {Q : Int32 → xM → Prop} (hT : mTn s T) (kk : ∀ s', Fr (fun c _ => c = 30) s s' → keptM s' T → Q 0 s') : Ok (fX10_keeps s) Q := by
  obtain ⟨f, hf⟩ := fu_big
  have key : ∀ (m p n : Nat) (s1 : xM), p + m = 8 → m < n → Fr (fun c _ => c = 30) s s1 → (∀ i, i < p → gi s1 30 i = nI (T 7 i)) → Ok (fX10_keeps_L2 (fun s1 => some (0, s1)) n (nI p) s1) Q := by
    intro m
    induction m with
    | zero =>
      intro p n s1 hp hn g hd
      obtain ⟨n, rfl⟩ : ∃ n', n = n' + 1 := ⟨n - 1, by omega⟩
      unfold fX10_keeps_L2
      refine ok_T (nI_le (a := 8) (by omega) (by omega)) (ok_R (kk s1 g (fun i hi => hd i (by omega))))
    | succ m ih =>
      intro p n s1 hp hn g hd
      obtain ⟨n, rfl⟩ : ∃ n', n = n' + 1 := ⟨n - 1, by omega⟩
      unfold fX10_keeps_L2
      refine ok_F (nI_ge (b := 8) (by omega) (by omega)) ?_
      simp (disch := omega) only [ok_gd, ok_lz, inb_n, true_and, nI_clamp, nI_1]
      rw [(g 7 p (by omega)).1, hT 7 p (vt3 (by omega) (by omega) (by omega))]
      refine ih (p + 1) n _ (by omega) (by omega) (Fr_si g _ rfl) (fun i hi => ?_)
      rw [gi_si]
      by_cases e : i = p
      · rw [if_pos ⟨rfl, e⟩, e]
      · rw [if_neg (by omega)]
        exact hd i (by omega)
  unfold fX10_keeps
  rw [hf]
  exact key 8 0 (f + 4000) s (by omega) (by omega) Fr_rf (fun i hi => absurd hi (Nat.not_lt_zero _))
theorem of_lays {T : xTw} {s : xM} {Q : Int32 → xM → Prop} (hb : mTb s T) (hk : keptM s T) (kk : ∀ s', Fr (fun c _ => c = 7) s s' → mTn s' T → Q 0 s') : Ok (fX10_lays s) Q := by
  obtain ⟨f, hf⟩ := fu_big
  have key : ∀ (m p n : Nat) (s1 : xM), p + m = 8 → m < n → Fr (fun c _ => c = 7) s s1 → (∀ i, i < p → gi s1 7 i = nI (T 7 i)) → Ok (fX10_lays_L2 (fun s1 => some (0, s1)) n (nI p) s1) Q := by
    intro m
    induction m with
    | zero =>
      intro p n s1 hp hn g hd
      obtain ⟨n, rfl⟩ : ∃ n', n = n' + 1 := ⟨n - 1, by omega⟩
      unfold fX10_lays_L2
      refine ok_T (nI_le (a := 8) (by omega) (by omega)) (ok_R (kk s1 g (fun c i hv => ?_)))
      by_cases q : c = 7
      · subst q
        unfold vT at hv
        exact hd i (by omega)
      · rw [(g c i q).1]
        exact hb.1 c i hv q
    | succ m ih =>
      intro p n s1 hp hn g hd
      obtain ⟨n, rfl⟩ : ∃ n', n = n' + 1 := ⟨n - 1, by omega⟩
      unfold fX10_lays_L2
      refine ok_F (nI_ge (b := 8) (by omega) (by omega)) ?_
      simp (disch := omega) only [ok_gd, ok_lz, inb_n, true_and, nI_clamp, nI_1]
      rw [(g 30 p (by omega)).1, hk p (by omega)]
      refine ih (p + 1) n _ (by omega) (by omega) (Fr_si g _ rfl) (fun i hi => ?_)
      rw [gi_si]
      by_cases e : i = p
      · rw [if_pos ⟨rfl, e⟩, e]
      · rw [if_neg (by omega)]
        exact hd i (by omega)
  unfold fX10_lays
  rw [hf]
  exact key 8 0 (f + 4000) s (by omega) (by omega) Fr_rf (fun i hi => absurd hi (Nat.not_lt_zero _))
/-- the class, measured -/
def xMe (σ : xM) (T : xTw) : Prop := xCT σ T ∧ Meas σ T
theorem xMe_fr {σ σ' : xM} {T : xTw} (h : xMe σ T) (hR : rgT T) (f : Fr frL σ σ') : xMe σ' T := ⟨xCT_fr h.1 f (fun _ _ q => xAsk_27 (frL_ask q)), frL_M h.2 hR f⟩
theorem xK_wO {σ : xM} {T : xTw} (h : xTk σ T) (x : Nat) : xTk σ (wO T x) := xTk_like h (like_wO T x) (wO_ne (by omega))
theorem of_lookAt {T : xTw} (hR : rgT T) {x : Nat} (hx : x < 256) {s : xM} {Q : Int32 → xM → Prop} (h : xMe s T) {a2 : Int32} (ha : a2 = nI (T 0 2)) (kk : ∀ s', Fr frL s s' → xMe s' T → xTk s' (wO T x) → lookS s' (wO T x) → Q 0 s') : Ok (fX8_look (nI x) a2 s) Q := by
  refine of_look (wO_rg hR x) (xK_wO (xTk_of h.1.1) x) (Meas_cg h.2 (like_wO T x)) (by rw [wO_02]; exact ha) (wO_bits hR hx) (fun s' f w => kk s' f (xMe_fr h hR f) (xK_wO (xTk_of (xMe_fr h hR f).1.1) x) w)
theorem of_totalOf {T : xTw} (hR : rgT T) {x : Nat} (hx : x < 256) {s : xM} {Q : Int64 → xM → Prop} (h : xMe s T) (kk : ∀ s', Fr frL s s' → xMe s' T → xTk s' (wO T x) → lookS s' (wO T x) → Q (lN (totS (wO T x))) s') : Ok (fX9_totalOf (nI x) s) Q := by
  unfold fX9_totalOf
  refine ok_B (of_lookAt hR hx h (xT_every h.1.1) (fun s' f m k w => ?_))
  rw [e_total9 (wO_rg hR x) k w, bd_some]
  exact ok_R (kk s' f m k w)
theorem e_setCount {T : xTw} (hR : rgT T) {s : xM} (hT : xTn s T) : fX6_setCount s = some (nI (2 ^ T 0 4), s) := by
  have h8 := rg_stops hR
  unfold fX6_setCount
  rw [xT_stops hT, tab_one _ (by omega)]
/-- behind sets: the model as it was -/
theorem RT_end {σ τ σ' τ' : xM} {T : xTw} {n : Nat} (h : RT σ τ T n) (f : Fr xAsk σ σ') (g : Fr mFree τ τ') (hM : mTn τ' T) : RT σ' τ' T n :=
  ⟨h.1, h.2.1, xCT_fr h.2.2.1 f (fun _ _ => xAsk_27), hM, rstR_fr h.2.2.2.2 f (fun _ _ => xAsk_free) g (fun _ _ q => q) (Nat.le_refl _)⟩
theorem ones_e {x : Nat} (hx : x < 256) (s : xM) : fX10_ones (nI x) s = some (nI (popN x), s) := by
  obtain ⟨f, hf⟩ := fu_big
  have key : ∀ (m k n : Nat), k + m = 8 → m < n → fX10_ones_L4 (fun x1 s2 => some (x1, s2)) (nI x) n (nI (sumN (fun k => bitN x k) k)) (nI k) s = some (nI (popN x), s) := by
    intro m
    induction m with
    | zero =>
      intro k n hk hn
      obtain ⟨n, rfl⟩ : ∃ n', n = n' + 1 := ⟨n - 1, by omega⟩
      unfold fX10_ones_L4
      rw [if_pos (show (8 : Int32) ≤ nI k from nI_le (a := 8) (by omega) (by omega)), show k = 8 by omega]
      rfl
    | succ m ih =>
      intro k n hk hn
      obtain ⟨n, rfl⟩ : ∃ n', n = n' + 1 := ⟨n - 1, by omega⟩
      unfold fX10_ones_L4
      rw [if_neg (show ¬ (8 : Int32) ≤ nI k from nI_ge (b := 8) (by omega) (by omega)), tab_shr x hx k (by omega)]
      simp only [lz]
      rw [nI_add, nI_1]
      exact ih (k + 1) n (by omega) (by omega)
  unfold fX10_ones
  rw [hf]
  exact key 8 0 (f + 4000) (by omega) (by omega)
/-! nobody walks more -/
theorem e_walksAtMost {T : xTw} (hR : rgT T) {s : xM} (hK : xTk s T) (hL : lookS s T) {w : Nat} (hw : w < 2 ^ 31) : fX9_walksAtMost (nI w) s = some (if mxW T (T 0 12) ≤ w then 1 else 0, s) := by
  have h12 := rg_trips hR
  obtain ⟨f, hf⟩ := fu_big
  have key : ∀ (m t n : Nat), t + m = T 0 12 → m < n → (∀ u, u < t → wayW T u (bstS T u) ≤ w) → fX9_walksAtMost_L2 (fun s1 => some ((0 : Int32), s1)) (fun s2 => some ((1 : Int32), s2)) (nI w) n (nI t) s = some (if mxW T (T 0 12) ≤ w then 1 else 0, s) := by
    intro m
    induction m with
    | zero =>
      intro t n ht hn hu
      obtain ⟨n, rfl⟩ : ∃ n', n = n' + 1 := ⟨n - 1, by omega⟩
      unfold fX9_walksAtMost_L2
      rw [xK_trips hK, if_pos (nI_le (by omega) (by omega)), if_pos ((mxW_iff T w _).mpr (fun u h => hu u (by omega)))]
    | succ m ih =>
      intro t n ht hn hu
      obtain ⟨n, rfl⟩ : ∃ n', n = n' + 1 := ⟨n - 1, by omega⟩
      have hl := (hL t (by omega)).2.1
      have b := wayW_le hR (t := t) (by omega)
      unfold fX9_walksAtMost_L2
      rw [xK_trips hK, if_neg (nI_ge (by omega) (by omega))]
      simp (disch := omega) only [inb_n, gd_t, nI_clamp, hl, nI_1]
      by_cases c : wayW T t (bstS T t) ≤ w
      · rw [if_pos (nI_le c hw)]
        refine ih (t + 1) n (by omega) (by omega) (fun u h => ?_)
        by_cases e : u = t
        · rw [e]; exact c
        · exact hu u (by omega)
      · rw [if_neg (nI_ge (by omega) (by omega)), if_neg (fun q => c ((mxW_iff T w _).mp q t (by omega)))]
  unfold fX9_walksAtMost
  rw [hf]
  exact key (T 0 12) 0 (f + 4000) (by omega) (by omega) (fun u h => absurd h (Nat.not_lt_zero _))
/-! nothing costs more than so much above now -/
def keptC (σ τ : xM) (C : Nat → Int32) (n : Nat) : Prop := ∀ t, t < n → gi σ 92 t = C t ∧ gi τ 31 t = C t
theorem drops_both {T : xTw} (hR : rgT T) {s t : xM} (hK : xTk s T) (hL : lookS s T) (hM : mTn t T) (h25 : ∀ u, u < T 0 12 → gi t 25 u = nI (bstS T u).1) {C : Nat → Int32} (hC : keptC s t C (T 0 12)) {d : Int32} (hd : ¬ d = 2147483647) : ∃ r : Int32, (r = 0 ∨ r = 1) ∧ fX9_dropsAtMost d s = some (r, s) ∧ fX10_isWithin d t = some (r, t) := by
  have h12 := rg_trips hR
  have e12 := hM 0 12 (vt0 (by omega))
  obtain ⟨f, hf⟩ := fu_big
  have key : ∀ (m u n n2 : Nat), u + m = T 0 12 → m < n → m < n2 → ∃ r : Int32, (r = 0 ∨ r = 1) ∧ fX9_dropsAtMost_L2 (fun s1 => some ((0 : Int32), s1)) (fun s2 => some ((1 : Int32), s2)) d n (nI u) s = some (r, s) ∧ fX10_isWithin_L2 (fun s1 => some ((0 : Int32), s1)) (fun s2 => some ((1 : Int32), s2)) d n2 (nI u) t = some (r, t) := by
    intro m
    induction m with
    | zero =>
      intro u n n2 hu hn hn2
      obtain ⟨n, rfl⟩ : ∃ n', n = n' + 1 := ⟨n - 1, by omega⟩
      obtain ⟨n2, rfl⟩ : ∃ n', n2 = n' + 1 := ⟨n2 - 1, by omega⟩
      refine ⟨1, Or.inr rfl, ?_, ?_⟩
      · unfold fX9_dropsAtMost_L2
        rw [if_neg hd, xK_trips hK, if_pos (nI_le (by omega) (by omega))]
      · unfold fX10_isWithin_L2
        rw [e12, if_pos (nI_le (by omega) (by omega))]
    | succ m ih =>
      intro u n n2 hu hn hn2
      obtain ⟨n, rfl⟩ : ∃ n', n = n' + 1 := ⟨n - 1, by omega⟩
      obtain ⟨n2, rfl⟩ : ∃ n', n2 = n' + 1 := ⟨n2 - 1, by omega⟩
      have hl := (hL u (by omega)).1.1
      have hm := h25 u (by omega)
      have hc := hC u (by omega)
      unfold fX9_dropsAtMost_L2 fX10_isWithin_L2
      rw [if_neg hd, xK_trips hK, e12, if_neg (nI_ge (by omega) (by omega)), if_neg (nI_ge (by omega) (by omega))]
      simp (disch := omega) only [inb_n, gd_t, nI_clamp, hl, hm, hc.1, hc.2, nI_1]
      by_cases c : nI (bstS T u).1 - C u ≤ d
      · rw [if_pos c, if_pos c]
        exact ih (u + 1) n n2 (by omega) (by omega) (by omega)
      · rw [if_neg c, if_neg c]
        exact ⟨0, Or.inl rfl, rfl, rfl⟩
  unfold fX9_dropsAtMost fX10_isWithin
  rw [hf]
  exact key (T 0 12) 0 (f + 4000) (f + 4000) (by omega) (by omega) (by omega)
theorem drops_no (s : xM) : fX9_dropsAtMost 2147483647 s = some (1, s) := by
  obtain ⟨f, hf⟩ := fu_big
  unfold fX9_dropsAtMost
  rw [hf]
  unfold fX9_dropsAtMost_L2
  rw [if_pos rfl]
