/-! ===== all together ===== -/
def totS (T : xTw) : Nat := sumN (fun t => T 12 t * (bstS T t).1) (T 0 12)
theorem totS_n {T : xTw} (hR : rgT T) : ∀ n, n ≤ 8 → sumN (fun t => T 12 t * (bstS T t).1) n ≤ n * 49599000 := fun n hn => sumN_le n (fun i hi => by
  have a := rg_many hR (i := i) (by omega)
  have b := (okB_S hR (t := i) (by omega)).1
  have c : T 12 i * (bstS T i).1 ≤ 99 * 501000 := mul_le2 a b
  omega)
theorem totS_le {T : xTw} (hR : rgT T) : totS T ≤ 396792000 := by
  have h := rg_trips hR
  have := totS_n hR (T 0 12) h
  unfold totS
  omega
theorem cost_le {T : xTw} (hR : rgT T) {t : Nat} (ht : t < 8) : (bstS T t).1 ≤ 501000 := (okB_S hR ht).1
theorem e_total9 {T : xTw} (hR : rgT T) {s : xM} (hK : xTk s T) (hL : lookS s T) : fX8_total s = some (lN (totS T), s) := by
  have h12 := rg_trips hR
  obtain ⟨f, hf⟩ := fu_big
  have key : ∀ (m t n : Nat), t + m = T 0 12 → m < n → fX8_total_L4 (fun x1 s2 => some (x1, s2)) n (lN (sumN (fun t => T 12 t * (bstS T t).1) t)) (nI t) s = some (lN (totS T), s) := by
    intro m
    induction m with
    | zero =>
      intro t n ht hn
      obtain ⟨n, rfl⟩ : ∃ n', n = n' + 1 := ⟨n - 1, by omega⟩
      unfold fX8_total_L4
      rw [xK_trips hK, if_pos (nI_le (by omega) (by omega)), show t = T 0 12 by omega]
      rfl
    | succ m ih =>
      intro t n ht hn
      obtain ⟨n, rfl⟩ : ∃ n', n = n' + 1 := ⟨n - 1, by omega⟩
      have a := rg_many hR (i := t) (by omega)
      have b := cost_le hR (t := t) (by omega)
      have hl := (hL t (by omega)).1.1
      unfold fX8_total_L4
      rw [xK_trips hK, if_neg (nI_ge (by omega) (by omega))]
      simp (disch := omega) only [inb_n, gd_t, nI_clamp, lz, xK_many hK, hl, nI_l, lN_mul, lN_add, nI_1]
      exact ih (t + 1) n (by omega) (by omega)
  unfold fX8_total
  rw [hf]
  exact key (T 0 12) 0 (f + 4000) (by omega) (by omega)
/-- the dearest: who (one more), what it costs -/
def drS (T : xTw) : Nat → Nat × Nat
  | 0 => (0, 0)
  | n + 1 => if (drS T n).1 = 0 ∨ (drS T n).2 < (bstS T n).1 then (n + 1, (bstS T n).1) else drS T n
theorem drS_ok (T : xTw) : ∀ n, ((drS T n).1 = 0 ∧ n = 0 ∧ (drS T n).2 = 0) ∨ (1 ≤ (drS T n).1 ∧ (drS T n).1 ≤ n ∧ (drS T n).2 = (bstS T ((drS T n).1 - 1)).1)
  | 0 => Or.inl ⟨rfl, rfl, rfl⟩
  | n + 1 => by
    have ih := drS_ok T n
    by_cases c : (drS T n).1 = 0 ∨ (drS T n).2 < (bstS T n).1
    · have e : drS T (n + 1) = (n + 1, (bstS T n).1) := if_pos c
      rw [e]
      exact Or.inr ⟨Nat.succ_le_succ (Nat.zero_le _), Nat.le_refl _, rfl⟩
    · have e : drS T (n + 1) = drS T n := if_neg c
      rw [e]
      rcases ih with h | h
      · exact absurd (Or.inl h.1) c
      · exact Or.inr ⟨h.1, by omega, h.2.2⟩
theorem pred_neg {n : Nat} (h : n < 2 ^ 31) : (nI n - 1 < 0) ↔ n = 0 := by
  constructor
  · intro c
    refine Classical.byContradiction fun z => ?_
    obtain ⟨m, rfl⟩ : ∃ m, n = m + 1 := ⟨n - 1, by omega⟩
    rw [nI_pred] at c
    exact nI_pos (by omega) c
  · rintro rfl
    decide
theorem e_dearest {T : xTw} (hR : rgT T) {s : xM} (hK : xTk s T) (hL : lookS s T) : fX8_dearest s = some (nI (drS T (T 0 12)).1 - 1, s) := by
  have h12 := rg_trips hR
  obtain ⟨f, hf⟩ := fu_big
  have key : ∀ (m t n : Nat), t + m = T 0 12 → m < n → fX8_dearest_L4 (fun x1 s2 => some (x1, s2)) n (nI (drS T t).1 - 1) (nI t) s = some (nI (drS T (T 0 12)).1 - 1, s) := by
    intro m
    induction m with
    | zero =>
      intro t n ht hn
      obtain ⟨n, rfl⟩ : ∃ n', n = n' + 1 := ⟨n - 1, by omega⟩
      unfold fX8_dearest_L4
      rw [xK_trips hK, if_pos (nI_le (by omega) (by omega)), show t = T 0 12 by omega]
    | succ m ih =>
      intro t n ht hn
      obtain ⟨n, rfl⟩ : ∃ n', n = n' + 1 := ⟨n - 1, by omega⟩
      have g := ih (t + 1) n (by omega) (by omega)
      have hl := (hL t (by omega)).1.1
      have b := cost_le hR (t := t) (by omega)
      unfold fX8_dearest_L4
      rw [xK_trips hK, if_neg (nI_ge (by omega) (by omega))]
      rcases drS_ok T t with ⟨h1, h2, h3⟩ | ⟨h1, h2, h3⟩
      · have e : drS T (t + 1) = (t + 1, (bstS T t).1) := if_pos (Or.inl h1)
        rw [if_pos ((pred_neg (by omega)).mpr h1), nI_1]
        rw [e] at g
        have g2 : nI (t + 1, (bstS T t).1).1 - 1 = nI t := nI_pred t
        rw [g2] at g
        exact g
      · have b2 := cost_le hR (t := (drS T t).1 - 1) (by omega)
        have hl2 := (hL ((drS T t).1 - 1) (by omega)).1.1
        rw [if_neg (fun q => by have := (pred_neg (by omega)).mp q; omega)]
        have ep : nI (drS T t).1 - 1 = nI ((drS T t).1 - 1) := by rw [q1, pk_sub h1]
        rw [ep]
        simp (disch := omega) only [inb_n, gd_t, nI_clamp, hl, hl2, nI_1]
        by_cases c : (drS T t).1 = 0 ∨ (drS T t).2 < (bstS T t).1
        · have e : drS T (t + 1) = (t + 1, (bstS T t).1) := if_pos c
          rw [e] at g
          have g2 : nI (t + 1, (bstS T t).1).1 - 1 = nI t := nI_pred t
          rw [g2] at g
          rw [if_neg (nI_ge (by omega) (by omega))]
          exact g
        · have e : drS T (t + 1) = drS T t := if_neg c
          rw [e, ep] at g
          rw [if_pos (nI_le (by omega) (by omega))]
          exact g
  unfold fX8_dearest
  rw [hf]
  exact key (T 0 12) 0 (f + 4000) (by omega) (by omega)
theorem drS_le {T : xTw} (hR : rgT T) : (drS T (T 0 12)).1 ≤ 8 ∧ (drS T (T 0 12)).2 ≤ 501000 := by
  have h12 := rg_trips hR
  rcases drS_ok T (T 0 12) with h | h
  · omega
  · have := cost_le hR (t := (drS T (T 0 12)).1 - 1) (by omega)
    omega
theorem e_dearestCost {T : xTw} (hR : rgT T) {s : xM} (hK : xTk s T) (hL : lookS s T) : fX8_dearestCost s = some (nI (drS T (T 0 12)).2, s) := by
  have h12 := rg_trips hR
  unfold fX8_dearestCost
  rw [e_dearest hR hK hL, bd_some]
  rcases drS_ok T (T 0 12) with ⟨h1, h2, h3⟩ | ⟨h1, h2, h3⟩
  · rw [h1, h3, if_neg (by decide)]
    rfl
  · have ep : nI (drS T (T 0 12)).1 - 1 = nI ((drS T (T 0 12)).1 - 1) := by rw [q1, pk_sub h1]
    have hl2 := (hL ((drS T (T 0 12)).1 - 1) (by omega)).1.1
    rw [ep, if_pos (nI_pos' (by omega)), gd_of (inb_n (by omega) (by omega)), nI_clamp (by omega), hl2, h3]
/-! the model's total -/
def mxW (T : xTw) : Nat → Nat
  | 0 => 0
  | n + 1 => if mxW T n < wayW T n (bstS T n) then wayW T n (bstS T n) else mxW T n
theorem mxW_iff (T : xTw) (x : Nat) : ∀ n, mxW T n ≤ x ↔ ∀ t, t < n → wayW T t (bstS T t) ≤ x
  | 0 => ⟨fun _ t ht => absurd ht (Nat.not_lt_zero _), fun _ => Nat.zero_le _⟩
  | n + 1 => by
    have ih := mxW_iff T x n
    have e : mxW T (n + 1) = if mxW T n < wayW T n (bstS T n) then wayW T n (bstS T n) else mxW T n := rfl
    rw [e]
    constructor
    · intro h t ht
      by_cases c : mxW T n < wayW T n (bstS T n)
      · rw [if_pos c] at h
        by_cases q : t = n
        · rw [q]; exact h
        · exact ih.mp (by omega) t (by omega)
      · rw [if_neg c] at h
        by_cases q : t = n
        · rw [q]; omega
        · exact ih.mp h t (by omega)
    · intro h
      have h1 := ih.mpr (fun t ht => h t (by omega))
      have h2 := h n (by omega)
      split <;> omega
theorem wayW_le {T : xTw} (hR : rgT T) {t : Nat} (ht : t < 8) : wayW T t (bstS T t) ≤ 48000 := by
  have hb := okB_S hR ht
  have a := rg_from hR ht
  have b := rg_to hR ht
  have e := rg_tsort hR ht
  have d := wkS_le hR (a := T 10 t) (b := T 11 t) (k := T 13 t) (by omega) (by omega) (by omega)
  unfold wayW
  split
  · unfold dirS
    omega
  · exact wlkS_le hR ht (by have := hb.2; omega) (by have := hb.2; omega)
theorem mxW_le {T : xTw} (hR : rgT T) {n : Nat} (hn : n ≤ 8) : mxW T n ≤ 48000 := (mxW_iff T 48000 n).mpr (fun t ht => wayW_le hR (by omega))
def frV (c i : Nat) : Prop := (c = 0 ∧ 37 ≤ i ∧ i ≤ 46) ∨ c = 25
theorem frV_off {c i : Nat} (h : frV c i) : ¬ vT c i := by
  unfold frV at h
  unfold vT
  omega
theorem frV_ask {c i : Nat} (h : frV c i) : mAsk c i := by
  unfold frV at h
  unfold mAsk
  omega
theorem frW_V {c i : Nat} (h : frW c i) : frV c i := by
  unfold frW at h
  unfold frV
  omega
/-- what a total leaves -/
def totM (s : xM) (T : xTw) (n : Nat) : Prop := (∀ t, t < n → gi s 25 t = nI (bstS T t).1) ∧ gi s 0 44 = nI (mxW T n) ∧ gi s 0 45 = nI (drS T n).2 ∧ gi s 0 46 = nI (drS T n).1 - 1
theorem ol_mtotal {T : xTw} (hR : rgT T) {kt : Int64 → xM → Option (Int64 × xM)} {Q : Int64 → xM → Prop} : ∀ (m t n : Nat) (s : xM), t + m = T 0 12 → m < n → mTn s T → totM s T t → (∀ s', Fr frV s s' → totM s' T (T 0 12) → Ok (kt (lN (totS T)) s') Q) → Ok (fX10_total_L19 kt n (lN (sumN (fun t => T 12 t * (bstS T t).1) t)) (nI t) s) Q := by
  have h12 := rg_trips hR
  intro m
  induction m with
  | zero =>
    intro t n s ht hn hT hM kk
    obtain ⟨n, rfl⟩ : ∃ n', n = n' + 1 := ⟨n - 1, by omega⟩
    have e12 := hT 0 12 (vt0 (by omega))
    have et : t = T 0 12 := by omega
    unfold fX10_total_L19
    refine ok_T (by rw [e12]; exact nI_le (by omega) (by omega)) ?_
    rw [et] at hM ⊢
    exact kk s Fr_rf hM
  | succ m ih =>
    intro t n s ht hn hT hM kk
    obtain ⟨n, rfl⟩ : ∃ n', n = n' + 1 := ⟨n - 1, by omega⟩
    have e12 := hT 0 12 (vt0 (by omega))
    have ht8 : t < 8 := by omega
    have a := rg_many hR ht8
    have b := cost_le hR ht8
    have w := wayW_le hR ht8
    have mw := mxW_le hR (n := t) (by omega)
    unfold fX10_total_L19
    refine ok_F (by rw [e12]; exact nI_ge (by omega) (by omega)) ?_
    refine ok_B (of_finds hR hT ht8 (fun s1 f1 w1 => ?_))
    obtain ⟨w37, -, -, w40, -, -⟩ := w1
    have g1 : Fr frV s s1 := Fr_mono f1 (fun _ _ => frW_V)
    have hT1 := mTn_fr hT g1 (fun _ _ => frV_off)
    rw [w37]
    simp (disch := omega) only [ok_gd, ok_lz, inb_n, true_and, nI_clamp]
    have g2 : Fr frV s (si s1 25 t (nI (bstS T t).1)) := Fr_si g1 _ (Or.inr rfl)
    have hT2 := mTn_fr hT g2 (fun _ _ => frV_off)
    have e37 : gi (si s1 25 t (nI (bstS T t).1)) 0 37 = nI (bstS T t).1 := by
      rw [gi_si, if_neg (by omega)]
      exact w37
    have e40 : gi (si s1 25 t (nI (bstS T t).1)) 0 40 = nI (wayW T t (bstS T t)) := by
      rw [gi_si, if_neg (by omega)]
      exact w40
    have e44 : gi (si s1 25 t (nI (bstS T t).1)) 0 44 = nI (mxW T t) := by
      rw [gi_si, if_neg (by omega), (f1 0 44 (by unfold frW; omega)).1]
      exact hM.2.1
    rw [hT2 12 t (vt3 (by omega) (by omega) ht8), e37, e40, e44, nI_l (by omega), nI_l (by omega), lN_mul, lN_add]
    have es : sumN (fun t => T 12 t * (bstS T t).1) (t + 1) = sumN (fun t => T 12 t * (bstS T t).1) t + T 12 t * (bstS T t).1 := rfl
    rw [← es]
    -- the most walked
    have step : Ok (fX10_total_J81 kt (fX10_total_L19 kt n) (lN (sumN (fun t => T 12 t * (bstS T t).1) (t + 1))) (nI t) (nI (mxW T (t + 1))) (si s1 25 t (nI (bstS T t).1))) Q := by
      unfold fX10_total_J81 fX10_total_J103
      refine ok_lz.mpr ?_
      have g3 := Fr_si g2 (c := 0) (i := 44) (nI (mxW T (t + 1))) (Or.inl ⟨rfl, by omega, by omega⟩)
      have e46 : gi (si (si s1 25 t (nI (bstS T t).1)) 0 44 (nI (mxW T (t + 1)))) 0 46 = nI (drS T t).1 - 1 := by
        rw [gi_si, if_neg (by omega), gi_si, if_neg (by omega), (f1 0 46 (by unfold frW; omega)).1]
        exact hM.2.2.2
      have e45 : gi (si (si s1 25 t (nI (bstS T t).1)) 0 44 (nI (mxW T (t + 1)))) 0 45 = nI (drS T t).2 := by
        rw [gi_si, if_neg (by omega), gi_si, if_neg (by omega), (f1 0 45 (by unfold frW; omega)).1]
        exact hM.2.2.1
      have e37' : gi (si (si s1 25 t (nI (bstS T t).1)) 0 44 (nI (mxW T (t + 1)))) 0 37 = nI (bstS T t).1 := by
        rw [gi_si, if_neg (by omega)]
        exact e37
      have h25 : ∀ u, u < t + 1 → gi (si (si s1 25 t (nI (bstS T t).1)) 0 44 (nI (mxW T (t + 1)))) 25 u = nI (bstS T u).1 := by
        intro u hu
        rw [gi_si, if_neg (by omega), gi_si]
        by_cases q : u = t
        · rw [if_pos ⟨rfl, q⟩, q]
        · rw [if_neg (by omega), (f1 25 u (by unfold frW; omega)).1]
          exact hM.1 u (by omega)
      have h44 : gi (si (si s1 25 t (nI (bstS T t).1)) 0 44 (nI (mxW T (t + 1)))) 0 44 = nI (mxW T (t + 1)) := gi_same _ _ _ _
      have d8 := drS_ok T t
      have dl : (drS T t).2 ≤ 501000 := by
        rcases d8 with q | q
        · omega
        · have := cost_le hR (t := (drS T t).1 - 1) (by omega)
          omega
      generalize hS : si (si s1 25 t (nI (bstS T t).1)) 0 44 (nI (mxW T (t + 1))) = S at *
      have more : (drS T t).1 = 0 ∨ (drS T t).2 < (bstS T t).1 → Ok (lz (si S 0 46 (nI t)) fun s1 => lz (si s1 0 45 (gi s1 0 37)) fun s3 => fX10_total_L19 kt n (lN (sumN (fun t => T 12 t * (bstS T t).1) (t + 1))) (nI t + 1) s3) Q := by
        intro c
        have e : drS T (t + 1) = (t + 1, (bstS T t).1) := if_pos c
        simp only [ok_lz]
        rw [nI_1, show gi (si S 0 46 (nI t)) 0 37 = nI (bstS T t).1 from by rw [gi_si, if_neg (by omega)]; exact e37']
        have g4 := Fr_si (Fr_si g3 (c := 0) (i := 46) (nI t) (Or.inl ⟨rfl, by omega, by omega⟩)) (c := 0) (i := 45) (nI (bstS T t).1) (Or.inl ⟨rfl, by omega, by omega⟩)
        refine ih (t + 1) n _ (by omega) (by omega) (mTn_fr hT g4 (fun _ _ => frV_off)) ⟨fun u hu => ?_, ?_, ?_, ?_⟩ (fun s' f => kk s' (Fr_tr g4 f))
        · rw [gi_si, if_neg (by omega), gi_si, if_neg (by omega)]
          exact h25 u hu
        · rw [gi_si, if_neg (by omega), gi_si, if_neg (by omega)]
          exact h44
        · rw [e, gi_same]
        · rw [e, gi_si, if_neg (by omega), gi_same]
          exact (nI_pred t).symm
      by_cases c1 : (drS T t).1 = 0
      · exact ok_T (by rw [e46, c1]; rfl) (more (Or.inl c1))
      · have ep : nI (drS T t).1 - 1 = nI ((drS T t).1 - 1) := by rw [q1, pk_sub (by omega)]
        refine ok_F (by rw [e46, ep]; exact nI_m1 (by omega)) ?_
        rw [e37', e45]
        by_cases c2 : (drS T t).2 < (bstS T t).1
        · exact ok_F (nI_ge c2 (by omega)) (more (Or.inr c2))
        · refine ok_T (nI_le (by omega) (by omega)) ?_
          rw [nI_1]
          have e : drS T (t + 1) = drS T t := if_neg (by omega)
          refine ih (t + 1) n _ (by omega) (by omega) (mTn_fr hT g3 (fun _ _ => frV_off)) ⟨h25, h44, ?_, ?_⟩ (fun s' f => kk s' (Fr_tr g3 f))
          · rw [e]; exact e45
          · rw [e]; exact e46
    by_cases c : mxW T t < wayW T t (bstS T t)
    · have e : mxW T (t + 1) = wayW T t (bstS T t) := if_pos c
      rw [e] at step
      exact ok_F (nI_ge c (by omega)) step
    · have e : mxW T (t + 1) = mxW T t := if_neg c
      rw [e] at step
      exact ok_T (nI_le (by omega) (by omega)) step
theorem of_total {T : xTw} (hR : rgT T) {s : xM} {Q : Int64 → xM → Prop} (hT : mTn s T) (kk : ∀ s', Fr frV s s' → totM s' T (T 0 12) → Q (lN (totS T)) s') : Ok (fX10_total s) Q := by
  have h12 := rg_trips hR
  obtain ⟨f, hf⟩ := fu_big
  unfold fX10_total
  simp only [ok_lz]
  rw [hf]
  have g1 : Fr frV s (si (si (si s 0 44 0) 0 45 0) 0 46 (-1)) := Fr_si (Fr_si (Fr_si Fr_rf _ (Or.inl ⟨rfl, by omega, by omega⟩)) _ (Or.inl ⟨rfl, by omega, by omega⟩)) _ (Or.inl ⟨rfl, by omega, by omega⟩)
  exact ol_mtotal hR (T 0 12) 0 (f + 4000) _ (by omega) (by omega) (mTn_fr hT g1 (fun _ _ => frV_off)) ⟨fun u hu => absurd hu (Nat.not_lt_zero _), rfl, rfl, rfl⟩ (fun s' f2 w => ok_R (kk s' (Fr_tr g1 f2) w))
/-! ===== who gets in or out at a stop ===== -/
def useB (T : xTw) (p t : Nat) : Nat := if (bstS T t).2.1 = p + 1 ∨ (bstS T t).2.2 = p + 1 then T 12 t else 0
def useS (T : xTw) (p : Nat) : Nat := sumN (useB T p) (T 0 12)
theorem useN_le {T : xTw} (hR : rgT T) (p : Nat) {n : Nat} (hn : n ≤ 8) : sumN (useB T p) n ≤ n * 99 := sumN_le n (fun i hi => by
  have := rg_many hR (i := i) (by omega)
  unfold useB
  split <;> omega)
theorem useS_le {T : xTw} (hR : rgT T) (p : Nat) : useS T p ≤ 792 := by
  have h12 := rg_trips hR
  have := useN_le hR p h12
  unfold useS
  omega
theorem pred_eq {b p : Nat} (hb : b < 100) (hp : p < 100) : (nI b - 1 = nI p) ↔ b = p + 1 := by
  constructor
  · intro h
    by_cases c : b = 0
    · subst c
      exact absurd h.symm (nI_m1 (by omega))
    · rw [q1, pk_sub (by omega), nI_eq (by omega) (by omega)] at h
      omega
  · rintro rfl
    exact nI_pred p
theorem e_usersOf {T : xTw} (hR : rgT T) {s : xM} (hK : xTk s T) (hL : lookS s T) {p : Nat} (hp : p < 8) : fX8_usersOf (nI p) s = some (nI (useS T p), s) := by
  have h12 := rg_trips hR
  obtain ⟨f, hf⟩ := fu_big
  have key : ∀ (m t n : Nat), t + m = T 0 12 → m < n → fX8_usersOf_L4 (fun x1 s2 => some (x1, s2)) (nI p) n (nI (sumN (useB T p) t)) (nI t) s = some (nI (useS T p), s) := by
    intro m
    induction m with
    | zero =>
      intro t n ht hn
      obtain ⟨n, rfl⟩ : ∃ n', n = n' + 1 := ⟨n - 1, by omega⟩
      unfold fX8_usersOf_L4
      rw [xK_trips hK, if_pos (nI_le (by omega) (by omega)), show t = T 0 12 by omega]
      rfl
    | succ m ih =>
      intro t n ht hn
      obtain ⟨n, rfl⟩ : ∃ n', n = n' + 1 := ⟨n - 1, by omega⟩
      have g := ih (t + 1) n (by omega) (by omega)
      have es : sumN (useB T p) (t + 1) = sumN (useB T p) t + useB T p t := rfl
      rw [es] at g
      have hl := (hL t (by omega)).1
      have hb := (okB_S hR (t := t) (by omega)).2
      have z1 : ∀ x, x = (bstS T t).2.1 → ((nI x - 1 = nI p) ↔ x = p + 1) := fun x hx => pred_eq (by omega) (by omega)
      have z2 : ∀ x, x = (bstS T t).2.2 → ((nI x - 1 = nI p) ↔ x = p + 1) := fun x hx => pred_eq (by omega) (by omega)
      unfold fX8_usersOf_L4 fX8_usersOf_J35
      rw [xK_trips hK, if_neg (nI_ge (by omega) (by omega))]
      simp (disch := omega) only [inb_n, gd_t, nI_clamp, lz, hl.2.1, hl.2.2, z1 _ rfl, z2 _ rfl, xK_many hK, nI_add, nI_1]
      by_cases c1 : (bstS T t).2.1 = p + 1
      · rw [if_pos c1]
        rw [show useB T p t = T 12 t from if_pos (Or.inl c1)] at g
        exact g
      · rw [if_neg c1]
        by_cases c2 : (bstS T t).2.2 = p + 1
        · rw [if_pos c2]
          rw [show useB T p t = T 12 t from if_pos (Or.inr c2)] at g
          exact g
        · rw [if_neg c2]
          rw [show useB T p t = 0 from if_neg (by omega)] at g
          exact g
  unfold fX8_usersOf
  rw [hf]
  exact key (T 0 12) 0 (f + 4000) (by omega) (by omega)
theorem of_useOf {T : xTw} (hR : rgT T) {s : xM} {Q : Int32 → xM → Prop} (hT : mTn s T) {p : Nat} (hp : p < 8) (kk : ∀ s', Fr frW s s' → Q (nI (useS T p)) s') : Ok (fX10_useOf (nI p) s) Q := by
  have h12 := rg_trips hR
  obtain ⟨f, hf⟩ := fu_big
  have key : ∀ (m t n : Nat) (s1 : xM), t + m = T 0 12 → m < n → Fr frW s s1 → Ok (fX10_useOf_L4 (fun x1 s2 => some (x1, s2)) (nI p) n (nI (sumN (useB T p) t)) (nI t) s1) Q := by
    intro m
    induction m with
    | zero =>
      intro t n s1 ht hn g
      obtain ⟨n, rfl⟩ : ∃ n', n = n' + 1 := ⟨n - 1, by omega⟩
      have hT1 := mTn_fr hT g (fun _ _ => frW_off)
      unfold fX10_useOf_L4
      refine ok_T (by rw [hT1 0 12 (vt0 (by omega))]; exact nI_le (by omega) (by omega)) (ok_R ?_)
      rw [show t = T 0 12 by omega]
      exact kk s1 g
    | succ m ih =>
      intro t n s1 ht hn g
      obtain ⟨n, rfl⟩ : ∃ n', n = n' + 1 := ⟨n - 1, by omega⟩
      have ht8 : t < 8 := by omega
      have hT1 := mTn_fr hT g (fun _ _ => frW_off)
      have hb := (okB_S hR ht8).2
      have es : sumN (useB T p) (t + 1) = sumN (useB T p) t + useB T p t := rfl
      have z1 : ∀ x, x = (bstS T t).2.1 → ((nI x - 1 = nI p) ↔ x = p + 1) := fun x hx => pred_eq (by omega) (by omega)
      have z2 : ∀ x, x = (bstS T t).2.2 → ((nI x - 1 = nI p) ↔ x = p + 1) := fun x hx => pred_eq (by omega) (by omega)
      unfold fX10_useOf_L4 fX10_useOf_J34
      refine ok_F (by rw [hT1 0 12 (vt0 (by omega))]; exact nI_ge (by omega) (by omega)) ?_
      refine ok_B (of_finds hR hT1 ht8 (fun s2 f2 w => ?_))
      have g2 := Fr_tr g f2
      have gg := ih (t + 1) n s2 (by omega) (by omega) g2
      rw [es] at gg
      have hT2 := mTn_fr hT g2 (fun _ _ => frW_off)
      simp (disch := omega) only [ok_gd, inb_n, true_and, nI_clamp, lz, w.2.1, w.2.2.1, z1 _ rfl, z2 _ rfl, hT2 12 t (vt3 (by omega) (by omega) ht8), nI_add, nI_1]
      by_cases c1 : (bstS T t).2.1 = p + 1
      · refine ok_T c1 ?_
        simp (disch := omega) only [ok_gd, inb_n, true_and]
        rw [show useB T p t = T 12 t from if_pos (Or.inl c1)] at gg
        exact gg
      · refine ok_F c1 ?_
        by_cases c2 : (bstS T t).2.2 = p + 1
        · refine ok_T c2 ?_
          simp (disch := omega) only [ok_gd, inb_n, true_and]
          rw [show useB T p t = T 12 t from if_pos (Or.inr c2)] at gg
          exact gg
        · refine ok_F c2 ?_
          rw [show useB T p t = 0 from if_neg (by omega)] at gg
          rw [show nI (sumN (useB T p) t) + (0 : Int32) = nI (sumN (useB T p) t + 0) from nI_add _ 0]
          exact gg
  unfold fX10_useOf
  rw [hf]
  exact key (T 0 12) 0 (f + 4000) s (by omega) (by omega) Fr_rf
/-! ===== takes, sum, use ===== -/
theorem frW_ask {c i : Nat} (h : frW c i) : mAsk c i := frV_ask (frW_V h)
theorem sim_takes : xs_takes RR := by
  intro σ τ h a0 a1
  refine sim_of ?_
  obtain ⟨T, n, h⟩ := h
  have hR := h.1
  have hX := h.2.2.1
  have hM := h.2.2.2.1
  have h12 := rg_trips hR
  unfold fX9_takes fX10_takes
  simp only [e_isTrip9, e_isTrip10, e_isWithin, bd_some, xT_trips hX.1, hM 0 12 (vt0 (by omega))]
  rcases rcaseN a0 (N := T 0 12) (by omega) with c | ⟨c, t, ht, rfl⟩
  · simp only [c, ↓reduceIte]
    exact sim_R h rfl
  simp only [c, n10, ↓reduceIte]
  refine rr_B (of_finds hR hM (by omega) (fun s2 f2 w => ?_))
  have g2 : Fr mAsk τ s2 := Fr_mono f2 (fun _ _ => frW_ask)
  obtain ⟨w1, w2, w3, w4, w5, w6⟩ := w
  rcases rcase a1 (M := 5) (n := 5) rfl with d | ⟨d, x, hx, rfl⟩
  · have d0 : ¬ a1 = 0 := fun e => by subst e; revert d; decide
    have d1 : ¬ a1 = 1 := fun e => by subst e; revert d; decide
    have d2 : ¬ a1 = 2 := fun e => by subst e; revert d; decide
    have d3 : ¬ a1 = 3 := fun e => by subst e; revert d; decide
    have d4 : ¬ a1 = 4 := fun e => by subst e; revert d; decide
    have d5 : ¬ a1 = 5 := fun e => by subst e; revert d; decide
    simp only [d, d0, d1, d2, d3, d4, d5, ↓reduceIte]
    exact sim_R (RT_ask h Fr_rf g2) rfl
  simp only [d, n10, ↓reduceIte]
  refine rl_B (of_lookAtNow hR hX (fun s1 f1 m1 l1 => ?_))
  have hh := RT_ask h f1 g2
  obtain ⟨⟨l71, l72, l73⟩, l74, l75, l76⟩ := l1 t ht
  simp (disch := omega) only [inb_n, gd_t, nI_clamp, l71, l72, l73, l74, l75, l76, w1, w2, w3, w4, w5, w6]
  have fin : ∀ (r : Int32), Rel (some (r, s1)) (some (r, s2)) SimP := fun r => sim_R hh rfl
  by_cases b0 : nI x = 0
  · simp only [b0, ↓reduceIte]
    exact fin _
  simp only [b0, ↓reduceIte]
  by_cases b1 : nI x = 1
  · simp only [b1, ↓reduceIte]
    exact fin _
  simp only [b1, ↓reduceIte]
  by_cases b2 : nI x = 2
  · simp only [b2, ↓reduceIte]
    exact fin _
  simp only [b2, ↓reduceIte]
  by_cases b3 : nI x = 3
  · simp only [b3, ↓reduceIte]
    exact fin _
  simp only [b3, ↓reduceIte]
  by_cases b4 : nI x = 4
  · simp only [b4, ↓reduceIte]
    exact fin _
  have b5 : nI x = 5 := by
    have e : x = 5 := by
      rcases (show x = 0 ∨ x = 1 ∨ x = 2 ∨ x = 3 ∨ x = 4 ∨ x = 5 by omega) with rfl | rfl | rfl | rfl | rfl | rfl
      · exact absurd rfl b0
      · exact absurd rfl b1
      · exact absurd rfl b2
      · exact absurd rfl b3
      · exact absurd rfl b4
      · rfl
    rw [e]
    rfl
  simp only [b4, b5, ↓reduceIte]
  exact fin _
theorem sim_sum : xs_sum RR := by
  intro σ τ h a0
  refine sim_of ?_
  obtain ⟨T, n, h⟩ := h
  have hR := h.1
  have hX := h.2.2.1
  have hM := h.2.2.2.1
  unfold fX9_sum fX10_sum
  simp only [e_isWithin, e_in, bd_some]
  by_cases d : a0 < 0 ∨ 2 < a0
  · simp only [d, ↓reduceIte]
    exact sim_R h rfl
  simp only [d, n10, ↓reduceIte]
  refine rl_B (of_lookAtNow hR hX (fun s1 f1 m1 l1 => ?_))
  have hK1 := xTk_of (xCT_fr hX f1 (fun _ _ => xAsk_27)).1
  refine rr_B (of_total hR hM (fun s2 f2 w => ?_))
  have hh := RT_ask h f1 (Fr_mono f2 (fun _ _ => frV_ask))
  obtain ⟨-, -, w45, w46⟩ := w
  simp only [e_total9 hR hK1 l1, e_dearest hR hK1 l1, e_dearestCost hR hK1 l1, bd_some, w45, w46]
  by_cases b0 : a0 = 0
  · simp only [b0, ↓reduceIte]
    exact sim_R hh rfl
  simp only [b0, ↓reduceIte]
  by_cases b1 : a0 = 1
  · simp only [b1, ↓reduceIte]
    exact sim_R hh rfl
  simp only [b1, ↓reduceIte]
  exact sim_R hh rfl
theorem sim_use : xs_use RR := by
  intro σ τ h a0
  refine sim_of ?_
  obtain ⟨T, n, h⟩ := h
  have hR := h.1
  have hX := h.2.2.1
  have hM := h.2.2.2.1
  have h8 := rg_stops hR
  unfold fX9_use fX10_use
  simp only [e_isStop9, e_isStop10, bd_some, xT_stops hX.1, hM 0 4 (vt0 (by omega))]
  rcases rcaseN a0 (N := T 0 4) (by omega) with c | ⟨c, p, hp, rfl⟩
  · simp only [c, ↓reduceIte]
    exact sim_R h rfl
  simp only [c, n10, ↓reduceIte]
  refine rl_B (of_lookAtNow hR hX (fun s1 f1 m1 l1 => ?_))
  have hK1 := xTk_of (xCT_fr hX f1 (fun _ _ => xAsk_27)).1
  rw [e_usersOf hR hK1 l1 (by omega), bd_some]
  refine rr_B (of_useOf hR hM (by omega) (fun s2 f2 => ?_))
  exact sim_R (RT_ask h f1 (Fr_mono f2 (fun _ _ => frW_ask))) rfl
